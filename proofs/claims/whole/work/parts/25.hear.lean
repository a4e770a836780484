section C3
variable {l : Launch} {G : Gx} {d : Nat} {sh : Sh} {fR : FRt} {B v b win : Nat} {f : FI} {g : FL} {w : Wd} {m : List (Nat × Nat)} {π : Pl} {dl : Nat → Nat}
theorem C_isJoining {K : Int32 → FI → FL → Prop} {p tok : Nat} (hs : StM sh fR B) (hv : v < 22) (hR : RM f B v w m) (hN : wN w) (hP : PM f B b π) (hπ : πOK π) (hp : p < 4) (ht : tok < 2 ^ 31) (H : ∀ f' : FI, RM f' B v (joinS π w p tok).1 m → Fr B v f f' → K (bI (joinS π w p tok).2) f' g) : Cl l G (d + 2) 0 0 mX12_isJoining [.ref B, .int (nI v), .int (nI p), .int (nI tok)] (sh, f, g, fR) (qi sh fR K) := by
  have b0 := hN.2.1 p 0
  have b1 := hN.2.1 p 1
  have hb := hP.2.1
  have hkey := hπ.2.2.2.1
  have r10 := hR.1 10 (by unfold nset; omega)
  have no : (joinS π w p tok) = (refS w 0, false) → (inb (nI (40 * v + 10)) 880 ∧ inb (nI (40 * v + 10)) 880 ∧ qi sh fR K (some (.int (nI 0))) (sh, up2 f (B + 23) (40 * v + 10) (nI (w.1 10 + 1)), g, fR)) := by
    intro e
    refine ⟨inbN (by omega) (by decide), inbN (by omega) (by decide), _, _, _, rfl, rfl, ?_⟩
    have := H (up2 f (B + 23) (40 * v + 10) (nI (w.1 10 + 1))) (by rw [e]; exact hR.setn (by unfold nset; omega)) (Fr.rf.up (by unfold tch; omega))
    rw [e] at this
    exact this
  refine VX12_isJoining hs ?_
  rw [hP.1]
  simp (disch := omega) only [pk_mul, nI_add, clN, Nat.reduceAdd]
  rw [hP.2.2.2.2.2.1]
  simp (disch := omega) only [pk_mul, nI_add, clN]
  rw [hR.2.1 p 0 hp (by decide), hR.2.1 p 1 hp (by decide), pk_rem (by omega) (by decide) (by decide), r10, nI_add]
  refine ⟨inbN (by omega) (by decide), fun c1 => no ?_, fun c1 => ⟨inbN (by omega) (by decide), fun c2 => no ?_, fun c2 => ⟨inbN (by omega) (by decide), fun c3 => ?_, fun c3 => no ?_⟩⟩⟩
  · unfold joinS
    rw [if_pos (Or.inl ((nI_eq (by omega) (by decide)).mp c1))]
  · unfold joinS
    rw [if_pos (Or.inr (Or.inl ((nI_eq (by omega) (by decide)).mp c2)))]
  · have z1 : ¬ w.2.1 p 0 = 1 := fun z => c1 (by rw [z])
    have z2 : ¬ w.2.1 p 1 = 1 := fun z => c2 (by rw [z])
    have z3 : tok = (31 * π.1 4 + 17) % 1000 := (nI_eq ht (by omega)).mp c3
    have e : joinS π w p tok = (entS w p, true) := by
      unfold joinS
      rw [if_neg (by unfold tokS; omega)]
    refine ⟨inbN (by omega) (by decide), inbN (by omega) (by decide), _, _, _, rfl, rfl, ?_⟩
    have := H (up2 (up2 f (B + 23) (40 * v + 14 + 6 * p + 0) (nI 1)) (B + 23) (40 * v + 14 + 6 * p + 2) (nI 2000)) (by rw [e]; exact (hR.setp hp (by decide)).setp hp (by decide)) ((Fr.rf.up (by unfold tch; omega)).up (by unfold tch; omega))
    rw [e] at this
    exact this
  · unfold joinS
    rw [if_pos (Or.inr (Or.inr (fun z => c3 (by rw [z]; rfl))))]
theorem C_flyingAt {K : Int32 → FI → FL → Prop} {p n : Nat} (hs : StM sh fR B) (hv : v < 22) (hR : RM f B v w m) (hN : wN w) (hp : p < 2 ^ 31) (hn : n < 2 ^ 31) (H : K (oI (atS w p n)) f g) : Cl l G (d + 1) 0 0 mX12_flyingAt [.ref B, .int (nI v), .int (nI p), .int (nI n)] (sh, f, g, fR) (qi sh fR K) := by
  obtain ⟨h6, hl, hg⟩ := hR.2.2.1
  have hok := hN.2.2.1
  unfold atS at H
  generalize w.2.2.1 = lg at *
  refine VX12_flyingAt hs ?_
  have loop : ∀ (rest done : List Sg), lg = done ++ rest → done.findIdx? (fun s => s.1 == p && s.2.1 == n && s.2.2.2.2.2.2.1) = none → LpX12_flyingAt_3 l G d (qi sh fR K) sh fR B f g (nI v) (nI p) (nI n) (nI done.length) := by
    intro rest
    induction rest with
    | nil =>
      intro done e hd
      rw [List.append_nil] at e
      subst e
      refine VX12_flyingAt_3 hs ?_
      simp (disch := omega) only [pk_mul, nI_add, clN]
      rw [h6]
      refine ⟨inbN (by omega) (by decide), fun _ => ⟨_, _, _, rfl, rfl, ?_⟩, fun z => absurd (nI_le (Nat.le_refl _) (by omega)) z⟩
      rw [hd] at H
      exact H
    | cons s rest ih =>
      intro done e hd
      have hk : lg[done.length]? = some s := by rw [e]; exact at_len
      have hlt : done.length < lg.length := (List.getElem?_eq_some_iff.mp hk).1
      have hq := hok s (List.mem_of_getElem? hk)
      have next : (s.1 == p && s.2.1 == n && s.2.2.2.2.2.2.1) = false → LpX12_flyingAt_55 l G d (qi sh fR K) sh fR B f g (nI v) (nI p) (nI n) (nI done.length) := by
        intro hz
        refine VX12_flyingAt_55 hs ?_
        have := ih (done ++ [s]) (by rw [e]; simp) (by rw [List.findIdx?_append, hd]; simp [hz])
        rw [List.length_append, List.length_singleton] at this
        rw [nI_add]
        exact this
      have q0 := hq.1
      have q1 := hq.2.1
      refine VX12_flyingAt_3 hs ?_
      simp (disch := omega) only [pk_mul, nI_add, clN]
      rw [h6, hg _ s hk 0 (by decide), hg _ s hk 1 (by decide), hg _ s hk 6 (by decide)]
      refine ⟨inbN (by omega) (by decide), fun z => absurd z (nI_ge hlt (by omega)), fun _ => ⟨inbN (by omega) (by decide), fun c1 => next ?_, fun c1 => ⟨inbN (by omega) (by decide), fun c2 => next ?_, fun c2 => ⟨inbN (by omega) (by decide), fun c3 => next ?_, fun c3 => ⟨_, _, _, rfl, rfl, ?_⟩⟩⟩⟩⟩
      · have z : ¬ s.1 = p := fun z => c1 (by show nI s.1 = _; rw [z])
        simp [z]
      · have z : ¬ s.2.1 = n := fun z => c2 (by show nI s.2.1 = _; rw [z])
        simp [z]
      · have z : s.2.2.2.2.2.2.1 = false := by
          cases hz : s.2.2.2.2.2.2.1 with
          | false => rfl
          | true => exact absurd (bI_1.mpr hz) c3
        simp [z]
      · have z1 : s.1 = p := (nI_eq (by omega) hp).mp c1
        have z2 : s.2.1 = n := (nI_eq (by omega) hn).mp c2
        have z3 : s.2.2.2.2.2.2.1 = true := bI_1.mp c3
        have e1 : lg.findIdx? (fun s => s.1 == p && s.2.1 == n && s.2.2.2.2.2.2.1) = some done.length := by
          rw [e, List.findIdx?_append, hd, List.findIdx?_cons]
          simp [z1, z2, z3]
        rw [e1] at H
        exact H
  exact loop lg [] rfl rfl
theorem forN_le {n k : Nat} {body : Nat → Nat → Nat} (h : ∀ p x, body p x ≤ x + k) : forN n body 0 ≤ n * k := by
  induction n with
  | zero => exact Nat.zero_le _
  | succ n ih =>
    have := h n (forN n body 0)
    show body n (forN n body 0) ≤ _
    rw [Nat.succ_mul]
    omega
theorem C_grows {K : FI → FL → Prop} {p : Nat} (hs : StM sh fR B) (hv : v < 22) (hR : RM f B v w m) (hN : wN w) (hP : PM f B b π) (hπ : πOK π) (hp : p < 4) (hall : 0 < allS π w) (H : ∀ f' : FI, RM f' B v (growS π w p) m → Fr B v f f' → K f' g) : Cl l G (d + 2) 0 0 mX12_grows [.ref B, .int (nI v), .int (nI p)] (sh, f, g, fR) (qv sh fR K) := by
  have hb := hP.2.1
  have hnp := hπ.2.2.2.2.2.1
  have hle : ∀ k, forN k (fun p n => if freS w p then n + w.2.1 p 2 else n) 0 ≤ k * 500000 := fun k => forN_le (fun q x => by
    have := hN.2.1 q 2
    by_cases c : freS w q = true
    · rw [if_pos c]; omega
    · rw [if_neg c]; omega)
  refine VX12_grows hs ?_
  have loop : ∀ n k, n + k = π.1 6 → LpX12_grows_5 l G d (qv sh fR K) sh fR B f g (nI v) (nI p) (lN (forN k (fun p n => if freS w p then n + w.2.1 p 2 else n) 0)) (nI k) := by
    intro n
    induction n with
    | zero =>
      intro k hk
      rw [Nat.zero_add] at hk
      subst hk
      have ha : forN (π.1 6) (fun p n => if freS w p then n + w.2.1 p 2 else n) 0 = allS π w := rfl
      have hl := hle (π.1 6)
      rw [ha] at hl ⊢
      have hc := hN.2.1 p 2
      have hq : 1000000 / allS π w ≤ 1000000 := Nat.div_le_self _ _
      refine VX12_grows_5 hs ?_
      rw [hP.1]
      simp (disch := omega) only [pk_mul, nI_add, clN]
      rw [hP.2.2.2.2.2.2.2.1, hR.2.1 p 2 hp (by decide), nI_l (by omega), pk_lDiv (by decide) hall (by omega), lN_add]
      refine ⟨inbN (by omega) (by decide), fun _ => ⟨inbN (by omega) (by decide), ?_, fun z ez => ⟨fun c1 => ⟨inbN (by omega) (by decide), _, _, rfl, rfl, ?_⟩, fun c1 => ⟨inbN (by omega) (by decide), _, _, rfl, rfl, ?_⟩⟩⟩, fun z => absurd (nI_le (Nat.le_refl _) (by omega)) z⟩
      · intro z
        have := (pk_lEQ (a := allS π w) (b := 0) (by omega) (by decide)).mp z
        omega
      · subst ez
        have c2 := (pk_lLE (by omega) (by decide)).mp c1
        rw [lN_i]
        have hgw : growS π w p = wpt w p 2 (w.2.1 p 2 + 1000000 / allS π w) := by unfold growS; rw [if_neg (by omega)]
        exact H _ (by rw [hgw]; exact hR.setp (i := 2) hp (by decide)) (Fr.rf.up (by unfold tch; omega))
      · subst ez
        have c2 : 99000 < w.2.1 p 2 + 1000000 / allS π w := Nat.not_le.mp (fun z => c1 ((pk_lLE (by omega) (by decide)).mpr z))
        have hgw : growS π w p = wpt w p 2 99000 := by unfold growS; rw [if_pos (by omega)]
        exact H _ (by rw [hgw]; exact hR.setp (i := 2) hp (by decide)) (Fr.rf.up (by unfold tch; omega))
    | succ n ih =>
      intro k hk
      have hl := hle k
      refine VX12_grows_5 hs ?_
      rw [hP.1]
      simp (disch := omega) only [pk_mul, nI_add, clN]
      rw [hP.2.2.2.2.2.2.2.1]
      refine ⟨inbN (by omega) (by decide), fun z => absurd z (nI_ge (by omega) (by omega)), fun _ => ?_⟩
      refine C_isFree hs hv hR hN (by omega) ⟨fun c => ?_, fun c => ⟨inbN (by omega) (by decide), ?_⟩⟩
      · have z1 : freS w k = false := bI_0.mp c
        intro z ez
        have e : forN (k + 1) (fun p n => if freS w p then n + w.2.1 p 2 else n) 0 = forN k (fun p n => if freS w p then n + w.2.1 p 2 else n) 0 := by
          show (if freS w k then _ else _) = _
          simp [z1]
        have := ih (k + 1) (by omega)
        rw [e] at this
        rw [ez, lN_add, Nat.add_zero]
        exact this
      · have z1 : freS w k = true := by
          cases hz : freS w k with
          | true => rfl
          | false => exact absurd (bI_0.mpr hz) c
        intro z ez
        have e : forN (k + 1) (fun p n => if freS w p then n + w.2.1 p 2 else n) 0 = forN k (fun p n => if freS w p then n + w.2.1 p 2 else n) 0 + w.2.1 k 2 := by
          show (if freS w k then _ else _) = _
          simp [z1]
        have hc := hN.2.1 k 2
        have := ih (k + 1) (by omega)
        rw [e] at this
        rw [ez, hR.2.1 k 2 (by omega) (by decide), nI_l (by omega), lN_add]
        exact this
  exact loop (π.1 6) 0 rfl
theorem wsc_self (w : Wd) (i : Nat) : wsc w i (w.1 i) = w := by
  have : fu w.1 i (w.1 i) = w.1 := funext fun j => by
    unfold fu
    split
    · rename_i e; rw [e]
    · rfl
  unfold wsc
  rw [this]
theorem wN.sc {w : Wd} {i x : Nat} (h : wN w) (hx : i < 5 → x ≤ 1000) : wN (wsc w i x) := by
  refine ⟨fun j hj => ?_, h.2.1, h.2.2.1, h.2.2.2⟩
  show fu w.1 i x j ≤ _
  unfold fu
  split
  · rename_i e; subst e; exact hx hj
  · exact h.1 j hj
theorem wN.pt {w : Wd} {p i x : Nat} (h : wN w) (hx : x ≤ 500000) : wN (wpt w p i x) := by
  refine ⟨h.1, fun q j => ?_, h.2.2.1, h.2.2.2⟩
  show up2 w.2.1 p i x q j ≤ _
  unfold up2
  split
  · exact hx
  · exact h.2.1 q j
theorem wN.sg {w : Wd} {lg : List Sg} (h : wN w) (hl : ∀ s ∈ lg, sOK s) : wN (wsg w lg) := ⟨h.1, h.2.1, hl, h.2.2.2⟩
theorem wN.an {w : Wd} {la : List An} (h : wN w) (hl : ∀ a ∈ la, aOK a) : wN (wan w la) := ⟨h.1, h.2.1, h.2.2.1, hl⟩
theorem allS_pt3 {w : Wd} {p x : Nat} : allS π (wpt w p 3 x) = allS π w := by
  have e : ∀ q i, i < 3 → up2 w.2.1 p 3 x q i = w.2.1 q i := fun q i hi => up2_k (by omega)
  have e2 : (fun (q : Nat) (n : Nat) => if freS (wpt w p 3 x) q then n + (wpt w p 3 x).2.1 q 2 else n) = (fun q n => if freS w q then n + w.2.1 q 2 else n) := by
    funext q n
    show (if (up2 w.2.1 p 3 x q 0 == 1 && up2 w.2.1 p 3 x q 1 == 0) = true then n + up2 w.2.1 p 3 x q 2 else n) = _
    rw [e q 0 (by decide), e q 1 (by decide), e q 2 (by decide)]
    rfl
  unfold allS
  rw [e2]
theorem hear1_an (w : Wd) (L : List An) (a : An) : hear1 π (wan w L) a = wan (hear1 π w a) L := by
  unfold hear1
  cases a.2.1 with
  | none => rfl
  | some n =>
    show (match atS (wsc (wsc w 2 (maxS a.2.2.1 (w.1 2))) 3 (maxS a.2.2.2.1 (w.1 3))) a.1 n with
      | none => _
      | some k => _) = _
    dsimp only
    cases atS (wsc (wsc w 2 (maxS a.2.2.1 (w.1 2))) 3 (maxS a.2.2.2.1 (w.1 3))) a.1 n with
    | none => rfl
    | some k => rfl
theorem foldl_hear1_an (L : List An) : ∀ (as : List An) (w : Wd), as.foldl (hear1 π) (wan w L) = wan (as.foldl (hear1 π) w) L
  | [], w => rfl
  | a :: as, w => by
    rw [List.foldl_cons, List.foldl_cons, hear1_an, foldl_hear1_an L as]
theorem sgFl_ok {s : Sg} {x : Bool} (h : sOK s) : sOK (sgFl s x) := h
theorem C_hears {I : Wd → Prop} {K : FI → FL → Prop} (hs : StM sh fR B) (hv : v < 22) (hR : RM f B v w m) (ha : ∀ a ∈ w.2.2.2.2.1, aOK a) (hP : PM f B b π) (hπ : πOK π)
    (hI : I w) (hIs : ∀ (w1 : Wd) (a : An), I w1 → a ∈ w.2.2.2.2.1 → a.2.2.2.2.1 = w.1 0 → I (hear1 π w1 a)) (hIn : ∀ w1, I w1 → wN w1 ∧ w1.1 0 = w.1 0 ∧ ∀ s ∈ w1.2.2.1, s.2.2.2.2.2.2.1 = true → 0 < allS π w1)
    (H : ∀ f' : FI, RM f' B v (hearS π w) m → Fr B v f f' → K f' g) : Cl l G (d + 3) 0 0 mX12_hears [.ref B, .int (nI v)] (sh, f, g, fR) (qv sh fR K) := by
  have hal := hR.2.2.2.2.1.2.1
  have loop : ∀ (R D : List An) (f0 : FI) (wk : Wd), w.2.2.2.2.1 = D ++ R → wk = (D.filter (fun a => a.2.2.2.2.1 == w.1 0)).foldl (hear1 π) w → I wk → RM f0 B v (wan wk (D.filter (fun a => !(a.2.2.2.2.1 == w.1 0)) ++ D.drop (D.filter (fun a => !(a.2.2.2.2.1 == w.1 0))).length ++ R)) m → Fr B v f f0 → LpX12_hears_4 l G d (qv sh fR K) sh fR B f0 g (nI v) (nI (D.filter (fun a => !(a.2.2.2.2.1 == w.1 0))).length) (nI D.length) := by
    intro R
    induction R with
    | nil =>
      intro D f0 wk e hwk hI0 hR0 hF
      rw [List.append_nil] at e hR0
      generalize hkD : D.filter (fun a => !(a.2.2.2.2.1 == w.1 0)) = kD at hR0 ⊢
      have hkl : kD.length ≤ D.length := by rw [← hkD]; exact List.length_filter_le _ _
      have hL : (kD ++ D.drop kD.length).length = D.length := by rw [List.length_append, List.length_drop]; omega
      have hDl : D.length ≤ 520 := by rw [← e]; exact hal
      obtain ⟨n8, -, hA⟩ := hR0.2.2.2.2.1
      replace n8 : f0 (B + 23) (40 * v + 8) = nI (kD ++ D.drop kD.length).length := n8
      replace hA : ∀ (k : Nat) (a : An), (kD ++ D.drop kD.length)[k]? = some a → ∀ i, i < 5 → f0 (B + 26) (5 * (520 * v + k) + i) = aE a i := hA
      rw [hL] at n8
      refine VX12_hears_4 hs ?_
      simp (disch := omega) only [pk_mul, nI_add, clN]
      rw [n8]
      refine ⟨inbN (by omega) (by decide), fun _ => ⟨inbN (by omega) (by decide), _, _, rfl, rfl, H _ ?_ (hF.up (by unfold tch; omega))⟩, fun z => absurd (nI_le (Nat.le_refl _) (by omega)) z⟩
      have ef : hearS π w = pcF (wan wk kD) := by
        unfold hearS
        rw [foldl_hear1_an, e, ← hwk, hkD]
      rw [ef]
      show RM _ B v (wan wk kD) m
      refine RM.repa (w := wan wk (kD ++ D.drop kD.length)) (l' := kD) hR0 (fun j a b c i hi => ?_) ⟨up2_eq, by omega, fun k a hk i hi => ?_⟩
      · by_cases ej : j = 23
        · subst ej
          exact up2_k (hi rfl)
        · exact up2_r (by omega)
      · rw [up2_r (by omega)]
        exact hA k a (by rw [List.getElem?_append_left (List.getElem?_eq_some_iff.mp hk).1]; exact hk) i hi
    | cons a R ih =>
      intro D f0 wk e hwk hI0 hR0 hF
      have hmem : a ∈ w.2.2.2.2.1 := by rw [e]; simp
      obtain ⟨q1, q2, q3, q4, q5⟩ := ha a hmem
      have ih2 := ih (D ++ [a])
      rw [List.length_append, List.length_singleton] at ih2
      generalize hkD : D.filter (fun a => !(a.2.2.2.2.1 == w.1 0)) = kD at hR0 ⊢
      have hkl : kD.length ≤ D.length := by rw [← hkD]; exact List.length_filter_le _ _
      have hnl : D.length + 1 + R.length ≤ 520 := by
        have : w.2.2.2.2.1.length = D.length + (R.length + 1) := by rw [e]; simp
        omega
      have hdl : (kD ++ D.drop kD.length).length = D.length := by rw [List.length_append, List.length_drop]; omega
      obtain ⟨hN, h0, hfl⟩ := hIn wk hI0
      obtain ⟨n8, -, hA⟩ := hR0.2.2.2.2.1
      replace n8 : f0 (B + 23) (40 * v + 8) = nI (kD ++ D.drop kD.length ++ a :: R).length := n8
      replace hA : ∀ (k : Nat) (a' : An), (kD ++ D.drop kD.length ++ a :: R)[k]? = some a' → ∀ i, i < 5 → f0 (B + 26) (5 * (520 * v + k) + i) = aE a' i := hA
      rw [List.length_append, hdl, List.length_cons] at n8
      have hk : (kD ++ D.drop kD.length ++ a :: R)[D.length]? = some a := by
        have := at_len (a := a) (l := kD ++ D.drop kD.length) (r := R)
        rw [hdl] at this
        exact this
      have hAk := hA _ a hk
      have ht : w.1 0 ≤ 1000 := by rw [← h0]; exact hN.1 0 (by decide)
      have hn0 : f0 (B + 23) (40 * v + 0) = nI (w.1 0) := by rw [← h0]; exact hR0.1 0 (by unfold nset; omega)
      refine VX12_hears_4 hs ?_
      simp (disch := omega) only [pk_mul, nI_add, clN]
      rw [n8, hAk 4 (by decide), hn0, hAk 0 (by decide), hAk 2 (by decide), hR0.1 2 (by unfold nset; omega)]
      refine ⟨inbN (by omega) (by decide), fun z => absurd z (nI_ge (by omega) (by omega)), fun _ => ⟨inbN (by omega) (by decide), inbN (by omega) (by decide), fun c1 => ⟨inbN (by omega) (by decide), fun p ep => ⟨inbN (by omega) (by decide), inbN (by omega) (by decide), ?_⟩⟩, fun c1 => ?_⟩⟩
      · have hat : a.2.2.2.2.1 = w.1 0 := (nI_eq (by omega) (by omega)).mp c1
        have hf1 : (D ++ [a]).filter (fun a => !(a.2.2.2.2.1 == w.1 0)) = kD := by rw [List.filter_append, hkD]; simp [hat]
        have hf2 : ((D ++ [a]).filter (fun a => a.2.2.2.2.1 == w.1 0)).foldl (hear1 π) w = hear1 π wk a := by rw [List.filter_append, List.foldl_append, ← hwk]; simp [hat]
        rw [hf1, hf2] at ih2
        have last : ∀ f2 : FI, RM f2 B v (wan (hear1 π wk a) (kD ++ D.drop kD.length ++ a :: R)) m → Fr B v f f2 → LpX12_hears_210 l G d (qv sh fR K) sh fR B f2 g (nI v) (nI kD.length) (nI D.length) := by
          intro f2 h1 h2
          refine VX12_hears_210 hs ?_
          rw [nI_add]
          refine ih2 f2 _ (by rw [e]; simp) rfl (hIs wk a hI0 hmem hat) ?_ h2
          have e3 : kD ++ (D ++ [a]).drop kD.length ++ R = kD ++ D.drop kD.length ++ a :: R := by
            rw [List.drop_append_of_le_length hkl]
            simp
          rw [e3]
          exact h1
        generalize hL : kD ++ D.drop kD.length ++ a :: R = L at *
        have hw1N : wN (wsc (wsc wk 2 (maxS a.2.2.1 (wk.1 2))) 3 (maxS a.2.2.2.1 (wk.1 3))) := by
          have z2 := hN.1 2 (by decide)
          have z3 := hN.1 3 (by decide)
          refine (hN.sc (fun _ => ?_)).sc (fun _ => ?_) <;> unfold maxS <;> split <;> omega
        have st3 : ∀ f2 : FI, RM f2 B v (wan (wsc (wsc wk 2 (maxS a.2.2.1 (wk.1 2))) 3 (maxS a.2.2.2.1 (wk.1 3))) L) m → Fr B v f f2 → LpX12_hears_144 l G d (qv sh fR K) sh fR B f2 g (nI v) (nI kD.length) (nI D.length) (nI a.1) := by
          intro f2 h1 h2
          have hA2 : ∀ i, i < 5 → f2 (B + 26) (5 * (520 * v + D.length) + i) = aE a i := fun i hi => h1.2.2.2.2.1.2.2 _ a hk i hi
          refine VX12_hears_144 hs ?_
          simp (disch := omega) only [pk_mul, nI_add, clN]
          rw [hA2 1 (by decide)]
          show inb _ _ ∧ (¬ oI a.2.1 = -1 → inb _ _ ∧ Cl _ _ _ _ _ _ [_, _, _, .int (oI a.2.1)] _ _) ∧ (oI a.2.1 = -1 → _)
          cases hnum : a.2.1 with
          | none =>
            refine ⟨inbN (by omega) (by decide), fun z => absurd rfl z, fun _ => last f2 ?_ h2⟩
            have : hear1 π wk a = wsc (wsc wk 2 (maxS a.2.2.1 (wk.1 2))) 3 (maxS a.2.2.2.1 (wk.1 3)) := by unfold hear1; rw [hnum]
            rw [this]
            exact h1
          | some n =>
            have hn5 := q2 n hnum
            refine ⟨inbN (by omega) (by decide), fun _ => ⟨inbN (by omega) (by decide), ?_⟩, fun z => absurd z (nI_m1 (by omega))⟩
            generalize hw1 : wsc (wsc wk 2 (maxS a.2.2.1 (wk.1 2))) 3 (maxS a.2.2.2.1 (wk.1 3)) = w1 at h1 hw1N
            have hat1 : atS (wan w1 L) a.1 n = atS w1 a.1 n := rfl
            refine C_flyingAt hs hv h1 (hw1N.an (fun x hx => by
              rw [← hL] at hx
              simp only [List.mem_append, List.mem_cons] at hx
              rcases hx with (hx | hx) | hx | hx
              · rw [← hkD] at hx
                exact ha x (by rw [e]; exact List.mem_append_left _ (List.mem_filter.mp hx).1)
              · exact ha x (by rw [e]; exact List.mem_append_left _ (List.mem_of_mem_drop hx))
              · rw [hx]; exact ha a hmem
              · exact ha x (by rw [e]; exact List.mem_append_right _ (List.mem_cons_of_mem _ hx)))) (by omega) (by omega) ?_
            rw [hat1]
            have hh : hear1 π wk a = (match atS w1 a.1 n with
                | none => w1
                | some k => growS π (wpt (wsg w1 (w1.2.2.1.modify k (fun s => sgFl s false))) a.1 3 0) a.1) := by
              unfold hear1
              rw [hnum]
              dsimp only
              rw [hw1]
              cases atS w1 a.1 n <;> rfl
            cases hat2 : atS w1 a.1 n with
            | none =>
              rw [hat2] at hh
              refine ⟨fun z => absurd rfl z, fun _ => last f2 ?_ h2⟩
              rw [hh]
              exact h1
            | some k =>
              rw [hat2] at hh
              have hkf := List.findIdx?_eq_some_iff_getElem.mp hat2
              obtain ⟨hklt, hkp, -⟩ := hkf
              have hkg : w1.2.2.1[k]? = some w1.2.2.1[k] := List.getElem?_eq_getElem hklt
              have hk480 : w1.2.2.1.length ≤ 480 := h1.2.2.1.2.1
              refine ⟨fun _ => ?_, fun z => absurd z (nI_m1 (by omega))⟩
              simp (disch := omega) only [show oI (some k) = nI k from rfl, pk_mul, nI_add, clN]
              refine ⟨inbN (by omega) (by decide), inbN (by omega) (by decide), ?_⟩
              have h4 := (h1.sgfl (w := wan w1 L) hkg).setp (p := a.1) (i := 3) (x := 0) q1 (by decide)
              have hs4 : wN (wpt (wsg (wan w1 L) (w1.2.2.1.set k (sgFl w1.2.2.1[k] false))) a.1 3 0) := by
                refine ((hw1N.an (la := L) ?_).sg ?_).pt (by decide)
                · intro x hx
                  rw [← hL] at hx
                  simp only [List.mem_append, List.mem_cons] at hx
                  rcases hx with (hx | hx) | hx | hx
                  · rw [← hkD] at hx
                    exact ha x (by rw [e]; exact List.mem_append_left _ (List.mem_filter.mp hx).1)
                  · exact ha x (by rw [e]; exact List.mem_append_left _ (List.mem_of_mem_drop hx))
                  · rw [hx]; exact ha a hmem
                  · exact ha x (by rw [e]; exact List.mem_append_right _ (List.mem_cons_of_mem _ hx))
                · intro x hx
                  rcases List.mem_or_eq_of_mem_set hx with hx | hx
                  · exact hw1N.2.2.1 x hx
                  · rw [hx]; exact sgFl_ok (hw1N.2.2.1 _ (List.getElem_mem hklt))
              have hpos : 0 < allS π wk := by
                refine hfl w1.2.2.1[k] ?_ ?_
                · have : w1.2.2.1 = wk.2.2.1 := by rw [← hw1]; rfl
                  rw [← this]
                  exact List.getElem_mem hklt
                · simp only [Bool.and_eq_true] at hkp
                  exact hkp.2
              have hall4 : allS π (wpt (wsg (wan w1 L) (w1.2.2.1.set k (sgFl w1.2.2.1[k] false))) a.1 3 0) = allS π wk := by
                have e9 : allS π w1 = allS π wk := by rw [← hw1]; rfl
                rw [allS_pt3]
                exact e9
              refine C_grows hs hv h4 hs4 (hP.congr (fun j a1 b1 i => ?_) ?_) hπ q1 (Nat.lt_of_lt_of_eq hpos hall4.symm) (fun f5 h5 h6 => last f5 ?_ ?_)
              · rw [up2_r (by omega), up2_r (by omega)]
                exact h2 _ _ (by unfold tch; omega)
              · rw [up2_r (by omega), up2_r (by omega)]
                exact h2 _ _ (by unfold tch; omega)
              · replace hh : hear1 π wk a = growS π (wpt (wsg w1 (w1.2.2.1.modify k (fun s => sgFl s false))) a.1 3 0) a.1 := hh
                rw [hh, modify_set _ hkg]
                exact h5
              · exact ((h2.up (by unfold tch; omega)).up (by unfold tch; omega)).tr h6
        have st2 : ∀ f2 : FI, RM f2 B v (wan (wsc wk 2 (maxS a.2.2.1 (wk.1 2))) L) m → Fr B v f f2 → LpX12_hears_115 l G d (qv sh fR K) sh fR B f2 g (nI v) (nI kD.length) (nI D.length) (nI a.1) := by
          intro f2 h1 h2
          have z3 := hN.1 3 (by decide)
          have hA2 : ∀ i, i < 5 → f2 (B + 26) (5 * (520 * v + D.length) + i) = aE a i := fun i hi => h1.2.2.2.2.1.2.2 _ a hk i hi
          have hn3 : f2 (B + 23) (40 * v + 3) = nI (wk.1 3) := h1.1 3 (by unfold nset; omega)
          refine VX12_hears_115 hs ?_
          simp (disch := omega) only [pk_mul, nI_add, clN]
          rw [hA2 3 (by decide), hn3]
          refine ⟨inbN (by omega) (by decide), inbN (by omega) (by decide), fun c2 => st3 f2 ?_ h2, fun c2 => ⟨inbN (by omega) (by decide), inbN (by omega) (by decide), st3 _ ?_ (h2.up (by unfold tch; omega))⟩⟩
          · have c3 : a.2.2.2.1 ≤ wk.1 3 := (nI_leI (by omega) (by omega)).mp c2
            have e4 : maxS a.2.2.2.1 (wk.1 3) = (wsc wk 2 (maxS a.2.2.1 (wk.1 2))).1 3 := by
              have e6 : maxS a.2.2.2.1 (wk.1 3) = wk.1 3 := by unfold maxS; rw [if_neg (by omega)]
              rw [e6]
              show wk.1 3 = fu wk.1 2 (maxS a.2.2.1 (wk.1 2)) 3
              unfold fu
              rw [if_neg (by decide)]
            rw [e4, wsc_self]
            exact h1
          · have c3 : wk.1 3 < a.2.2.2.1 := Nat.not_le.mp (fun z => c2 ((nI_leI (a := a.2.2.2.1) (b := wk.1 3) (by omega) (by omega)).mpr z))
            have e4 : maxS a.2.2.2.1 (wk.1 3) = a.2.2.2.1 := by unfold maxS; rw [if_pos c3]
            rw [e4]
            exact h1.setn (w := wan (wsc wk 2 (maxS a.2.2.1 (wk.1 2))) L) (by unfold nset; omega)
        have z2 := hN.1 2 (by decide)
        subst ep
        refine ⟨fun c2 => st2 f0 ?_ hF, fun c2 => ⟨inbN (by omega) (by decide), inbN (by omega) (by decide), st2 _ ?_ (hF.up (by unfold tch; omega))⟩⟩
        · have c3 : a.2.2.1 ≤ wk.1 2 := (nI_leI (by omega) (by omega)).mp c2
          have e4 : maxS a.2.2.1 (wk.1 2) = wk.1 2 := by unfold maxS; rw [if_neg (by omega)]
          rw [e4, wsc_self]
          exact hR0
        · have c3 : wk.1 2 < a.2.2.1 := Nat.not_le.mp (fun z => c2 ((nI_leI (a := a.2.2.1) (b := wk.1 2) (by omega) (by omega)).mpr z))
          have e4 : maxS a.2.2.1 (wk.1 2) = a.2.2.1 := by unfold maxS; rw [if_pos c3]
          rw [e4]
          exact hR0.setn (w := wan wk L) (by unfold nset; omega)
      · have hat : ¬ a.2.2.2.2.1 = w.1 0 := fun z => c1 (by show nI _ = _; rw [z])
        have hf1 : (D ++ [a]).filter (fun a => !(a.2.2.2.2.1 == w.1 0)) = kD ++ [a] := by rw [List.filter_append, hkD]; simp [hat]
        have hf2 : ((D ++ [a]).filter (fun a => a.2.2.2.2.1 == w.1 0)).foldl (hear1 π) w = wk := by rw [List.filter_append, List.foldl_append, ← hwk]; simp [hat]
        rw [hf1, hf2] at ih2
        have hself := fun f1 => ih2 f1 wk
        have inner : ∀ n i (f1 : FI), n + i = 5 → (∀ r k, ¬ (r = B + 26 ∧ 5 * (520 * v + kD.length) ≤ k ∧ k < 5 * (520 * v + kD.length) + 5) → f1 r k = f0 r k) → (∀ j, j < i → f1 (B + 26) (5 * (520 * v + kD.length) + j) = aE a j) → (∀ j, i ≤ j → j < 5 → f1 (B + 26) (5 * (520 * v + kD.length) + j) = f0 (B + 26) (5 * (520 * v + kD.length) + j)) → LpX12_hears_34 l G d (qv sh fR K) sh fR B f1 g (nI v) (nI kD.length) (nI D.length) (nI i) := by
          intro n
          induction n with
          | zero =>
            intro i f1 hi e1 e2 e3
            refine VX12_hears_34 hs ⟨fun _ => ?_, fun z => absurd (nI_le (by omega) (by omega)) z⟩
            refine VX12_hears_210 hs ?_
            rw [nI_add, nI_add]
            have := hself f1 (by rw [e]; simp) rfl hI0 ?_ (fun r k hz => by rw [e1 r k (fun q => hz (by unfold tch; omega))]; exact hF r k hz)
            · rw [List.length_append, List.length_singleton] at this
              exact this
            · have e5 : kD ++ [a] ++ (D ++ [a]).drop (kD ++ [a]).length ++ R = (kD ++ D.drop kD.length ++ a :: R).set kD.length a := by
                rw [List.length_append, List.length_singleton]
                by_cases ekd : kD.length = D.length
                · rw [ekd, List.drop_eq_nil_of_le (Nat.le_refl _), List.drop_eq_nil_of_le (by simp)]
                  simp [← ekd]
                · have hlt : kD.length < D.length := by omega
                  rw [List.drop_append_of_le_length (by omega), List.drop_eq_getElem_cons hlt]
                  generalize D[kD.length] = y
                  generalize List.drop (kD.length + 1) D = X
                  have e6 : kD ++ y :: X ++ a :: R = kD ++ (y :: (X ++ a :: R)) := by simp
                  rw [e6, List.set_append_right _ _ (Nat.le_refl _), Nat.sub_self, List.set_cons_zero]
                  simp
              rw [e5]
              refine RM.repa (w := wan wk (kD ++ D.drop kD.length ++ a :: R)) (l' := (kD ++ D.drop kD.length ++ a :: R).set kD.length a) hR0 (fun j a1 b1 c1 i hi => e1 _ _ (by omega)) ⟨?_, ?_, fun k a' hk' i' hi' => ?_⟩
              · rw [e1 _ _ (by omega), List.length_set]
                exact hR0.2.2.2.2.1.1
              · rw [List.length_set]
                exact hR0.2.2.2.2.1.2.1
              · by_cases ek : k = kD.length
                · subst ek
                  rw [List.getElem?_set_self (by rw [List.length_append, hdl, List.length_cons]; omega)] at hk'
                  cases hk'
                  exact e2 i' (by omega)
                · rw [List.getElem?_set_ne (fun z => ek z.symm)] at hk'
                  rw [e1 _ _ (by omega)]
                  exact hA k a' hk' i' hi'
          | succ n ih3 =>
            intro i f1 hi e1 e2 e3
            refine VX12_hears_34 hs ⟨fun z => absurd z (nI_ge (by omega) (by decide)), fun _ => ?_⟩
            simp (disch := omega) only [pk_mul, nI_add, clN]
            refine ⟨inbN (by omega) (by decide), inbN (by omega) (by decide), ?_⟩
            have hsrc : f1 (B + 26) (5 * (520 * v + D.length) + i) = aE a i := by
              by_cases ekd : kD.length = D.length
              · rw [← ekd, e3 i (Nat.le_refl _) (by omega), ekd]
                exact hAk i (by omega)
              · rw [e1 _ _ (by omega)]
                exact hAk i (by omega)
            rw [hsrc]
            refine ih3 (i + 1) _ (by omega) (fun r k hz => ?_) (fun j hj => ?_) (fun j hj hj5 => ?_)
            · rw [up2_ne (by omega)]
              exact e1 r k hz
            · by_cases ej : j = i
              · subst ej
                exact up2_eq
              · rw [up2_k (by omega)]
                exact e2 j (by omega)
            · rw [up2_k (by omega)]
              exact e3 j (by omega) hj5
        exact inner 5 0 f0 rfl (fun _ _ _ => rfl) (fun j hj => by omega) (fun _ _ _ => rfl)
  refine VX12_hears hs ?_
  have := loop w.2.2.2.2.1 [] f w rfl rfl hI hR Fr.rf
  exact this
end C3
