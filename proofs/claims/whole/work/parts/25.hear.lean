section C3
variable {l : Launch} {G : Gx} {d : Nat} {sh : Sh} {fR : FRt} {B v b win : Nat} {f : FI} {g : FL} {w : Wd} {m : List (Nat × Nat)} {π : Pl} {dl : Nat → Nat}
theorem C_isJoining {K : Int32 → FI → FL → Prop} {p tok : Nat} (hs : StM sh fR B) (hv : v < 22) (hR : RM f B v w m) (hN : wN w) (hP : PM f B b π) (hπ : πOK π) (hp : p < 4) (ht : tok < 2 ^ 31) (H : ∀ f' : FI, RM f' B v (joinS π w p tok).1 m → Fr B v f f' → K (bI (joinS π w p tok).2) f' g) : Cl l G (d + 2) 0 0 mX12_isJoining [.ref B, .int (nI v), .int (nI p), .int (nI tok)] (sh, f, g, fR) (qi sh fR K) := by
  have b0 := hN.2.1 p 0
  have b1 := hN.2.1 p 1
  have hb := hP.2.1
  have hkey := hπ.2.2.2.1
  have r10 := hR.1 10 (by unfold nset; omega)
  have no : (joinS π w p tok) = (refS w 0, false) → (inb (nI (40 * v + 10)) 880 ∧ inb (nI (40 * v + 10)) 880 ∧ qi sh fR K (some (.int (nI 0))) (sh, up2 f (B + 23) (40 * v + 10) (nI (w.1 10 + 1)), g, fR)) := by
    intro e
    refine ⟨inbN (by omega) (by decide), inbN (by omega) (by decide), _, _, _, rfl, rfl, ?_⟩
    have := H (up2 f (B + 23) (40 * v + 10) (nI (w.1 10 + 1))) (by rw [e]; exact hR.setn (by unfold nset; omega)) (Fr.rf.up (by unfold tch; omega))
    rw [e] at this
    exact this
  refine VX12_isJoining hs ?_
  rw [hP.1]
  simp (disch := omega) only [pk_mul, nI_add, clN, Nat.reduceAdd]
  rw [hP.2.2.2.2.2.1]
  simp (disch := omega) only [pk_mul, nI_add, clN]
  rw [hR.2.1 p 0 hp (by decide), hR.2.1 p 1 hp (by decide), pk_rem (by omega) (by decide) (by decide), r10, nI_add]
  refine ⟨inbN (by omega) (by decide), fun c1 => no ?_, fun c1 => ⟨inbN (by omega) (by decide), fun c2 => no ?_, fun c2 => ⟨inbN (by omega) (by decide), fun c3 => ?_, fun c3 => no ?_⟩⟩⟩
  · unfold joinS
    rw [if_pos (Or.inl ((nI_eq (by omega) (by decide)).mp c1))]
  · unfold joinS
    rw [if_pos (Or.inr (Or.inl ((nI_eq (by omega) (by decide)).mp c2)))]
  · have z1 : ¬ w.2.1 p 0 = 1 := fun z => c1 (by rw [z])
    have z2 : ¬ w.2.1 p 1 = 1 := fun z => c2 (by rw [z])
    have z3 : tok = (31 * π.1 4 + 17) % 1000 := (nI_eq ht (by omega)).mp c3
    have e : joinS π w p tok = (entS w p, true) := by
      unfold joinS
      rw [if_neg (by unfold tokS; omega)]
    refine ⟨inbN (by omega) (by decide), inbN (by omega) (by decide), _, _, _, rfl, rfl, ?_⟩
    have := H (up2 (up2 f (B + 23) (40 * v + 14 + 6 * p + 0) (nI 1)) (B + 23) (40 * v + 14 + 6 * p + 2) (nI 2000)) (by rw [e]; exact (hR.setp hp (by decide)).setp hp (by decide)) ((Fr.rf.up (by unfold tch; omega)).up (by unfold tch; omega))
    rw [e] at this
    exact this
  · unfold joinS
    rw [if_pos (Or.inr (Or.inr (fun z => c3 (by rw [z]; rfl))))]
theorem C_flyingAt {K : Int32 → FI → FL → Prop} {p n : Nat} (hs : StM sh fR B) (hv : v < 22) (hR : RM f B v w m) (hN : wN w) (hp : p < 2 ^ 31) (hn : n < 2 ^ 31) (H : K (oI (atS w p n)) f g) : Cl l G (d + 1) 0 0 mX12_flyingAt [.ref B, .int (nI v), .int (nI p), .int (nI n)] (sh, f, g, fR) (qi sh fR K) := by
  obtain ⟨h6, hl, hg⟩ := hR.2.2.1
  have hok := hN.2.2.1
  unfold atS at H
  generalize w.2.2.1 = lg at *
  refine VX12_flyingAt hs ?_
  have loop : ∀ (rest done : List Sg), lg = done ++ rest → done.findIdx? (fun s => s.1 == p && s.2.1 == n && s.2.2.2.2.2.2.1) = none → LpX12_flyingAt_3 l G d (qi sh fR K) sh fR B f g (nI v) (nI p) (nI n) (nI done.length) := by
    intro rest
    induction rest with
    | nil =>
      intro done e hd
      rw [List.append_nil] at e
      subst e
      refine VX12_flyingAt_3 hs ?_
      simp (disch := omega) only [pk_mul, nI_add, clN]
      rw [h6]
      refine ⟨inbN (by omega) (by decide), fun _ => ⟨_, _, _, rfl, rfl, ?_⟩, fun z => absurd (nI_le (Nat.le_refl _) (by omega)) z⟩
      rw [hd] at H
      exact H
    | cons s rest ih =>
      intro done e hd
      have hk : lg[done.length]? = some s := by rw [e]; exact at_len
      have hlt : done.length < lg.length := (List.getElem?_eq_some_iff.mp hk).1
      have hq := hok s (List.mem_of_getElem? hk)
      have next : (s.1 == p && s.2.1 == n && s.2.2.2.2.2.2.1) = false → LpX12_flyingAt_55 l G d (qi sh fR K) sh fR B f g (nI v) (nI p) (nI n) (nI done.length) := by
        intro hz
        refine VX12_flyingAt_55 hs ?_
        have := ih (done ++ [s]) (by rw [e]; simp) (by rw [List.findIdx?_append, hd]; simp [hz])
        rw [List.length_append, List.length_singleton] at this
        rw [nI_add]
        exact this
      have q0 := hq.1
      have q1 := hq.2.1
      refine VX12_flyingAt_3 hs ?_
      simp (disch := omega) only [pk_mul, nI_add, clN]
      rw [h6, hg _ s hk 0 (by decide), hg _ s hk 1 (by decide), hg _ s hk 6 (by decide)]
      refine ⟨inbN (by omega) (by decide), fun z => absurd z (nI_ge hlt (by omega)), fun _ => ⟨inbN (by omega) (by decide), fun c1 => next ?_, fun c1 => ⟨inbN (by omega) (by decide), fun c2 => next ?_, fun c2 => ⟨inbN (by omega) (by decide), fun c3 => next ?_, fun c3 => ⟨_, _, _, rfl, rfl, ?_⟩⟩⟩⟩⟩
      · have z : ¬ s.1 = p := fun z => c1 (by show nI s.1 = _; rw [z])
        simp [z]
      · have z : ¬ s.2.1 = n := fun z => c2 (by show nI s.2.1 = _; rw [z])
        simp [z]
      · have z : s.2.2.2.2.2.2.1 = false := by
          cases hz : s.2.2.2.2.2.2.1 with
          | false => rfl
          | true => exact absurd (bI_1.mpr hz) c3
        simp [z]
      · have z1 : s.1 = p := (nI_eq (by omega) hp).mp c1
        have z2 : s.2.1 = n := (nI_eq (by omega) hn).mp c2
        have z3 : s.2.2.2.2.2.2.1 = true := bI_1.mp c3
        have e1 : lg.findIdx? (fun s => s.1 == p && s.2.1 == n && s.2.2.2.2.2.2.1) = some done.length := by
          rw [e, List.findIdx?_append, hd, List.findIdx?_cons]
          simp [z1, z2, z3]
        rw [e1] at H
        exact H
  exact loop lg [] rfl rfl
theorem forN_le {n k : Nat} {body : Nat → Nat → Nat} (h : ∀ p x, body p x ≤ x + k) : forN n body 0 ≤ n * k := by
  induction n with
  | zero => exact Nat.zero_le _
  | succ n ih =>
    have := h n (forN n body 0)
    show body n (forN n body 0) ≤ _
    rw [Nat.succ_mul]
    omega
theorem C_grows {K : FI → FL → Prop} {p : Nat} (hs : StM sh fR B) (hv : v < 22) (hR : RM f B v w m) (hN : wN w) (hP : PM f B b π) (hπ : πOK π) (hp : p < 4) (hall : 0 < allS π w) (H : ∀ f' : FI, RM f' B v (growS π w p) m → Fr B v f f' → K f' g) : Cl l G (d + 2) 0 0 mX12_grows [.ref B, .int (nI v), .int (nI p)] (sh, f, g, fR) (qv sh fR K) := by
  have hb := hP.2.1
  have hnp := hπ.2.2.2.2.2.1
  have hle : ∀ k, forN k (fun p n => if freS w p then n + w.2.1 p 2 else n) 0 ≤ k * 500000 := fun k => forN_le (fun q x => by
    have := hN.2.1 q 2
    by_cases c : freS w q = true
    · rw [if_pos c]; omega
    · rw [if_neg c]; omega)
  refine VX12_grows hs ?_
  have loop : ∀ n k, n + k = π.1 6 → LpX12_grows_5 l G d (qv sh fR K) sh fR B f g (nI v) (nI p) (lN (forN k (fun p n => if freS w p then n + w.2.1 p 2 else n) 0)) (nI k) := by
    intro n
    induction n with
    | zero =>
      intro k hk
      rw [Nat.zero_add] at hk
      subst hk
      have ha : forN (π.1 6) (fun p n => if freS w p then n + w.2.1 p 2 else n) 0 = allS π w := rfl
      have hl := hle (π.1 6)
      rw [ha] at hl ⊢
      have hc := hN.2.1 p 2
      have hq : 1000000 / allS π w ≤ 1000000 := Nat.div_le_self _ _
      refine VX12_grows_5 hs ?_
      rw [hP.1]
      simp (disch := omega) only [pk_mul, nI_add, clN]
      rw [hP.2.2.2.2.2.2.2.1, hR.2.1 p 2 hp (by decide), nI_l (by omega), pk_lDiv (by decide) hall (by omega), lN_add]
      refine ⟨inbN (by omega) (by decide), fun _ => ⟨inbN (by omega) (by decide), ?_, fun z ez => ⟨fun c1 => ⟨inbN (by omega) (by decide), _, _, rfl, rfl, ?_⟩, fun c1 => ⟨inbN (by omega) (by decide), _, _, rfl, rfl, ?_⟩⟩⟩, fun z => absurd (nI_le (Nat.le_refl _) (by omega)) z⟩
      · intro z
        have := (pk_lEQ (a := allS π w) (b := 0) (by omega) (by decide)).mp z
        omega
      · subst ez
        have c2 := (pk_lLE (by omega) (by decide)).mp c1
        rw [lN_i]
        have hgw : growS π w p = wpt w p 2 (w.2.1 p 2 + 1000000 / allS π w) := by unfold growS; rw [if_neg (by omega)]
        exact H _ (by rw [hgw]; exact hR.setp (i := 2) hp (by decide)) (Fr.rf.up (by unfold tch; omega))
      · subst ez
        have c2 : 99000 < w.2.1 p 2 + 1000000 / allS π w := Nat.not_le.mp (fun z => c1 ((pk_lLE (by omega) (by decide)).mpr z))
        have hgw : growS π w p = wpt w p 2 99000 := by unfold growS; rw [if_pos (by omega)]
        exact H _ (by rw [hgw]; exact hR.setp (i := 2) hp (by decide)) (Fr.rf.up (by unfold tch; omega))
    | succ n ih =>
      intro k hk
      have hl := hle k
      refine VX12_grows_5 hs ?_
      rw [hP.1]
      simp (disch := omega) only [pk_mul, nI_add, clN]
      rw [hP.2.2.2.2.2.2.2.1]
      refine ⟨inbN (by omega) (by decide), fun z => absurd z (nI_ge (by omega) (by omega)), fun _ => ?_⟩
      refine C_isFree hs hv hR hN (by omega) ⟨fun c => ?_, fun c => ⟨inbN (by omega) (by decide), ?_⟩⟩
      · have z1 : freS w k = false := bI_0.mp c
        intro z ez
        have e : forN (k + 1) (fun p n => if freS w p then n + w.2.1 p 2 else n) 0 = forN k (fun p n => if freS w p then n + w.2.1 p 2 else n) 0 := by
          show (if freS w k then _ else _) = _
          simp [z1]
        have := ih (k + 1) (by omega)
        rw [e] at this
        rw [ez, lN_add, Nat.add_zero]
        exact this
      · have z1 : freS w k = true := by
          cases hz : freS w k with
          | true => rfl
          | false => exact absurd (bI_0.mpr hz) c
        intro z ez
        have e : forN (k + 1) (fun p n => if freS w p then n + w.2.1 p 2 else n) 0 = forN k (fun p n => if freS w p then n + w.2.1 p 2 else n) 0 + w.2.1 k 2 := by
          show (if freS w k then _ else _) = _
          simp [z1]
        have hc := hN.2.1 k 2
        have := ih (k + 1) (by omega)
        rw [e] at this
        rw [ez, hR.2.1 k 2 (by omega) (by decide), nI_l (by omega), lN_add]
        exact this
  exact loop (π.1 6) 0 rfl
/-- what a world keeps while answers are heard -/
def hOK (π : Pl) (w : Wd) : Prop := wN w ∧ (∀ s ∈ w.2.2.1, s.2.2.2.2.2.2.1 = true → 0 < allS π w) ∧ ∀ a ∈ w.2.2.2.2.1, aOK a
theorem RM.an {f : FI} {w : Wd} {L : List An} (h : RM f B v (wan w L) m) : RM f B v (wan w L) m := h
theorem C_hears {K : FI → FL → Prop} (hs : StM sh fR B) (hv : v < 22) (hR : RM f B v w m) (ha : ∀ a ∈ w.2.2.2.2.1, aOK a) (hP : PM f B b π) (hπ : πOK π)
    (hst : ∀ D R : List An, w.2.2.2.2.1 = D ++ R → wN ((D.filter (fun a => a.2.2.2.2.1 == w.1 0)).foldl (hear1 π) w) ∧ ((D.filter (fun a => a.2.2.2.2.1 == w.1 0)).foldl (hear1 π) w).1 0 = w.1 0 ∧ ∀ s ∈ ((D.filter (fun a => a.2.2.2.2.1 == w.1 0)).foldl (hear1 π) w).2.2.1, s.2.2.2.2.2.2.1 = true → 0 < allS π ((D.filter (fun a => a.2.2.2.2.1 == w.1 0)).foldl (hear1 π) w))
    (H : ∀ f' : FI, RM f' B v (hearS π w) m → Fr B v f f' → K f' g) : Cl l G (d + 3) 0 0 mX12_hears [.ref B, .int (nI v)] (sh, f, g, fR) (qv sh fR K) := by
  sorry
end C3
