/-! the reference's tick: pieces, what blocks, penalties, clearing -/
def ndS (w : Wd) (q : Nat × Nat) : Bool := decide (w.1 2 < q.1 + q.2)
section C8
variable {l : Launch} {G : Gx} {d : Nat} {sh : Sh} {fR : FRt} {B v b win : Nat} {f : FI} {g : FL} {w : Wd} {m : List (Nat × Nat)} {π : Pl} {dl : Nat → Nat}
theorem C_shifts {K : FI → FL → Prop} {n : Nat} (hs : StM sh fR B) (hv : v < 22) (hR : RM f B v w m) (hn : n ≤ m.length) (H : ∀ f' : FI, RM f' B v w (m.drop n) → (∀ r k, ¬ (r = B + 23 ∧ k = 40 * v + 7) → ¬ (r = B + 25 ∧ 960 * v ≤ k ∧ k < 960 * v + 960) → f' r k = f r k) → K f' g) : Cl l G (d + 1) 0 0 mX12_shifts [.ref B, .int (nI v), .int (nI n)] (sh, f, g, fR) (qv sh fR K) := by
  have hl := hR.2.2.2.1.2.1
  refine VX12_shifts hs ?_
  simp (disch := omega) only [pk_mul, nI_add, clN]
  rw [hR.2.2.2.1.1, pk_sub hn]
  refine ⟨fun c x hx => ⟨inbN (by omega) (by decide), fun y hy => ?_⟩, fun c => ⟨_, _, rfl, rfl, H f ?_ (fun _ _ _ _ => rfl)⟩⟩
  · subst hx
    subst hy
    have h0 : 0 < n := by
      apply Nat.pos_of_ne_zero
      intro z
      rw [z] at c
      exact c rfl
    have loop : ∀ q j (f0 : FI), q + j = 2 * (m.length - n) → (∀ r k, ¬ (r = B + 25 ∧ 960 * v ≤ k ∧ k < 960 * v + 960) → f0 r k = f r k) → (∀ i, i < j → f0 (B + 25) (960 * v + i) = f (B + 25) (960 * v + i + 2 * n)) → (∀ i, j ≤ i → f0 (B + 25) (960 * v + i) = f (B + 25) (960 * v + i)) → LpX12_shifts_25 l G d (qv sh fR K) sh fR B f0 g (nI v) (nI n) (nI (960 * v)) (nI (m.length - n)) (nI j) := by
      intro q
      induction q with
      | zero =>
        intro j f0 hj e1 e2 e3
        refine VX12_shifts_25 hs ?_
        simp (disch := omega) only [pk_mul, nI_add, clN]
        refine ⟨fun _ => ⟨inbN (by omega) (by decide), _, _, rfl, rfl, H _ ?_ (fun r k z1 z2 => by rw [up2_ne z1]; exact e1 r k z2)⟩, fun z => absurd (nI_le (by omega) (by omega)) z⟩
        refine hR.repp (fun jj a b c i hi => ?_) ⟨?_, ?_, fun k x hk => ?_⟩
        · rw [up2_ne (by omega)]
          exact e1 _ _ (by omega)
        · rw [up2_eq, List.length_drop]
        · rw [List.length_drop]; omega
        · rw [List.getElem?_drop] at hk
          have hlt := (List.getElem?_eq_some_iff.mp hk).1
          have := hR.2.2.2.1.2.2 (n + k) x hk
          refine ⟨?_, ?_⟩
          · rw [up2_r (by omega), show 2 * (480 * v + k) = 960 * v + 2 * k by omega, e2 (2 * k) (by omega), show 960 * v + 2 * k + 2 * n = 2 * (480 * v + (n + k)) by omega]
            exact this.1
          · rw [up2_r (by omega), show 2 * (480 * v + k) + 1 = 960 * v + (2 * k + 1) by omega, e2 (2 * k + 1) (by omega), show 960 * v + (2 * k + 1) + 2 * n = 2 * (480 * v + (n + k)) + 1 by omega]
            exact this.2
      | succ q ih =>
        intro j f0 hj e1 e2 e3
        refine VX12_shifts_25 hs ?_
        simp (disch := omega) only [pk_mul, nI_add, clN]
        refine ⟨fun z => absurd z (nI_ge (by omega) (by omega)), fun _ => ⟨inbN (by omega) (by decide), inbN (by omega) (by decide), ?_⟩⟩
        refine ih (j + 1) _ (by omega) (fun r k hz => ?_) (fun i hi => ?_) (fun i hi => ?_)
        · rw [up2_ne (by omega)]
          exact e1 r k hz
        · by_cases ei : i = j
          · subst ei
            rw [up2_eq]
            have := e3 (i + 2 * n) (by omega)
            rw [← Nat.add_assoc] at this
            exact this
          · rw [up2_k (by omega)]
            exact e2 i (by omega)
        · rw [up2_k (by omega)]
          exact e3 i (by omega)
    exact loop _ 0 f rfl (fun _ _ _ => rfl) (fun i hi => by omega) (fun _ _ => rfl)
  · have z : n = 0 := (nI_eq (b := 0) (by omega) (by decide)).mp c
    rw [z]
    exact hR
theorem C_isPiece {K : Int32 → FI → FL → Prop} (hs : StM sh fR B) (hv : v < 22) (hR : RM f B v w m) (h2 : w.1 2 ≤ 1000) (hm : ∀ q ∈ m, q.1 ≤ 1000 ∧ q.2 ≤ 1000) (H : ∀ f' : FI, RM f' B v w (m.dropWhile (fun q => !ndS w q)) → (∀ r k, ¬ (r = B + 23 ∧ k = 40 * v + 7) → ¬ (r = B + 25 ∧ 960 * v ≤ k ∧ k < 960 * v + 960) → f' r k = f r k) → K (bI (!(m.dropWhile (fun q => !ndS w q)).isEmpty)) f' g) : Cl l G (d + 2) 0 0 mX12_isPiece [.ref B, .int (nI v)] (sh, f, g, fR) (qi sh fR K) := by
  have hl := hR.2.2.2.1.2.1
  have fin : ∀ (D R : List (Nat × Nat)), m = D ++ R → m.dropWhile (fun q => !ndS w q) = R → LpX12_isPiece_62 l G d (qi sh fR K) sh fR B f g (nI v) (nI D.length) (nI m.length) := by
    intro D R e hd
    have hlen : m.length = D.length + R.length := by rw [e, List.length_append]
    refine VX12_isPiece_62 hs ?_
    refine C_shifts hs hv hR (by omega) (fun f1 h1 h3 => ?_)
    have e4 : m.drop D.length = R := by rw [e]; simp
    rw [e4, ← hd] at h1
    have q := H f1 h1 h3
    rw [hd] at q
    refine ⟨fun c => ⟨_, _, _, rfl, rfl, ?_⟩, fun c => ⟨_, _, _, rfl, rfl, ?_⟩⟩
    · have := (nI_leI (by omega) (by omega)).mp c
      have : R = [] := List.length_eq_zero_iff.mp (by omega)
      rw [this] at q
      exact q
    · have : ¬ m.length ≤ D.length := fun z => c ((nI_leI (by omega) (by omega)).mpr z)
      cases R with
      | nil => simp at hlen; omega
      | cons x R => exact q
  have loop : ∀ (R D : List (Nat × Nat)), m = D ++ R → m.dropWhile (fun q => !ndS w q) = R.dropWhile (fun q => !ndS w q) → LpX12_isPiece_17 l G d (qi sh fR K) sh fR B f g (nI v) (nI D.length) (nI m.length) (nI (960 * v)) := by
    intro R
    induction R with
    | nil =>
      intro D e hd
      rw [List.append_nil] at e
      refine VX12_isPiece_17 hs ?_
      refine ⟨fun _ => fin D [] (by rw [e]; simp) hd, fun z => absurd (nI_le (by rw [e]; exact Nat.le_refl _) (by rw [← e]; omega)) z⟩
    | cons q R ih =>
      intro D e hd
      have hlen : m.length = D.length + (R.length + 1) := by rw [e, List.length_append]; rfl
      have hk : m[D.length]? = some q := by rw [e]; exact at_len
      have hq := hm q (List.mem_of_getElem? hk)
      have hc := hR.2.2.2.1.2.2 _ q hk
      refine VX12_isPiece_17 hs ?_
      simp (disch := omega) only [pk_mul, nI_add, clN]
      rw [hR.1 2 (by unfold nset; omega), show 960 * v + 2 * D.length = 2 * (480 * v + D.length) by omega, hc.1, hc.2, nI_add]
      refine ⟨fun z => absurd z (nI_ge (by omega) (by omega)), fun _ => ⟨inbN (by omega) (by decide), inbN (by omega) (by decide), inbN (by omega) (by decide), fun c => ?_, fun c => ?_⟩⟩
      · have z : ndS w q = true := decide_eq_true ((nI_ltI (by omega) (by omega)).mp c)
        refine fin D (q :: R) e ?_
        rw [hd, List.dropWhile_cons]
        simp [z]
      · have z : ndS w q = false := decide_eq_false (fun z => c ((nI_ltI (by omega) (by omega)).mpr z))
        have := ih (D ++ [q]) (by rw [e]; simp) (by rw [hd, List.dropWhile_cons]; simp [z])
        rw [List.length_append, List.length_singleton] at this
        exact this
  refine VX12_isPiece hs ?_
  simp (disch := omega) only [pk_mul, nI_add, clN]
  refine ⟨inbN (by omega) (by decide), fun x hx y hy => ?_⟩
  rw [hx, hy, hR.2.2.2.1.1]
  exact loop m [] rfl rfl
theorem C_is {K : Int32 → FI → FL → Prop} {x a c : Nat} (hs : StM sh fR B) (hx : x < 2 ^ 31) (ha : a < 2 ^ 31) (hc : c < 2 ^ 31) (H : K (bI (decide (a ≤ x) && decide (x ≤ c))) f g) : Cl l G d 0 0 mX12_is [.int (nI x), .int (nI a), .int (nI c)] (sh, f, g, fR) (qi sh fR K) := by
  refine VX12_is hs ⟨fun c1 => ⟨_, _, _, rfl, rfl, ?_⟩, fun c1 => ⟨fun c2 => ⟨_, _, _, rfl, rfl, ?_⟩, fun c2 => ⟨_, _, _, rfl, rfl, ?_⟩⟩⟩
  · have := (nI_ltI hx ha).mp c1
    rw [decide_eq_false (show ¬ a ≤ x by omega)] at H
    exact H
  · have := (nI_ltI hc hx).mp c2
    rw [decide_eq_false (show ¬ x ≤ c by omega), Bool.and_false] at H
    exact H
  · have z1 : a ≤ x := Nat.not_lt.mp (fun z => c1 ((nI_ltI hx ha).mpr z))
    have z2 : x ≤ c := Nat.not_lt.mp (fun z => c2 ((nI_ltI hc hx).mpr z))
    rw [decide_eq_true z1, decide_eq_true z2] at H
    exact H
def blk (n : Nat) (s : Sg) : Bool := s.2.2.2.2.2.2.1 && decide (s.2.2.1 ≤ n) && decide (n < s.2.2.1 + s.2.2.2.1)
theorem C_blocking {K : Int32 → FI → FL → Prop} (hs : StM sh fR B) (hv : v < 22) (hR : RM f B v w m) (h2 : w.1 2 ≤ 1000) (hok : ∀ s ∈ w.2.2.1, sOK s ∧ 1 ≤ s.2.2.2.1) (H : K (oI (blockS w)) f g) : Cl l G (d + 1) 0 0 mX12_blocking [.ref B, .int (nI v)] (sh, f, g, fR) (qi sh fR K) := by
  have hl := hR.2.2.1.2.1
  have loop : ∀ (R D : List Sg), w.2.2.1 = D ++ R → D.findIdx? (blk (w.1 2)) = none → LpX12_blocking_2 l G d (qi sh fR K) sh fR B f g (nI v) (nI D.length) := by
    intro R
    induction R with
    | nil =>
      intro D e hD
      rw [List.append_nil] at e
      have n6 := hR.2.2.1.1
      rw [e] at n6 hl
      refine VX12_blocking_2 hs ?_
      simp (disch := omega) only [pk_mul, nI_add, clN]
      rw [n6]
      refine ⟨inbN (by omega) (by decide), fun _ => ⟨_, _, _, rfl, rfl, ?_⟩, fun z => absurd (nI_le (Nat.le_refl _) (by omega)) z⟩
      have : blockS w = none := by
        show w.2.2.1.findIdx? (blk (w.1 2)) = none
        rw [e, hD]
      rw [this] at H
      exact H
    | cons s R ih =>
      intro D e hD
      have hmem : s ∈ w.2.2.1 := by rw [e]; simp
      obtain ⟨⟨q1, q2, q3, q4, q5, q6⟩, q7⟩ := hok s hmem
      have hlen : w.2.2.1.length = D.length + (R.length + 1) := by rw [e]; simp
      have hk : w.2.2.1[D.length]? = some s := by rw [e]; exact at_len
      have n6 := hR.2.2.1.1
      rw [hlen] at n6
      have hg := hR.2.2.1.2.2 _ s hk
      have nx : blk (w.1 2) s = false → LpX12_blocking_63 l G d (qi sh fR K) sh fR B f g (nI v) (nI D.length) := by
        intro hz
        refine VX12_blocking_63 hs ?_
        have := ih (D ++ [s]) (by rw [e]; simp) (by rw [List.findIdx?_append, hD]; simp [hz])
        rw [List.length_append, List.length_singleton] at this
        rw [nI_add]
        exact this
      refine VX12_blocking_2 hs ?_
      simp (disch := omega) only [pk_mul, nI_add, clN]
      rw [n6, hg 6 (by decide), hR.1 2 (by unfold nset; omega), hg 2 (by decide), hg 3 (by decide)]
      refine ⟨inbN (by omega) (by decide), fun z => absurd z (nI_ge (by omega) (by omega)), fun _ => ⟨inbN (by omega) (by decide), fun c1 => nx ?_, fun c1 => ⟨inbN (by omega) (by decide), inbN (by omega) (by decide), inbN (by omega) (by decide), inbN (by omega) (by decide), ?_⟩⟩⟩
      · have z : s.2.2.2.2.2.2.1 = false := by
          cases hz : s.2.2.2.2.2.2.1 with
          | false => rfl
          | true => exact absurd (bI_1.mpr hz) c1
        simp [blk, z]
      · have z : s.2.2.2.2.2.2.1 = true := bI_1.mp c1
        show Cl _ _ _ _ _ _ [.int (nI (w.1 2)), .int (nI s.2.2.1), .int (nI s.2.2.1 + nI s.2.2.2.1 - nI 1)] _ _
        rw [nI_add, pk_sub (by omega)]
        refine C_is hs (by omega) (by omega) (by omega) ⟨fun c2 => nx ?_, fun c2 => ⟨_, _, _, rfl, rfl, ?_⟩⟩
        · have := bI_0.mp c2
          unfold blk
          rw [z, Bool.true_and, ← this]
          congr 1
          rw [Bool.eq_iff_iff]
          simp only [decide_eq_true_eq]
          omega
        · have hb : blk (w.1 2) s = true := by
            have : (decide (s.2.2.1 ≤ w.1 2) && decide (w.1 2 ≤ s.2.2.1 + s.2.2.2.1 - 1)) = true := by
              cases hz : (decide (s.2.2.1 ≤ w.1 2) && decide (w.1 2 ≤ s.2.2.1 + s.2.2.2.1 - 1)) with
              | true => rfl
              | false => rw [hz] at c2; exact absurd rfl c2
            simp only [Bool.and_eq_true, decide_eq_true_eq] at this
            unfold blk
            simp only [Bool.and_eq_true, decide_eq_true_eq]
            exact ⟨⟨z, this.1⟩, by omega⟩
          have : blockS w = some D.length := by
            show w.2.2.1.findIdx? (blk (w.1 2)) = some D.length
            rw [e, List.findIdx?_append, hD, List.findIdx?_cons]
            simp [hb]
          rw [this] at H
          exact H
  refine VX12_blocking hs ?_
  exact loop w.2.2.1 [] rfl rfl
theorem sendS_q {T : Tk} {dr : Bool} {p frm many q i : Nat} (hi : i < 4) : (sendS π dl dr T p frm many).1.2.1 q i = T.1.2.1 q i := by
  show up2 (up2 T.1.2.1 p 5 0) p 4 _ q i = _
  rw [up2_k (by omega), up2_k (by omega)]
theorem pick1_or {T : Wd} {but : Option Nat} {p : Nat} {best : Option (Nat × Int)} : pick1 π dl T but p best = best ∨ ∃ x, pick1 π dl T but p best = some (p, x) := by
  have aux : ∀ (x : Int) (r : Option (Nat × Int)), r = (match best with
    | some (_, least) => if x < least then some (p, x) else best
    | none => some (p, x)) → r = best ∨ ∃ y, r = some (p, y) := by
    intro x r hr
    cases best with
    | none => exact Or.inr ⟨x, hr⟩
    | some q =>
      obtain ⟨q1, q2⟩ := q
      dsimp only at hr
      by_cases c : x < q2
      · rw [if_pos c] at hr; exact Or.inr ⟨x, hr⟩
      · rw [if_neg c] at hr; exact Or.inl hr
  unfold pick1
  by_cases c : but = some p ∨ freS T p = false ∨ T.2.1 p 2 ≤ 1000 * flyS T p
  · rw [if_pos c]; exact Or.inl rfl
  · rw [if_neg c]; exact aux _ _ rfl
theorem pick_lt {T : Wd} {but : Option Nat} (h4 : π.1 6 ≤ 4) : ∀ x, pickS π dl T but = some x → x.1 < 4 := by
  have : ∀ n, n ≤ 4 → ∀ x, forN n (pick1 π dl T but) none = some x → x.1 < 4 := by
    intro n
    induction n with
    | zero => intro _ x h; cases h
    | succ n ih =>
      intro hn x h
      have ih' := ih (by omega)
      replace h : pick1 π dl T but n (forN n (pick1 π dl T but) none) = some x := h
      rcases pick1_or (π := π) (dl := dl) (T := T) (but := but) (p := n) (best := forN n (pick1 π dl T but) none) with e | ⟨y, e⟩
      · rw [e] at h
        exact ih' x h
      · rw [e] at h
        cases h
        show n < 4
        omega
  exact this _ h4
theorem C_isPenalised {K : Int32 → FI → FL → Prop} {dr : Bool} {T : Tk} (hs : StM sh fR B) (hv : v < 22) (hR : RM f B v T.1 m) (hN : wN T.1) (hT : TM f B b π win dl) (hπ : πOK π) (hk : TkR f g B dr T) (h5 : ∀ p, T.1.2.1 p 5 ≤ 1) (hl : T.1.2.2.1.length < 480) (hc : T.2.1 < 1000) (hmany : ∀ s ∈ T.1.2.2.1, 1 ≤ s.2.2.2.1)
    (H1 : ∀ T' (f' : FI) (g' : FL), penS π dl dr T = some T' → RM f' B v T'.1 m → TkR f' g' B dr T' → FrS B v f f' → FrL B g g' → K (nI 1) f' g')
    (H0 : ∀ (f' : FI) (g' : FL), penS π dl dr T = none → (∀ r k, r ≠ B + 31 → f' r k = f r k) → (∀ r k, r ≠ B + 30 → g' r k = g r k) → K (nI 0) f' g') : Cl l G (d + 4) 0 0 mX12_isPenalised [.ref B, .int (nI v)] (sh, f, g, fR) (qi sh fR K) := by
  have hb := hT.1.2.1
  have t1 := hN.1 1 (by decide)
  have t2 := hN.1 2 (by decide)
  have t3 := hN.1 3 (by decide)
  have h200 := hπ.1.2
  have no : ¬ (T.1.1 1 = T.1.1 3 ∧ T.1.1 1 < π.1 1) → LpX12_isPenalised_43 l G d (qi sh fR K) sh fR B f g (nI v) := by
    intro z
    refine VX12_isPenalised_43 hs ⟨_, _, _, rfl, rfl, H0 f g ?_ (fun _ _ _ => rfl) (fun _ _ _ => rfl)⟩
    unfold penS
    rw [if_neg z]
  refine VX12_isPenalised hs ?_
  rw [hT.1.1]
  simp (disch := omega) only [pk_mul, nI_add, clN]
  rw [hT.1.2.2.1, hR.1 1 (by unfold nset; omega), hR.1 3 (by unfold nset; omega)]
  refine ⟨inbN (by omega) (by decide), fun x hx => ⟨inbN (by omega) (by decide), inbN (by omega) (by decide), fun c1 => no ?_, fun c1 => ⟨inbN (by omega) (by decide), fun c2 => no ?_, fun c2 => ?_⟩⟩⟩
  · intro z
    exact c1 (by rw [z.1])
  · intro z
    rw [hx] at c2
    have := (nI_leI (by omega) (by omega)).mp c2
    omega
  · have z1 : T.1.1 1 = T.1.1 3 := (nI_eq (by omega) (by omega)).mp c1
    have z2 : T.1.1 1 < π.1 1 := by
      apply Nat.not_le.mp
      intro z
      apply c2
      rw [hx]
      exact (nI_leI (by omega) (by omega)).mpr z
    have hpen : penS π dl dr T = (match blockS T.1 with
      | none => none
      | some k => match T.1.2.2.1[k]? with
        | none => none
        | some s => match pickS π dl T.1 (some s.1) with
          | none => none
          | some (p, _) => some (keepS (wpt (sendS π dl dr T p s.2.2.1 s.2.2.2.1).1 s.1 2 (halfS ((sendS π dl dr T p s.2.2.1 s.2.2.2.1).1.2.1 s.1 2))) (1, s.1, s.2.2.1), (sendS π dl dr T p s.2.2.1 s.2.2.2.1).2)) := by
      unfold penS
      rw [if_pos ⟨z1, z2⟩]
      rfl
    refine C_blocking hs hv hR t2 (fun s hs => ⟨hN.2.2.1 s hs, hmany s hs⟩) ?_
    cases hbl : blockS T.1 with
    | none =>
      rw [hbl] at hpen
      refine ⟨fun z => absurd rfl z, fun _ => ⟨fun z => absurd rfl z, fun _ => ⟨_, _, _, rfl, rfl, H0 f g hpen (fun _ _ _ => rfl) (fun _ _ _ => rfl)⟩⟩⟩
    | some k =>
      rw [hbl] at hpen
      dsimp only at hpen
      obtain ⟨hklt, -, -⟩ := List.findIdx?_eq_some_iff_getElem.mp hbl
      have hks : T.1.2.2.1[k]? = some T.1.2.2.1[k] := List.getElem?_eq_getElem hklt
      generalize T.1.2.2.1[k] = s at hks
      rw [hks] at hpen
      dsimp only at hpen
      obtain ⟨q1, q2, q3, q4, q5, q6⟩ := hN.2.2.1 s (List.mem_of_getElem? hks)
      have hg := hR.2.2.1.2.2 k s hks
      refine ⟨fun _ => ?_, fun z => absurd z (nI_m1 (n := k) (by omega))⟩
      simp (disch := omega) only [show oI (some k) = nI k from rfl, pk_mul, nI_add, clN]
      rw [hg 0 (by decide)]
      refine ⟨inbN (by omega) (by decide), fun x2 hx2 => ⟨fun _ => ?_, fun z => absurd z (nI_m1 (n := k) (by omega))⟩⟩
      rw [show sE s 0 = nI s.1 from rfl] at hx2
      subst hx2
      refine C_picked (but := some s.1) hs hv hR hN hT hπ (fun p hp => by cases hp; exact q1) (fun f1 g1 e1 e2 => ?_)
      cases hpk : pickS π dl T.1 (some s.1) with
      | none =>
        rw [hpk] at hpen
        exact ⟨fun z => absurd rfl z, fun _ => ⟨_, _, _, rfl, rfl, H0 f1 g1 hpen e1 e2⟩⟩
      | some x =>
        obtain ⟨p, vv⟩ := x
        rw [hpk] at hpen
        dsimp only at hpen
        have hp4 : p < 4 := pick_lt hπ.2.2.2.2.2.1 _ hpk
        have hR1 : RM f1 B v T.1 m := hR.congr (fun j a b i => e1 _ _ (by omega))
        have hF1 : Fr B v f f1 := fun r k z => e1 r k (fun q => z (by unfold tch; omega))
        have hG1 : FrL B g g1 := fun r k z _ => e2 r k z
        have hk1 : TkR f1 g1 B dr T := hk.fr hF1 e2
        refine ⟨fun _ => ⟨inbN (by omega) (by decide), inbN (by omega) (by decide), ?_⟩, fun z => absurd z (nI_m1 (n := p) (by omega))⟩
        rw [hR1.2.2.1.2.2 k s hks 2 (by decide), hR1.2.2.1.2.2 k s hks 3 (by decide)]
        refine C_sends (frm := s.2.2.1) (many := s.2.2.2.1) hs hv hR1 hN (hT.no31 e1) hπ hk1 hp4 (by omega) (h5 p) hl hc (fun f2 g2 h1 h2 h3 h4 => ?_)
        have hcw := h1.2.1 s.1 2 q1 (by decide)
        have hcb : (sendS π dl dr T p s.2.2.1 s.2.2.2.1).1.2.1 s.1 2 ≤ 500000 := by rw [sendS_q (by decide)]; exact hN.2.1 s.1 2
        have hks2 : (sendS π dl dr T p s.2.2.1 s.2.2.2.1).1.2.2.1[k]? = some s := by
          show (T.1.2.2.1 ++ [_])[k]? = _
          rw [List.getElem?_append_left hklt]
          exact hks
        simp (disch := omega) only [pk_mul, nI_add, clN]
        rw [hcw]
        refine ⟨inbN (by omega) (by decide), ?_⟩
        refine C_halved hs hcb ⟨inbN (by omega) (by decide), inbN (by omega) (by decide), ?_⟩
        rw [h1.2.2.1.2.2 k s hks2 2 (by decide)]
        refine C_writesDown (q := (1, s.1, s.2.2.1)) hs hv (h1.setp (i := 2) (x := halfS ((sendS π dl dr T p s.2.2.1 s.2.2.2.1).1.2.1 s.1 2)) q1 (by decide)) (fun f3 h6 h7 => ⟨_, _, _, rfl, rfl, H1 _ f3 g2 hpen h6 ?_ (((hF1.s.tr h3).up (by unfold tchS tchQ tch; omega)).tr h7.s) (hG1.tr h4)⟩)
        exact TkR.fr (T := sendS π dl dr T p s.2.2.1 s.2.2.2.1) h2 ((Fr.rf.up (by unfold tch; omega)).tr h7) (fun _ _ _ => rfl)
end C8
