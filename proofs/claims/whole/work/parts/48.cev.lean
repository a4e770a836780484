/-! how the class reckons -/
def cS (o : Op) : Nat := if o.1 = 0 then 0 else if o.1 = 30 then 0 else if o.1 < 30 then 1 else if o.1 = 43 then 2 else if o.1 = 44 then 3 else o.1 - 27
def cV (o : Op) : Nat := if o.1 = 0 then o.2 else if o.1 = 30 then 1 else if o.1 < 30 then o.1 - 1 else 0
/-- a formula in the class' codes -/
def FmC (f : FI) (q : Nat) (ops : List Op) : Prop := f q 2 = nI ops.length ∧ ops.length ≤ 1600 ∧ ∀ (j : Nat) (o : Op), ops[j]? = some o → f (q + 1) j = nI (65536 * cS o + cV o)
theorem FmC.congr {f f' : FI} {q : Nat} {ops : List Op} (h : FmC f q ops) (e : ∀ k, f' q k = f q k) (e1 : ∀ k, f' (q + 1) k = f (q + 1) k) : FmC f' q ops := ⟨by rw [e]; exact h.1, h.2.1, fun j o hj => by rw [e1]; exact h.2.2 j o hj⟩
theorem code_hi {s v : Nat} (hs : s < 64) (hv : v < 65536) : nI (65536 * s + v) >>> (nI 16 &&& 31) = nI s := by
  rw [pk_shrN (by omega) _ 16 (by decide)]
  congr 1
  omega
theorem code_lo {s v : Nat} (hs : s < 64) (hv : v < 65536) : nI (65536 * s + v) &&& nI 65535 = nI v := by
  rw [pk_andN (by omega) 16 (by decide)]
  congr 1
  omega
section J2
variable {l : Launch} {G : Gx} {d : Nat} {sh : Sh} {fR : FRt} {f : FI} {g : FL} {K : Int32 → FI → FL → Prop}
theorem lim_id {v : Int} (h : rng v) : lim v = v := by
  unfold lim
  rw [if_neg (by have := h.2; omega), if_neg (by have := h.1; omega)]
theorem D_joinedBy {x y : Int32} {c : Nat} (h4 : 4 ≤ c) (h16 : c < 16) (hx : rng x.toInt) (hy : rng y.toInt) (h01 : 14 ≤ c → (x.toInt = 0 ∨ x.toInt = 1) ∧ (y.toInt = 0 ∨ y.toInt = 1)) (H : ∀ z : Int32, z.toInt = two (c + 27) x.toInt y.toInt → K z f g) : Cl l G (d + 1) 0 0 mX3_joinedBy [.int (nI c), .int x, .int y] (sh, f, g, fR) (qi sh fR K) := by
  have hx1 := hx.1
  have hx2 := hx.2
  have hy1 := hy.1
  have hy2 := hy.2
  have fin : ∀ (z : Int64) (v : Int), z.toInt = v → lim v = two (c + 27) x.toInt y.toInt → LpX3_joinedBy_210 l G d (qi sh fR K) sh fR f g z := by
    intro z v hz hv
    refine VX3_joinedBy_210 ?_
    simp only [Int64.le_iff_toInt_le, lN_M, lN_mM, hz]
    unfold lim at hv
    refine ⟨fun c1 => ⟨fun c2 => ⟨_, _, _, rfl, rfl, H _ ?_⟩, fun c2 => ⟨_, _, _, rfl, rfl, H _ ?_⟩⟩, fun c1 => ⟨_, _, _, rfl, rfl, H _ ?_⟩⟩
    · rw [← hv, if_neg (by omega), if_neg (by omega), Kit.i32_of_i64 (by omega) (by omega), hz]
    · rw [← hv, if_neg (by omega), if_pos (by omega)]
      decide
    · rw [← hv, if_pos (by omega)]
      decide
  have hI : ∀ k : Nat, k < 64 → (nI c = nI k ↔ c = k) := fun k hk => nI_eq (by omega) (by omega)
  have hmul : -1000000000000 ≤ x.toInt * y.toInt ∧ x.toInt * y.toInt ≤ 1000000000000 := by
    have h1 : (x.toInt * y.toInt).natAbs ≤ 1000000 * 1000000 := by
      rw [Int.natAbs_mul]
      exact Nat.mul_le_mul (by omega) (by omega)
    omega
  have y0 : y = 0 ↔ y.toInt = 0 := ⟨fun z => by rw [z]; rfl, fun z => Int32.toInt_inj.mp (by rw [z]; rfl)⟩
  refine VX3_joinedBy ?_
  refine ⟨fun c1 => ?_, fun c1 => ?_, fun c1 => ?_, fun c1 => ?_, fun c1 => ?_, fun c1 => ?_, fun c1 => ?_, fun c1 => ?_, fun c1 => ?_, fun c1 => ?_, fun c1 => ?_, fun c1 => ?_⟩
  · rw [hI 4 (by decide)] at c1
    subst c1
    intro z hz
    refine fin z _ (by rw [hz, Kit.i64_add (by rw [Kit.i64_of_i32, Kit.i64_of_i32]; omega) (by rw [Kit.i64_of_i32, Kit.i64_of_i32]; omega), Kit.i64_of_i32, Kit.i64_of_i32]) ?_
    simp [two]
  · rw [hI 5 (by decide)] at c1
    subst c1
    intro z hz
    refine fin z _ (by rw [hz, Kit.i64_sub (by rw [Kit.i64_of_i32, Kit.i64_of_i32]; omega) (by rw [Kit.i64_of_i32, Kit.i64_of_i32]; omega), Kit.i64_of_i32, Kit.i64_of_i32]) ?_
    simp [two]
  · rw [hI 6 (by decide)] at c1
    subst c1
    intro z hz
    refine fin z _ (by rw [hz, Kit.i64_mul (by rw [Kit.i64_of_i32, Kit.i64_of_i32]; omega) (by rw [Kit.i64_of_i32, Kit.i64_of_i32]; omega), Kit.i64_of_i32, Kit.i64_of_i32]) ?_
    simp [two]
  · rw [hI 7 (by decide)] at c1
    subst c1
    refine ⟨fun c2 => D_floorDiv hx hy c2 (fun z hz => ?_), fun c2 => ?_⟩
    · refine fin _ _ (by rw [Kit.i64_of_i32, hz]) ?_
      rw [y0] at c2
      simp [two, c2]
    · rw [y0] at c2
      refine fin _ _ lN_0 ?_
      simp [two, c2, lim]
  · rw [hI 8 (by decide)] at c1
    subst c1
    refine ⟨fun c2 => D_floorMod hx hy c2 (fun z hz => ?_), fun c2 => ?_⟩
    · refine fin _ _ (by rw [Kit.i64_of_i32, hz]) ?_
      rw [y0] at c2
      simp [two, c2]
    · rw [y0] at c2
      refine fin _ _ lN_0 ?_
      simp [two, c2, lim]
  · rw [hI 9 (by decide)] at c1
    subst c1
    simp only [Int32.le_iff_toInt_le]
    refine ⟨fun c2 => fin _ _ (Kit.i64_of_i32 _) ?_, fun c2 => fin _ _ (Kit.i64_of_i32 _) ?_⟩
    · rw [lim_id hy]
      simp [two, show ¬ x.toInt < y.toInt by omega]
    · rw [lim_id hx]
      simp [two, show x.toInt < y.toInt by omega]
  · rw [hI 10 (by decide)] at c1
    subst c1
    simp only [Int32.le_iff_toInt_le]
    refine ⟨fun c2 => fin _ _ (Kit.i64_of_i32 _) ?_, fun c2 => fin _ _ (Kit.i64_of_i32 _) ?_⟩
    · rw [lim_id hy]
      simp [two, show ¬ y.toInt < x.toInt by omega]
    · rw [lim_id hx]
      simp [two, show y.toInt < x.toInt by omega]
  · rw [hI 11 (by decide)] at c1
    subst c1
    simp only [Int32.le_iff_toInt_le]
    refine ⟨fun c2 => fin _ _ lN_0 ?_, fun c2 => fin _ _ lN_1' ?_⟩
    · rw [lim_id rng0]
      simp [two, show ¬ x.toInt < y.toInt by omega]
    · rw [lim_id rng1]
      simp [two, show x.toInt < y.toInt by omega]
  · rw [hI 12 (by decide)] at c1
    subst c1
    simp only [Int32.le_iff_toInt_le]
    refine ⟨fun c2 => fin _ _ lN_0 ?_, fun c2 => fin _ _ lN_1' ?_⟩
    · rw [lim_id rng0]
      simp [two, show ¬ y.toInt < x.toInt by omega]
    · rw [lim_id rng1]
      simp [two, show y.toInt < x.toInt by omega]
  · rw [hI 13 (by decide)] at c1
    subst c1
    refine ⟨fun c2 => fin _ _ lN_0 ?_, fun c2 => fin _ _ lN_1' ?_⟩
    · rw [lim_id rng0]
      simp [two, show ¬ x.toInt = y.toInt from fun z => c2 (Int32.toInt_inj.mp z)]
    · rw [lim_id rng1]
      simp [two, c2]
  · rw [hI 14 (by decide)] at c1
    subst c1
    intro z hz
    obtain ⟨q1, q2⟩ := h01 (by decide)
    have t1 : ∀ u : Int32, u.toInt = 0 ∨ u.toInt = 1 → u = 0 ∨ u = 1 := fun u hu => by
      rcases hu with h | h
      · exact Or.inl (Int32.toInt_inj.mp (by rw [h]; rfl))
      · exact Or.inr (Int32.toInt_inj.mp (by rw [h]; rfl))
    rcases t1 x q1 with rfl | rfl <;> rcases t1 y q2 with rfl | rfl <;> exact fin z _ (by rw [hz, Kit.i64_of_i32]) (by decide)
  · have hc15 : c = 15 := by
      obtain ⟨z1, z2, z3, z4, z5, z6, z7, z8, z9, z10, z11⟩ := c1
      rw [hI 4 (by decide)] at z1
      rw [hI 5 (by decide)] at z2
      rw [hI 6 (by decide)] at z3
      rw [hI 7 (by decide)] at z4
      rw [hI 8 (by decide)] at z5
      rw [hI 9 (by decide)] at z6
      rw [hI 10 (by decide)] at z7
      rw [hI 11 (by decide)] at z8
      rw [hI 12 (by decide)] at z9
      rw [hI 13 (by decide)] at z10
      rw [hI 14 (by decide)] at z11
      omega
    subst hc15
    intro z hz
    obtain ⟨q1, q2⟩ := h01 (by decide)
    have t1 : ∀ u : Int32, u.toInt = 0 ∨ u.toInt = 1 → u = 0 ∨ u = 1 := fun u hu => by
      rcases hu with h | h
      · exact Or.inl (Int32.toInt_inj.mp (by rw [h]; rfl))
      · exact Or.inr (Int32.toInt_inj.mp (by rw [h]; rfl))
    rcases t1 x q1 with rfl | rfl <;> rcases t1 y q2 with rfl | rfl <;> exact fin z _ (by rw [hz, Kit.i64_of_i32]) (by decide)
/-- the stack of values, its top first -/
def stC (f : FI) (q : Nat) (st : List Int) : Prop := ∀ (j : Nat) (v : Int), st[j]? = some v → (f (q + 2) (st.length - 1 - j)).toInt = v
theorem stC.push {q : Nat} {st : List Int} {v : Int} {y : Int32} (h : stC f q st) (hy : y.toInt = v) : stC (up2 f (q + 2) st.length y) q (v :: st) := by
  intro j w hj
  match j, hj with
  | 0, hj =>
    cases hj
    simpa [up2] using hy
  | j + 1, hj =>
    have hlt := (List.getElem?_eq_some_iff.mp (show st[j]? = some w from hj)).1
    rw [up2_k (by simp; omega)]
    have := h j w hj
    simpa [show st.length - (j + 1) = st.length - 1 - j by omega] using this
theorem stC.pop {q : Nat} {st : List Int} {v : Int} (h : stC f q (v :: st)) : stC f q st ∧ (f (q + 2) st.length).toInt = v := by
  refine ⟨fun j w hj => ?_, ?_⟩
  · have hlt := (List.getElem?_eq_some_iff.mp hj).1
    have := h (j + 1) w hj
    rw [List.length_cons] at this
    rw [show st.length - 1 - j = st.length + 1 - 1 - (j + 1) by omega]
    exact this
  · have := h 0 v rfl
    simpa using this
theorem D_valueBy {q e : Nat} {ops : List Op} {t : Bool} {allow : Nat → Bool} {fa : Nat → Int} (hs : StF sh fR q) (he : sh[e]? = some (20, 10)) (hF : FmC f q ops) (hO : opsOK ops t allow) (hfa : ∀ k, 0 < k → k ≤ 10 → allow k = true → (f e (k - 1)).toInt = fa k ∧ rng (fa k)) (H : ∀ (y : Int32) (f' : FI), y.toInt = ev ops fa → okT (ev ops fa) t → (∀ r k, r ≠ q + 2 → f' r k = f r k) → K y f' g) : Cl l G (d + 2) 0 0 mX3_valueBy [.ref q, .ref e] (sh, f, g, fR) (qi sh fR K) := by
  obtain ⟨h2, hl, hcode⟩ := hF
  obtain ⟨hty, hops⟩ := hO
  have hne : ¬ e = q + 2 := ne_sh he (sF_2 hs) (by decide)
  have loop : ∀ (rest done : List Op) (st : List Int) (τ : List Bool) (f' : FI), ops = done ++ rest → done.foldl (ev1 fa) [] = st → stOK st τ → st.length ≤ 90 → tyrun rest τ = some [t] → stC f' q st → (∀ r k, r ≠ q + 2 → f' r k = f r k) → LpX3_valueBy_4 l G d (qi sh fR K) sh fR q e f' g (nI st.length) (nI done.length) := by
    intro rest
    induction rest with
    | nil =>
      intro done st τ f' e0 hst hok hlen ht hm hg
      rw [List.append_nil] at e0
      subst e0
      simp only [tyrun, Option.some.injEq] at ht
      subst ht
      match st, hok with
      | [v], hok =>
        refine VX3_valueBy_4 hs he ?_
        have e9 : nI ([v] : List Int).length - nI 1 = nI 0 := by rw [List.length_singleton, pk_sub (Nat.le_refl _)]
        rw [hg q 2 (by omega), h2, e9, clN (by decide)]
        refine ⟨fun _ => ⟨fun z => absurd (show nI 1 ≤ 0 from z) (by decide), fun _ => ⟨inbN (by decide) (by decide), _, _, _, rfl, rfl, ?_⟩⟩, fun z => absurd (nI_le (Nat.le_refl _) (by omega)) z⟩
        have e1 : ev ops fa = v := by unfold ev; rw [hst]; rfl
        exact H _ f' (by rw [e1]; exact hm.pop.2) (by rw [e1]; exact hok.1) hg
    | cons o rest ih =>
      intro done st τ f' e0 hst hok hlen ht hm hg
      have hk : ops[done.length]? = some o := by rw [e0]; exact at_len
      have hlt : done.length < ops.length := (List.getElem?_eq_some_iff.mp hk).1
      obtain ⟨ho1, ho2, ho3⟩ := hops o (List.mem_of_getElem? hk)
      have hk1 := hcode _ o hk
      simp only [tyrun] at ht
      split at ht
      case h_2 => cases ht
      rename_i τ' hτ
      split at ht
      case isFalse => cases ht
      rename_i hl90
      have hok' : stOK (ev1 fa st o) τ' := ev1_ok hok hτ (fun z1 z2 => (hfa o.1 z1 (ho3 z1 z2).1 (ho3 z1 z2).2).2) ho2
      have hsl := stOK_len hok'
      have next : ∀ f2 : FI, stC f2 q (ev1 fa st o) → (∀ r k, r ≠ q + 2 → f2 r k = f r k) → ∀ a2 : Int32, a2 = nI (ev1 fa st o).length → LpX3_valueBy_205 l G d (qi sh fR K) sh fR q e f2 g a2 (nI done.length) := by
        intro f2 h1 h2 a2 h3
        subst h3
        refine VX3_valueBy_205 hs he ?_
        have := ih (done ++ [o]) (ev1 fa st o) τ' f2 (by rw [e0]; simp) (by rw [List.foldl_append, hst]; rfl) hok' (by omega) ht h1 h2
        rw [List.length_append, List.length_singleton] at this
        rw [nI_add]
        exact this
      have hcs : cS o < 64 := by unfold cS; (repeat' split) <;> omega
      have hcv : cV o < 65536 := by
        unfold cV
        split
        · rename_i z
          have := ho2 z
          omega
        · (repeat' split) <;> omega
      refine VX3_valueBy_4 hs he ?_
      rw [hg q 2 (by omega), h2, clN (by omega), hg (q + 1) _ (by omega), hk1, code_hi hcs hcv, code_lo hcs hcv]
      refine ⟨fun z => absurd z (nI_ge hlt (by omega)), fun _ => ⟨inbN (by omega) (by decide), fun w ew => ⟨inbN (by omega) (by decide), fun w2 ew2 => ?_⟩⟩⟩
      subst ew
      subst ew2
      have hI : ∀ k : Nat, k < 64 → (nI (cS o) = nI k ↔ cS o = k) := fun k hk => nI_eq (by omega) (by omega)
      have hI0 : nI (cS o) = 0 ↔ cS o = 0 := hI 0 (by decide)
      have q44 : 30 < o.1 → o.1 ≤ 44 := by
        intro z
        by_cases z1 : o.1 ≤ 44
        · exact z1
        · unfold tyr at hτ
          rw [if_neg (by omega), if_neg (by omega), if_neg (by omega), if_neg (by omega), if_neg (by omega), if_neg (by omega), if_neg (by omega), if_neg (by omega)] at hτ
          cases hτ
      have leaf : cS o = 0 ∨ cS o = 1 → LpX3_valueBy_45 l G d (qi sh fR K) sh fR q e f' g (nI st.length) (nI done.length) (nI (cS o)) (nI (cV o)) := by
        intro hc
        have q1 : o.1 ≤ 30 := by
          refine Nat.not_lt.mp (fun z => ?_)
          unfold cS at hc
          rw [if_neg (by omega), if_neg (by omega), if_neg (by omega)] at hc
          split at hc
          · omega
          · split at hc <;> omega
        refine VX3_valueBy_45 hs he ?_
        rw [clN (show st.length < 2 ^ 31 by omega)]
        refine ⟨fun _ => ⟨fun c2 => ?_, fun c2 => ⟨inbN (by omega) (by decide), ?_⟩⟩, fun z => absurd (nI_lt (show st.length < 96 by omega) (by decide)) z⟩
        · rw [hI0] at c2
          have q2 : ¬ o.1 = 0 := fun z => c2 (by unfold cS; rw [if_pos z])
          have q3 : ¬ o.1 = 30 := fun z => c2 (by unfold cS; rw [if_neg q2, if_pos z])
          have h10 := ho3 (by omega) (by omega)
          have ev' : cV o = o.1 - 1 := by unfold cV; rw [if_neg q2, if_neg q3, if_pos (by omega)]
          have hev : ev1 fa st o = fa o.1 :: st := by
            unfold ev1
            rw [if_neg q2, if_neg q3, if_pos (by omega)]
          rw [ev', clN (by omega)]
          refine ⟨inbN (by omega) (by decide), inbN (by omega) (by decide), next _ ?_ ?_ _ ?_⟩
          · rw [hev]
            refine hm.push ?_
            rw [hg _ _ hne]
            exact (hfa o.1 (by omega) h10.1 h10.2).1
          · intro r k hr
            rw [up2_r hr]
            exact hg r k hr
          · rw [hev, nI_add]
            rfl
        · rw [hI0] at c2
          have q2 : o.1 = 0 ∨ o.1 = 30 := by
            unfold cS at c2
            by_cases z : o.1 = 0
            · exact Or.inl z
            · rw [if_neg z] at c2
              by_cases z2 : o.1 = 30
              · exact Or.inr z2
              · rw [if_neg z2, if_pos (by omega)] at c2
                omega
          rcases q2 with z | z
          · have ev' : cV o = o.2 := by unfold cV; rw [if_pos z]
            have hev : ev1 fa st o = (o.2 : Int) :: st := by
              unfold ev1
              rw [if_pos z]
            rw [ev']
            have := ho2 z
            refine next _ ?_ ?_ _ ?_
            · rw [hev]
              exact hm.push (nI_toInt (by omega))
            · intro r k hr
              rw [up2_r hr]
              exact hg r k hr
            · rw [hev, nI_add]
              rfl
          · have ev' : cV o = 1 := by unfold cV; rw [if_neg (by omega), if_pos z]
            have hev : ev1 fa st o = 1 :: st := by
              unfold ev1
              rw [if_neg (by omega), if_pos z]
            rw [ev']
            refine next _ ?_ ?_ _ ?_
            · rw [hev]
              exact hm.push nI1_toInt
            · intro r k hr
              rw [up2_r hr]
              exact hg r k hr
            · rw [hev, nI_add]
              rfl
      refine ⟨fun c1 => leaf (Or.inl (hI0.mp c1)), fun c1 => ⟨fun c2 => ⟨fun c3 => ⟨fun c4 => ?_, fun c4 => ?_⟩, fun c3 => ?_⟩, fun c2 => leaf (Or.inr ((hI 1 (by decide)).mp c2))⟩⟩
      · rw [hI0] at c1
        rw [hI 1 (by decide)] at c2
        rw [hI 2 (by decide)] at c3
        rw [hI 3 (by decide)] at c4
        have q1 : 30 < o.1 := by
          refine Nat.not_le.mp (fun z => ?_)
          unfold cS at c1 c2
          by_cases z0 : o.1 = 0
          · rw [if_pos z0] at c1; exact c1 rfl
          · by_cases z1 : o.1 = 30
            · rw [if_neg z0, if_pos z1] at c1; exact c1 rfl
            · rw [if_neg z0, if_neg z1, if_pos (by omega)] at c2; exact c2 rfl
        have q2 : ¬ o.1 = 43 := fun z => c3 (by unfold cS; rw [if_neg (by omega), if_neg (by omega), if_neg (by omega), if_pos z])
        have q3 : ¬ o.1 = 44 := fun z => c4 (by unfold cS; rw [if_neg (by omega), if_neg (by omega), if_neg (by omega), if_neg q2, if_pos z])
        have q5 := q44 q1
        have ec : cS o = o.1 - 27 := by unfold cS; rw [if_neg (by omega), if_neg (by omega), if_neg (by omega), if_neg q2, if_neg q3]
        have hτ2 : (∃ s, τ = false :: false :: s) ∨ (41 ≤ o.1 ∧ o.1 < 43 ∧ ∃ s, τ = true :: true :: s) := by
          unfold tyr at hτ
          rw [if_neg (by omega), if_neg (by omega), if_neg (by omega), if_neg q2, if_neg q3] at hτ
          split at hτ
          · split at hτ
            · exact Or.inl ⟨_, rfl⟩
            · cases hτ
          · split at hτ
            · split at hτ
              · exact Or.inl ⟨_, rfl⟩
              · cases hτ
            · split at hτ
              · rename_i z1 z2
                split at hτ
                · exact Or.inr ⟨by omega, z2, _, rfl⟩
                · cases hτ
              · cases hτ
        match st, hok, hm, hlen with
        | y1 :: x1 :: s, hok, hm, hlen =>
          have hev : ev1 fa (y1 :: x1 :: s) o = two o.1 x1 y1 :: s := ev1_two q1 q2 q3
          obtain ⟨t1, t2, τ9, rfl⟩ : ∃ t1 t2 τ9, τ = t1 :: t2 :: τ9 := by
            rcases hτ2 with ⟨τ1, h⟩ | ⟨_, _, τ1, h⟩ <;> exact ⟨_, _, _, h⟩
          have p1 := hm.pop
          have p2 := p1.1.pop
          simp only [List.length_cons] at hlen p1 ⊢
          have e1 : nI (s.length + 1 + 1) + (-1) - nI 1 = nI s.length := by
            rw [pk_m1, pk_sub (by omega)]
            rfl
          have e2 : nI (s.length + 1 + 1) + (-1) = nI (s.length + 1) := pk_m1 _
          rw [e1, e2, clN (by omega), clN (by omega), ec]
          refine ⟨fun _ => ⟨inbN (by omega) (by decide), inbN (by omega) (by decide), ?_⟩, fun z => absurd (nI_le (show 2 ≤ s.length + 1 + 1 by omega) (by omega)) z⟩
          refine D_joinedBy (by omega) (by omega) (by rw [p2.2]; exact hok.2.1.1) (by rw [p1.2]; exact hok.1.1) (fun z => ?_) (fun z hz => ⟨inbN (by omega) (by decide), ?_⟩)
          · rw [p2.2, p1.2]
            rcases hτ2 with ⟨τ1, hτ1⟩ | ⟨_, _, τ1, hτ1⟩
            · exfalso
              cases hτ1
              unfold tyr at hτ
              rw [if_neg (by omega), if_neg (by omega), if_neg (by omega), if_neg q2, if_neg q3, if_neg (by omega), if_neg (by omega), if_pos (by omega)] at hτ
              cases hτ
            · cases hτ1
              exact ⟨hok.2.1.2 rfl, hok.1.2 rfl⟩
          · rw [show o.1 - 27 + 27 = o.1 by omega, p2.2, p1.2] at hz
            refine next _ ?_ ?_ _ ?_
            · rw [hev]
              exact p2.1.push hz
            · intro r k hr
              rw [up2_r hr]
              exact hg r k hr
            · rw [hev]
              rfl
        | [y1], hok, hm, hlen =>
          rcases hτ2 with ⟨τ1, rfl⟩ | ⟨_, _, τ1, rfl⟩ <;> exact hok.2.elim
        | [], hok, hm, hlen =>
          rcases hτ2 with ⟨τ1, rfl⟩ | ⟨_, _, τ1, rfl⟩ <;> exact hok.elim
      · rw [hI 3 (by decide)] at c4
        have q3 : o.1 = 44 := by
          unfold cS at c4
          split at c4
          · omega
          · split at c4
            · omega
            · split at c4
              · omega
              · split at c4
                · omega
                · split at c4
                  · assumption
                  · omega
        have hτ2 : ∃ s, τ = false :: false :: true :: s := by
          unfold tyr at hτ
          rw [if_neg (by omega), if_neg (by omega), if_neg (by omega), if_neg (by omega), if_pos q3] at hτ
          split at hτ
          · exact ⟨_, rfl⟩
          · cases hτ
        obtain ⟨τ1, rfl⟩ := hτ2
        match st, hok, hm, hlen with
        | z1 :: y1 :: x1 :: s, hok, hm, hlen =>
          have hev : ev1 fa (z1 :: y1 :: x1 :: s) o = (if x1 = 1 then y1 else z1) :: s := ev1_44 q3
          have p1 := hm.pop
          have p2 := p1.1.pop
          have p3 := p2.1.pop
          have hx01 := hok.2.2.1.2 rfl
          simp only [List.length_cons] at hlen p1 p2 ⊢
          have e0 : nI (s.length + 1 + 1 + 1) + (-2) = nI (s.length + 1) := by
            rw [show (-2 : Int32) = (-1) + (-1) by decide, ← Int32.add_assoc, pk_m1, pk_m1]
          have e1 : nI (s.length + 1) - nI 1 = nI s.length := by
            rw [pk_sub (by omega)]
            rfl
          rw [e0, e1]
          simp only [nI_add]
          rw [clN (by omega), clN (by omega), clN (by omega)]
          have z0 : (f' (q + 2) s.length = 0) ↔ x1 = 0 := by
            rw [← p3.2]
            exact ⟨fun z => by rw [z]; rfl, fun z => Int32.toInt_inj.mp (by rw [z]; rfl)⟩
          refine ⟨fun _ => ⟨inbN (by omega) (by decide), fun c5 => ⟨inbN (by omega) (by decide), inbN (by omega) (by decide), ?_⟩, fun c5 => ⟨inbN (by omega) (by decide), inbN (by omega) (by decide), ?_⟩⟩, fun z => absurd (nI_le (show 3 ≤ s.length + 1 + 1 + 1 by omega) (by omega)) z⟩
          · have q4 : ¬ x1 = 1 := by rw [z0] at c5; omega
            refine next _ ?_ ?_ _ ?_
            · rw [hev]
              show stC _ q ((if x1 = 1 then y1 else z1) :: s)
              rw [if_neg q4]
              exact p3.1.push p1.2
            · intro r k hr
              rw [up2_r hr]
              exact hg r k hr
            · rw [hev]
              rfl
          · have q4 : x1 = 1 := by rw [z0] at c5; omega
            refine next _ ?_ ?_ _ ?_
            · rw [hev]
              show stC _ q ((if x1 = 1 then y1 else z1) :: s)
              rw [if_pos q4]
              exact p3.1.push p2.2
            · intro r k hr
              rw [up2_r hr]
              exact hg r k hr
            · rw [hev]
              rfl
        | [y1, x1], hok, hm, hlen => exact hok.2.2.elim
        | [y1], hok, hm, hlen => exact hok.2.elim
        | [], hok, hm, hlen => exact hok.elim
      · rw [hI 2 (by decide)] at c3
        have q3 : o.1 = 43 := by
          unfold cS at c3
          split at c3
          · omega
          · split at c3
            · omega
            · split at c3
              · omega
              · split at c3
                · assumption
                · split at c3 <;> omega
        have hτ2 : ∃ s, τ = true :: s := by
          unfold tyr at hτ
          rw [if_neg (by omega), if_neg (by omega), if_neg (by omega), if_pos q3] at hτ
          split at hτ
          · exact ⟨_, rfl⟩
          · cases hτ
        obtain ⟨τ1, rfl⟩ := hτ2
        match st, hok, hm, hlen with
        | x1 :: s, hok, hm, hlen =>
          have hev : ev1 fa (x1 :: s) o = (1 - x1) :: s := ev1_43 q3
          have p1 := hm.pop
          simp only [List.length_cons] at hlen ⊢
          have e1 : nI (s.length + 1) - nI 1 = nI s.length := by
            rw [pk_sub (by omega)]
            rfl
          rw [e1, clN (by omega)]
          refine ⟨fun _ => ⟨inbN (by omega) (by decide), inbN (by omega) (by decide), next _ ?_ ?_ _ ?_⟩, fun z => absurd (nI_le (show 1 ≤ s.length + 1 by omega) (by omega)) z⟩
          · rw [hev]
            refine p1.1.push ?_
            rcases hok.1.2 rfl with z | z
            · rw [Kit.i32_sub (by rw [p1.2, z, nI1_toInt]; decide) (by rw [p1.2, z, nI1_toInt]; decide), p1.2, nI1_toInt]
            · rw [Kit.i32_sub (by rw [p1.2, z, nI1_toInt]; decide) (by rw [p1.2, z, nI1_toInt]; decide), p1.2, nI1_toInt]
          · intro r k hr
            rw [up2_r hr]
            exact hg r k hr
          · rw [hev]
            rfl
        | [], hok, hm, hlen => exact hok.elim
  refine VX3_valueBy hs he ?_
  exact loop ops [] [] [] f rfl rfl trivial (by decide) hty (fun j v h => by simp at h) (fun _ _ _ => rfl)
end J2
