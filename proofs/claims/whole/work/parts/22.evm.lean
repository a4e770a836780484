/-! formulas: types, ranges; how the reference reckons -/
def rng (v : Int) : Prop := -1000000 ≤ v ∧ v ≤ 1000000
/-- types on the stack: true for a test -/
def tyr (τ : List Bool) (o : Op) : Option (List Bool) :=
  if o.1 = 0 then some (false :: τ)
  else if o.1 = 30 then some (true :: τ)
  else if o.1 < 30 then some (false :: τ)
  else if o.1 = 43 then (match τ with
    | true :: s => some (true :: s)
    | _ => none)
  else if o.1 = 44 then (match τ with
    | false :: false :: true :: s => some (false :: s)
    | _ => none)
  else if o.1 < 38 then (match τ with
    | false :: false :: s => some (false :: s)
    | _ => none)
  else if o.1 < 41 then (match τ with
    | false :: false :: s => some (true :: s)
    | _ => none)
  else if o.1 < 43 then (match τ with
    | true :: true :: s => some (true :: s)
    | _ => none)
  else none
def tyrun : List Op → List Bool → Option (List Bool)
  | [], τ => some τ
  | o :: os, τ => match tyr τ o with
    | some τ' => if τ'.length ≤ 90 then tyrun os τ' else none
    | none => none
def okT (v : Int) (t : Bool) : Prop := rng v ∧ (t = true → v = 0 ∨ v = 1)
def stOK : List Int → List Bool → Prop
  | [], [] => True
  | v :: st, t :: τ => okT v t ∧ stOK st τ
  | _, _ => False
theorem stOK_len : ∀ {st : List Int} {τ : List Bool}, stOK st τ → st.length = τ.length
  | [], [], _ => rfl
  | v :: st, t :: τ, h => by rw [List.length_cons, List.length_cons, stOK_len h.2]
  | [], t :: τ, h => h.elim
  | v :: st, [], h => h.elim
theorem lim_rng (v : Int) : rng (lim v) := by
  unfold lim rng
  split
  · omega
  · split <;> omega
theorem rng_ite {c : Prop} [Decidable c] {x y : Int} (h1 : rng x) (h2 : rng y) : rng (if c then x else y) := by
  by_cases h : c
  · rw [if_pos h]; exact h1
  · rw [if_neg h]; exact h2
theorem rng0 : rng 0 := ⟨by decide, by decide⟩
theorem rng1 : rng 1 := ⟨by decide, by decide⟩
theorem two_ok {s : Nat} {a b : Int} (ha : rng a) (hb : rng b) : rng (two s a b) := by
  unfold two
  repeat' (first | exact lim_rng _ | exact ha | exact hb | exact rng0 | exact rng1 | apply rng_ite)
theorem two_01 {s : Nat} {a b : Int} (hs : 38 ≤ s) : two s a b = 0 ∨ two s a b = 1 := by
  unfold two
  rw [if_neg (by omega), if_neg (by omega), if_neg (by omega), if_neg (by omega), if_neg (by omega), if_neg (by omega), if_neg (by omega)]
  repeat' split
  all_goals first | exact Or.inl rfl | exact Or.inr rfl
/-- a step keeps the types -/
theorem ev1_ok {fa : Nat → Int} {st : List Int} {τ τ' : List Bool} {o : Op} (h : stOK st τ) (ht : tyr τ o = some τ') (hf : 0 < o.1 → o.1 < 30 → rng (fa o.1)) (hv : o.1 = 0 → o.2 ≤ 9999) : stOK (ev1 fa st o) τ' := by
  unfold tyr at ht
  unfold ev1
  by_cases c0 : o.1 = 0
  · rw [if_pos c0] at ht ⊢
    cases ht
    have := hv c0
    exact ⟨⟨⟨by omega, by omega⟩, fun z => by cases z⟩, h⟩
  rw [if_neg c0] at ht ⊢
  by_cases c1 : o.1 = 30
  · rw [if_pos c1] at ht ⊢
    cases ht
    exact ⟨⟨⟨by decide, by decide⟩, fun _ => Or.inr rfl⟩, h⟩
  rw [if_neg c1] at ht ⊢
  by_cases c2 : o.1 < 30
  · rw [if_pos c2] at ht ⊢
    cases ht
    exact ⟨⟨hf (by omega) c2, fun z => by cases z⟩, h⟩
  rw [if_neg c2] at ht ⊢
  by_cases c3 : o.1 = 43
  · rw [if_pos c3] at ht ⊢
    split at ht
    · cases ht
      match st, h with
      | a :: s, h =>
        refine ⟨⟨?_, fun _ => ?_⟩, h.2⟩ <;> rcases h.1.2 rfl with rfl | rfl <;> first | exact ⟨by decide, by decide⟩ | exact Or.inr rfl | exact Or.inl rfl
    · cases ht
  rw [if_neg c3] at ht ⊢
  by_cases c4 : o.1 = 44
  · rw [if_pos c4] at ht ⊢
    split at ht
    · cases ht
      match st, h with
      | c :: b :: a :: s, h =>
        refine ⟨⟨?_, fun z => by cases z⟩, h.2.2.2⟩
        show rng (if a = 1 then b else c)
        split
        · exact h.2.1.1
        · exact h.1.1
    · cases ht
  rw [if_neg c4] at ht ⊢
  by_cases c5 : o.1 < 38
  · rw [if_pos c5] at ht
    split at ht
    · cases ht
      match st, h with
      | b :: a :: s, h => exact ⟨⟨two_ok h.2.1.1 h.1.1, fun z => by cases z⟩, h.2.2⟩
    · cases ht
  rw [if_neg c5] at ht
  by_cases c6 : o.1 < 41
  · rw [if_pos c6] at ht
    split at ht
    · cases ht
      match st, h with
      | b :: a :: s, h => exact ⟨⟨two_ok h.2.1.1 h.1.1, fun _ => two_01 (by omega)⟩, h.2.2⟩
    · cases ht
  rw [if_neg c6] at ht
  by_cases c7 : o.1 < 43
  · rw [if_pos c7] at ht
    split at ht
    · cases ht
      match st, h with
      | b :: a :: s, h => exact ⟨⟨two_ok h.2.1.1 h.1.1, fun _ => two_01 (by omega)⟩, h.2.2⟩
    · cases ht
  rw [if_neg c7] at ht
  cases ht
theorem ev1_two {fa : Nat → Int} {a b : Int} {s : List Int} {o : Op} (h1 : 30 < o.1) (h2 : ¬ o.1 = 43) (h3 : ¬ o.1 = 44) : ev1 fa (b :: a :: s) o = two o.1 a b :: s := by
  unfold ev1
  rw [if_neg (by omega), if_neg (by omega), if_neg (by omega), if_neg h2, if_neg h3]
theorem ev1_44 {fa : Nat → Int} {a b c : Int} {s : List Int} {o : Op} (h : o.1 = 44) : ev1 fa (c :: b :: a :: s) o = (if a = 1 then b else c) :: s := by
  unfold ev1
  rw [if_neg (by omega), if_neg (by omega), if_neg (by omega), if_neg (by omega), if_pos h]
theorem ev1_43 {fa : Nat → Int} {a : Int} {s : List Int} {o : Op} (h : o.1 = 43) : ev1 fa (a :: s) o = (1 - a) :: s := by
  unfold ev1
  rw [if_neg (by omega), if_neg (by omega), if_neg (by omega), if_pos h]
theorem fdiv_of {a b : Int} (hb : b ≠ 0) : Int.fdiv a b = if a.tmod b = 0 then a.tdiv b else if (a < 0) ≠ (b < 0) then a.tdiv b - 1 else a.tdiv b := by
  rw [Int.fdiv_eq_tdiv]
  by_cases h : b ∣ a
  · rw [if_pos h, if_pos (Int.tmod_eq_zero_of_dvd h)]
    simp
  · rw [if_neg h, if_neg (fun z => h (Int.dvd_of_tmod_eq_zero z))]
    by_cases h1 : 0 ≤ a <;> by_cases h2 : 0 ≤ b
    · rw [if_pos h1, if_pos h2, if_neg (by simp; omega)]; omega
    · rw [if_pos h1, if_neg h2, if_pos (by simp; omega)]
    · rw [if_neg h1, if_pos h2, if_pos (by simp; omega), Int.sign_eq_one_of_pos (by omega)]
    · rw [if_neg h1, if_neg h2, if_neg (by simp; omega), Int.sign_eq_neg_one_of_neg (by omega)]; omega
section E1
variable {l : Launch} {G : Gx} {d : Nat} {sh : Sh} {fR : FRt} {B : Nat} {f : FI} {g : FL}
theorem lN_0 : (lN 0).toInt = 0 := by decide
theorem lN_1' : (lN 1).toInt = 1 := by decide
theorem lN_M : (lN 1000000).toInt = 1000000 := by decide
theorem lN_mM : (-1000000 : Int64).toInt = -1000000 := by decide
theorem C_within {K : Int64 → FI → FL → Prop} {x : Int64} (hs : StM sh fR B) (H : ∀ y : Int64, y.toInt = lim x.toInt → K y f g) : Cl l G d 0 0 mX12_within [.long x] (sh, f, g, fR) (ql sh fR K) := by
  refine VX12_within hs ?_
  simp only [Int64.le_iff_toInt_le, lN_M, lN_mM]
  unfold lim at H
  refine ⟨fun c1 => ⟨fun c2 => ⟨_, _, _, rfl, rfl, H x ?_⟩, fun c2 => ⟨_, _, _, rfl, rfl, H _ ?_⟩⟩, fun c1 => ⟨_, _, _, rfl, rfl, H _ ?_⟩⟩
  · rw [if_neg (by omega), if_neg (by omega)]
  · rw [if_neg (by omega), if_pos (by omega)]; exact lN_mM
  · rw [if_pos (by omega)]; exact lN_M
theorem C_floor {K : Int64 → FI → FL → Prop} {x y : Int64} (hs : StM sh fR B) (hx : rng x.toInt) (hy : rng y.toInt) (H : ∀ z : Int64, z.toInt = (if y.toInt = 0 then 0 else Int.fdiv x.toInt y.toInt) → K z f g) : Cl l G d 0 0 mX12_floor [.long x, .long y] (sh, f, g, fR) (ql sh fR K) := by
  refine VX12_floor hs ?_
  simp only [Int64.le_iff_toInt_le, ← Int64.toInt_inj, lN_0, Kit.i64_rem, Int64.toInt_zero]
  have hd : (x / y).toInt = x.toInt.tdiv y.toInt := Kit.i64_div (by have := hx.1; omega)
  have hdr : (-1000000 : Int) ≤ x.toInt.tdiv y.toInt ∧ x.toInt.tdiv y.toInt ≤ 1000000 := by
    have h1 := Int.natAbs_tdiv_le_natAbs x.toInt y.toInt
    have h2 := hx.1
    have h3 := hx.2
    omega
  refine ⟨fun c0 => ⟨c0, fun z ez => ⟨c0, fun c1 => ⟨_, _, _, rfl, rfl, H z ?_⟩, fun c1 => ⟨fun c2 => ⟨fun c3 => ⟨_, _, _, rfl, rfl, H z ?_⟩, fun c3 => ⟨_, _, _, rfl, rfl, H _ ?_⟩⟩, fun c2 => ⟨fun c3 => ⟨_, _, _, rfl, rfl, H _ ?_⟩, fun c3 => ⟨_, _, _, rfl, rfl, H z ?_⟩⟩⟩⟩⟩, fun c0 => ⟨_, _, _, rfl, rfl, H _ ?_⟩⟩
  · rw [if_neg c0, fdiv_of c0, if_pos c1, ez, hd]
  · rw [if_neg c0, fdiv_of c0, if_neg c1, if_neg (by simp; omega), ez, hd]
  · rw [if_neg c0, fdiv_of c0, if_neg c1, if_pos (by simp; omega), Kit.i64_sub (by rw [ez, hd, lN_1']; omega) (by rw [ez, hd, lN_1']; omega), ez, hd, lN_1']
  · rw [if_neg c0, fdiv_of c0, if_neg c1, if_pos (by simp; omega), Kit.i64_sub (by rw [ez, hd, lN_1']; omega) (by rw [ez, hd, lN_1']; omega), ez, hd, lN_1']
  · rw [if_neg c0, fdiv_of c0, if_neg c1, if_neg (by simp; omega), ez, hd]
  · rw [if_pos c0]; exact lN_0
theorem C_two {K : Int64 → FI → FL → Prop} {x y : Int64} {s : Nat} (hs : StM sh fR B) (h31 : 31 ≤ s) (h43 : s < 43) (hx : rng x.toInt) (hy : rng y.toInt) (h01 : 41 ≤ s → (x.toInt = 0 ∨ x.toInt = 1) ∧ (y.toInt = 0 ∨ y.toInt = 1)) (H : ∀ z : Int64, z.toInt = two s x.toInt y.toInt → K z f g) : Cl l G (d + 1) 0 0 mX12_two [.int (nI s), .long x, .long y] (sh, f, g, fR) (ql sh fR K) := by
  refine VX12_two hs ?_
  have hx1 := hx.1
  have hx2 := hx.2
  have hy1 := hy.1
  have hy2 := hy.2
  have hI : ∀ k : Nat, k < 64 → (nI s = nI k ↔ s = k) := fun k hk => nI_eq (by omega) (by omega)
  have hmul : -1000000000000 ≤ x.toInt * y.toInt ∧ x.toInt * y.toInt ≤ 1000000000000 := by
    have h1 : (x.toInt * y.toInt).natAbs ≤ 1000000 * 1000000 := by
      rw [Int.natAbs_mul]
      exact Nat.mul_le_mul (by omega) (by omega)
    omega
  refine ⟨fun c => ?_, fun c => ?_, fun c => ?_, fun c => ?_, fun c => ?_, fun c => ?_, fun c => ?_, fun c => ?_, fun c => ?_, fun c => ?_, fun c => ?_, fun c => ?_⟩
  · rw [hI 31 (by decide)] at c
    subst c
    refine C_within hs (fun z hz => ⟨_, _, _, rfl, rfl, H z ?_⟩)
    rw [hz, Kit.i64_add (by omega) (by omega)]
    simp [two]
  · rw [hI 32 (by decide)] at c
    subst c
    refine C_within hs (fun z hz => ⟨_, _, _, rfl, rfl, H z ?_⟩)
    rw [hz, Kit.i64_sub (by omega) (by omega)]
    simp [two]
  · rw [hI 33 (by decide)] at c
    subst c
    refine C_within hs (fun z hz => ⟨_, _, _, rfl, rfl, H z ?_⟩)
    rw [hz, Kit.i64_mul (by omega) (by omega)]
    simp [two]
  · rw [hI 34 (by decide)] at c
    subst c
    refine C_floor hs hx hy (fun z hz => ?_)
    refine C_within hs (fun z' hz' => ⟨_, _, _, rfl, rfl, H z' ?_⟩)
    rw [hz', hz]
    simp only [two]
    by_cases h0 : y.toInt = 0
    · simp [h0, lim]
    · simp [h0]
  · rw [hI 35 (by decide)] at c
    subst c
    refine ⟨fun c2 => ?_, fun c2 => ⟨_, _, _, rfl, rfl, H _ ?_⟩⟩
    · have h0 : ¬ y.toInt = 0 := fun z => c2 (Int64.toInt_inj.mp (by rw [z]; rfl))
      refine C_floor hs hx hy (fun z hz => ?_)
      rw [if_neg h0] at hz
      have hq := two_ok (s := 34) hx hy
      have hm : (x.toInt - y.toInt * Int.fdiv x.toInt y.toInt) = Int.fmod x.toInt y.toInt := (Int.fmod_def x.toInt y.toInt).symm
      have hb : -1000000 ≤ Int.fmod x.toInt y.toInt ∧ Int.fmod x.toInt y.toInt ≤ 1000000 := by
        rcases Int.lt_or_gt_of_ne h0 with q | q
        · have a0 := Int.neg_fmod_neg x.toInt y.toInt
          have a1 := Int.fmod_nonneg_of_pos (-x.toInt) (b := -y.toInt) (by omega)
          have a2 := Int.fmod_lt_of_pos (-x.toInt) (b := -y.toInt) (by omega)
          omega
        · have a1 := Int.fmod_nonneg_of_pos x.toInt q
          have a2 := Int.fmod_lt_of_pos x.toInt q
          omega
      have hp : y.toInt * Int.fdiv x.toInt y.toInt = x.toInt - Int.fmod x.toInt y.toInt := by omega
      have e1 : (y * z).toInt = y.toInt * Int.fdiv x.toInt y.toInt := by
        rw [Kit.i64_mul (by rw [hz, hp]; omega) (by rw [hz, hp]; omega), hz]
      refine C_within hs (fun z' hz' => ⟨_, _, _, rfl, rfl, H z' ?_⟩)
      rw [hz', Kit.i64_sub (by rw [e1, hp]; omega) (by rw [e1, hp]; omega), e1]
      simp [two, h0]
    · have h0 : y.toInt = 0 := by rw [c2]; exact lN_0
      simp [two, h0, lN_0]
  · rw [hI 36 (by decide)] at c
    subst c
    simp only [Int64.le_iff_toInt_le]
    refine ⟨fun c2 => ⟨_, _, _, rfl, rfl, H _ ?_⟩, fun c2 => ⟨_, _, _, rfl, rfl, H _ ?_⟩⟩
    · simp [two, show ¬ x.toInt < y.toInt by omega]
    · simp [two, show x.toInt < y.toInt by omega]
  · rw [hI 37 (by decide)] at c
    subst c
    simp only [Int64.le_iff_toInt_le]
    refine ⟨fun c2 => ⟨_, _, _, rfl, rfl, H _ ?_⟩, fun c2 => ⟨_, _, _, rfl, rfl, H _ ?_⟩⟩
    · simp [two, show ¬ y.toInt < x.toInt by omega]
    · simp [two, show y.toInt < x.toInt by omega]
  · rw [hI 38 (by decide)] at c
    subst c
    simp only [Int64.le_iff_toInt_le]
    refine ⟨fun c2 => ⟨_, _, _, rfl, rfl, H _ ?_⟩, fun c2 => ⟨_, _, _, rfl, rfl, H _ ?_⟩⟩
    · simp [two, show ¬ x.toInt < y.toInt by omega, lN_0]
    · simp [two, show x.toInt < y.toInt by omega, lN_1']
  · rw [hI 39 (by decide)] at c
    subst c
    simp only [Int64.le_iff_toInt_le]
    refine ⟨fun c2 => ⟨_, _, _, rfl, rfl, H _ ?_⟩, fun c2 => ⟨_, _, _, rfl, rfl, H _ ?_⟩⟩
    · simp [two, show ¬ y.toInt < x.toInt by omega, lN_0]
    · simp [two, show y.toInt < x.toInt by omega, lN_1']
  · rw [hI 40 (by decide)] at c
    subst c
    refine ⟨fun c2 => ⟨_, _, _, rfl, rfl, H _ ?_⟩, fun c2 => ⟨_, _, _, rfl, rfl, H _ ?_⟩⟩
    · simp [two, show ¬ x.toInt = y.toInt from fun z => c2 (Int64.toInt_inj.mp z), lN_0]
    · simp [two, c2, lN_1']
  · rw [hI 41 (by decide)] at c
    subst c
    refine ⟨_, _, _, rfl, rfl, H _ ?_⟩
    obtain ⟨q1, q2⟩ := h01 (by decide)
    have t1 : ∀ u : Int64, u.toInt = 0 ∨ u.toInt = 1 → u = 0 ∨ u = 1 := fun u hu => by
      rcases hu with h | h
      · exact Or.inl (Int64.toInt_inj.mp (by rw [h]; rfl))
      · exact Or.inr (Int64.toInt_inj.mp (by rw [h]; rfl))
    rcases t1 x q1 with rfl | rfl <;> rcases t1 y q2 with rfl | rfl <;> simp [two]
  · have hs42 : s = 42 := by
      obtain ⟨z1, z2, z3, z4, z5, z6, z7, z8, z9, z10, z11⟩ := c
      rw [hI 31 (by decide)] at z1
      rw [hI 32 (by decide)] at z2
      rw [hI 33 (by decide)] at z3
      rw [hI 34 (by decide)] at z4
      rw [hI 35 (by decide)] at z5
      rw [hI 36 (by decide)] at z6
      rw [hI 37 (by decide)] at z7
      rw [hI 38 (by decide)] at z8
      rw [hI 39 (by decide)] at z9
      rw [hI 40 (by decide)] at z10
      rw [hI 41 (by decide)] at z11
      omega
    subst hs42
    refine ⟨_, _, _, rfl, rfl, H _ ?_⟩
    obtain ⟨q1, q2⟩ := h01 (by decide)
    have t1 : ∀ u : Int64, u.toInt = 0 ∨ u.toInt = 1 → u = 0 ∨ u = 1 := fun u hu => by
      rcases hu with h | h
      · exact Or.inl (Int64.toInt_inj.mp (by rw [h]; rfl))
      · exact Or.inr (Int64.toInt_inj.mp (by rw [h]; rfl))
    rcases t1 x q1 with rfl | rfl <;> rcases t1 y q2 with rfl | rfl <;> simp [two]
/-- the stack of long values, its top first -/
def stM (g : FL) (B : Nat) (st : List Int) : Prop := ∀ (j : Nat) (v : Int), st[j]? = some v → (g (B + 30) (st.length - 1 - j)).toInt = v
theorem stM.push {st : List Int} {v : Int} {y : Int64} (h : stM g B st) (hy : y.toInt = v) : stM (up2 g (B + 30) st.length y) B (v :: st) := by
  intro j w hj
  match j, hj with
  | 0, hj =>
    cases hj
    simpa [up2] using hy
  | j + 1, hj =>
    have hlt := (List.getElem?_eq_some_iff.mp (show st[j]? = some w from hj)).1
    rw [up2_k (by simp; omega)]
    have := h j w hj
    simpa [show st.length - (j + 1) = st.length - 1 - j by omega] using this
theorem stM.pop {st : List Int} {v : Int} (h : stM g B (v :: st)) : stM g B st ∧ (g (B + 30) st.length).toInt = v := by
  refine ⟨fun j w hj => ?_, ?_⟩
  · have hlt := (List.getElem?_eq_some_iff.mp hj).1
    have := h (j + 1) w hj
    rw [List.length_cons] at this
    rw [show st.length - 1 - j = st.length + 1 - 1 - (j + 1) by omega]
    exact this
  · have := h 0 v rfl
    simpa using this
/-- a formula in the reference's codes -/
def FmM (f : FI) (B b i : Nat) (ops : List Op) : Prop := f B 13 = nI b ∧ b < 2 ∧ ∃ c0 : Nat, f (B + 11) (4 * b + i) = nI c0 ∧ f (B + 12) (4 * b + i) = nI (c0 + ops.length) ∧ c0 + ops.length ≤ 1600 ∧ ∀ (j : Nat) (o : Op), ops[j]? = some o → f (B + 13) (1600 * b + c0 + j) = nI o.1 ∧ f (B + 14) (1600 * b + c0 + j) = nI o.2
/-- its codes, typed; the numbers small; the facts that it asks for among some -/
def opsOK (ops : List Op) (t : Bool) (allow : Nat → Bool) : Prop := tyrun ops [] = some [t] ∧ ∀ o ∈ ops, o.1 < 64 ∧ (o.1 = 0 → o.2 ≤ 9999) ∧ (0 < o.1 → o.1 < 30 → o.1 ≤ 10 ∧ allow o.1 = true)
theorem C_reckons {K : Int64 → FI → FL → Prop} {b i : Nat} {ops : List Op} {t : Bool} {allow : Nat → Bool} {fa : Nat → Int} (hs : StM sh fR B) (hi : i < 4) (hF : FmM f B b i ops) (hO : opsOK ops t allow) (hfa : ∀ k, 0 < k → k ≤ 10 → allow k = true → (f (B + 31) k).toInt = fa k ∧ rng (fa k)) (H : ∀ (y : Int64) (g' : FL), y.toInt = ev ops fa → okT (ev ops fa) t → (∀ r k, r ≠ B + 30 → g' r k = g r k) → K y f g') : Cl l G (d + 2) 0 0 mX12_reckons [.ref B, .int (nI i)] (sh, f, g, fR) (ql sh fR K) := by
  obtain ⟨h13, hb, c0, h11, h12, hc, hcode⟩ := hF
  obtain ⟨hty, hops⟩ := hO
  have loop : ∀ (rest done : List Op) (st : List Int) (τ : List Bool) (g' : FL), ops = done ++ rest → done.foldl (ev1 fa) [] = st → stOK st τ → st.length ≤ 90 → tyrun rest τ = some [t] → stM g' B st → (∀ r k, r ≠ B + 30 → g' r k = g r k) → LpX12_reckons_25 l G d (ql sh fR K) sh fR B f g' (nI i) (nI st.length) (nI (1600 * b + c0 + done.length)) := by
    intro rest
    induction rest with
    | nil =>
      intro done st τ g' e hst hok hlen ht hm hg
      rw [List.append_nil] at e
      subst e
      simp only [tyrun, Option.some.injEq] at ht
      subst ht
      match st, hok with
      | [v], hok =>
        refine VX12_reckons_25 hs ?_
        rw [h13]
        simp only [pk_mul, nI_add]
        rw [clN (by omega), h12]
        simp only [nI_add]
        refine ⟨inbN (by omega) (by decide), fun _ => ⟨_, _, _, rfl, rfl, ?_⟩, fun z => absurd (nI_le (by omega) (by omega)) z⟩
        have e1 : ev ops fa = v := by unfold ev; rw [hst]; rfl
        exact H _ g' (by rw [e1]; exact hm.pop.2) (by rw [e1]; exact hok.1) hg
    | cons o rest ih =>
      intro done st τ g' e hst hok hlen ht hm hg
      have hk : ops[done.length]? = some o := by rw [e]; exact at_len
      have hlt : done.length < ops.length := (List.getElem?_eq_some_iff.mp hk).1
      obtain ⟨ho1, ho2, ho3⟩ := hops o (List.mem_of_getElem? hk)
      obtain ⟨hk1, hk2⟩ := hcode _ o hk
      simp only [tyrun] at ht
      split at ht
      case h_2 => cases ht
      rename_i τ' hτ
      split at ht
      case isFalse => cases ht
      rename_i hl90
      have hok' : stOK (ev1 fa st o) τ' := ev1_ok hok hτ (fun z1 z2 => (hfa o.1 z1 (ho3 z1 z2).1 (ho3 z1 z2).2).2) ho2
      have hsl := stOK_len hok'
      have next : ∀ g2 : FL, stM g2 B (ev1 fa st o) → (∀ r k, r ≠ B + 30 → g2 r k = g r k) → ∀ a2 : Int32, a2 = nI (ev1 fa st o).length → LpX12_reckons_221 l G d (ql sh fR K) sh fR B f g2 (nI i) a2 (nI (1600 * b + c0 + done.length)) := by
        intro g2 h1 h2 a2 h3
        subst h3
        refine VX12_reckons_221 hs ?_
        have := ih (done ++ [o]) (ev1 fa st o) τ' g2 (by rw [e]; simp) (by rw [List.foldl_append, hst]; rfl) hok' (by omega) ht h1 h2
        rw [List.length_append, List.length_singleton] at this
        rw [nI_add]
        exact this
      refine VX12_reckons_25 hs ?_
      rw [h13]
      simp only [pk_mul, nI_add]
      rw [clN (by omega), h12, clN (by omega), hk1, hk2]
      simp only [nI_add]
      refine ⟨inbN (by omega) (by decide), fun z => absurd z (nI_ge (by omega) (by omega)), fun _ => ⟨inbN (by omega) (by decide), fun w ew => ?_⟩⟩
      subst ew
      have hI : ∀ k : Nat, k < 64 → (nI o.1 = nI k ↔ o.1 = k) := fun k hk => nI_eq (by omega) (by omega)
      refine ⟨fun c1 => ?_, fun c1 => ?_⟩
      · have q1 : 30 < o.1 := (nI_ltI (by decide) (by omega)).mp c1
        refine ⟨fun c2 => ⟨fun c3 => ?_, fun c3 => ?_⟩, fun c2 => ?_⟩
        · have q2 : ¬ o.1 = 43 := fun z => c2 ((hI 43 (by decide)).mpr z)
          have q3 : ¬ o.1 = 44 := fun z => c3 ((hI 44 (by decide)).mpr z)
          have hτ2 : (∃ s, τ = false :: false :: s) ∨ (41 ≤ o.1 ∧ o.1 < 43 ∧ ∃ s, τ = true :: true :: s) := by
            unfold tyr at hτ
            rw [if_neg (by omega), if_neg (by omega), if_neg (by omega), if_neg q2, if_neg q3] at hτ
            split at hτ
            · split at hτ
              · exact Or.inl ⟨_, rfl⟩
              · cases hτ
            · split at hτ
              · split at hτ
                · exact Or.inl ⟨_, rfl⟩
                · cases hτ
              · split at hτ
                · rename_i z1 z2
                  split at hτ
                  · exact Or.inr ⟨by omega, z2, _, rfl⟩
                  · cases hτ
                · cases hτ
          have h43 : o.1 < 43 := by
            unfold tyr at hτ
            rw [if_neg (by omega), if_neg (by omega), if_neg (by omega), if_neg q2, if_neg q3] at hτ
            by_cases z1 : o.1 < 43
            · exact z1
            · rw [if_neg (by omega), if_neg (by omega), if_neg z1] at hτ
              cases hτ
          match st, hok, hm, hlen with
          | y1 :: x1 :: s, hok, hm, hlen =>
            have hev : ev1 fa (y1 :: x1 :: s) o = two o.1 x1 y1 :: s := ev1_two q1 q2 q3
            obtain ⟨t1, t2, τ9, rfl⟩ : ∃ t1 t2 τ9, τ = t1 :: t2 :: τ9 := by
              rcases hτ2 with ⟨τ1, h⟩ | ⟨_, _, τ1, h⟩ <;> exact ⟨_, _, _, h⟩
            have p1 := hm.pop
            have p2 := p1.1.pop
            simp only [List.length_cons] at hlen p1 ⊢
            have e1 : nI (s.length + 1 + 1) + (-1) - nI 1 = nI s.length := by
              rw [pk_m1, pk_sub (by omega)]
              rfl
            have e2 : nI (s.length + 1 + 1) + (-1) = nI (s.length + 1) := pk_m1 _
            rw [e1, e2, clN (by omega), clN (by omega)]
            refine ⟨inbN (by omega) (by decide), inbN (by omega) (by decide), ?_⟩
            refine C_two hs (by omega) h43 (by rw [p2.2]; exact hok.2.1.1) (by rw [p1.2]; exact hok.1.1) (fun z => ?_) (fun z hz => ⟨inbN (by omega) (by decide), ?_⟩)
            · rw [p2.2, p1.2]
              rcases hτ2 with ⟨τ1, hτ1⟩ | ⟨_, _, τ1, hτ1⟩
              · exfalso
                cases hτ1
                unfold tyr at hτ
                rw [if_neg (by omega), if_neg (by omega), if_neg (by omega), if_neg q2, if_neg q3, if_neg (by omega), if_neg (by omega), if_pos h43] at hτ
                cases hτ
              · cases hτ1
                exact ⟨hok.2.1.2 rfl, hok.1.2 rfl⟩
            · refine next _ ?_ ?_ _ ?_
              · rw [hev]
                exact p2.1.push (by rw [hz, p2.2, p1.2])
              · intro r k hr
                rw [up2_r hr]
                exact hg r k hr
              · rw [hev]
                rfl
          | [y1], hok, hm, hlen =>
            rcases hτ2 with ⟨τ1, rfl⟩ | ⟨_, _, τ1, rfl⟩ <;> exact hok.2.elim
          | [], hok, hm, hlen =>
            rcases hτ2 with ⟨τ1, rfl⟩ | ⟨_, _, τ1, rfl⟩ <;> exact hok.elim
        · have q3 : o.1 = 44 := (hI 44 (by decide)).mp c3
          have hτ2 : ∃ s, τ = false :: false :: true :: s := by
            unfold tyr at hτ
            rw [if_neg (by omega), if_neg (by omega), if_neg (by omega), if_neg (by omega), if_pos q3] at hτ
            split at hτ
            · exact ⟨_, rfl⟩
            · cases hτ
          obtain ⟨τ1, rfl⟩ := hτ2
          match st, hok, hm, hlen with
          | z1 :: y1 :: x1 :: s, hok, hm, hlen =>
            have hev : ev1 fa (z1 :: y1 :: x1 :: s) o = (if x1 = 1 then y1 else z1) :: s := ev1_44 q3
            have p1 := hm.pop
            have p2 := p1.1.pop
            have p3 := p2.1.pop
            simp only [List.length_cons] at hlen p1 p2 ⊢
            have e0 : nI (s.length + 1 + 1 + 1) + (-2) = nI (s.length + 1) := by
              rw [show (-2 : Int32) = (-1) + (-1) by decide, ← Int32.add_assoc, pk_m1, pk_m1]
            have e1 : nI (s.length + 1) - nI 1 = nI s.length := by
              rw [pk_sub (by omega)]
              rfl
            rw [e0, e1]
            simp only [nI_add]
            rw [clN (by omega), clN (by omega), clN (by omega)]
            refine ⟨inbN (by omega) (by decide), fun c4 => ⟨inbN (by omega) (by decide), inbN (by omega) (by decide), ?_⟩, fun c4 => ⟨inbN (by omega) (by decide), inbN (by omega) (by decide), ?_⟩⟩
            · have q4 : ¬ x1 = 1 := fun z => c4 (Int64.toInt_inj.mp (by rw [p3.2, z]; rfl))
              refine next _ ?_ ?_ _ ?_
              · rw [hev]
                show stM _ B ((if x1 = 1 then y1 else z1) :: s)
                rw [if_neg q4]
                exact p3.1.push p1.2
              · intro r k hr
                rw [up2_r hr]
                exact hg r k hr
              · rw [hev]
                rfl
            · have q4 : x1 = 1 := by rw [← p3.2, c4]; rfl
              refine next _ ?_ ?_ _ ?_
              · rw [hev]
                show stM _ B ((if x1 = 1 then y1 else z1) :: s)
                rw [if_pos q4]
                exact p3.1.push p2.2
              · intro r k hr
                rw [up2_r hr]
                exact hg r k hr
              · rw [hev]
                rfl
          | [y1, x1], hok, hm, hlen => exact hok.2.2.elim
          | [y1], hok, hm, hlen => exact hok.2.elim
          | [], hok, hm, hlen => exact hok.elim
        · have q3 : o.1 = 43 := (hI 43 (by decide)).mp c2
          have hτ2 : ∃ s, τ = true :: s := by
            unfold tyr at hτ
            rw [if_neg (by omega), if_neg (by omega), if_neg (by omega), if_pos q3] at hτ
            split at hτ
            · exact ⟨_, rfl⟩
            · cases hτ
          obtain ⟨τ1, rfl⟩ := hτ2
          match st, hok, hm, hlen with
          | x1 :: s, hok, hm, hlen =>
            have hev : ev1 fa (x1 :: s) o = (1 - x1) :: s := ev1_43 q3
            have p1 := hm.pop
            simp only [List.length_cons] at hlen ⊢
            have e1 : nI (s.length + 1) - nI 1 = nI s.length := by
              rw [pk_sub (by omega)]
              rfl
            rw [e1, clN (by omega)]
            refine ⟨inbN (by omega) (by decide), inbN (by omega) (by decide), next _ ?_ ?_ _ ?_⟩
            · rw [hev]
              refine p1.1.push ?_
              rcases hok.1.2 rfl with z | z
              · rw [Kit.i64_sub (by rw [p1.2, z, lN_1']; decide) (by rw [p1.2, z, lN_1']; decide), p1.2, lN_1']
              · rw [Kit.i64_sub (by rw [p1.2, z, lN_1']; decide) (by rw [p1.2, z, lN_1']; decide), p1.2, lN_1']
            · intro r k hr
              rw [up2_r hr]
              exact hg r k hr
            · rw [hev]
              rfl
          | [], hok, hm, hlen => exact hok.elim
      · have q1 : o.1 ≤ 30 := Nat.not_lt.mp (fun z => c1 ((nI_ltI (by decide) (by omega)).mpr z))
        rw [clN (show st.length < 2 ^ 31 by omega)]
        refine ⟨fun c2 => ⟨fun c3 => ⟨?_, inbN (by omega) (by decide), ?_⟩, fun c3 => ⟨inbN (by omega) (by decide), ?_⟩⟩, fun c2 => ⟨inbN (by omega) (by decide), inbN (by omega) (by decide), ?_⟩⟩
        · have q2 : ¬ o.1 = 0 := fun z => c2 (by rw [z]; rfl)
          have q3 : ¬ o.1 = 30 := fun z => c3 ((hI 30 (by decide)).mpr z)
          exact inbN (by have := (ho3 (by omega) (by omega)).1; omega) (by decide)
        · have q2 : ¬ o.1 = 0 := fun z => c2 (by rw [z]; rfl)
          have q3 : ¬ o.1 = 30 := fun z => c3 ((hI 30 (by decide)).mpr z)
          have hev : ev1 fa st o = fa o.1 :: st := by
            unfold ev1
            rw [if_neg q2, if_neg q3, if_pos (by omega)]
          rw [clN (by omega)]
          refine next _ ?_ ?_ _ ?_
          · rw [hev]
            exact hm.push (by rw [Kit.i64_of_i32]; exact (hfa o.1 (by omega) (ho3 (by omega) (by omega)).1 (ho3 (by omega) (by omega)).2).1)
          · intro r k hr
            rw [up2_r hr]
            exact hg r k hr
          · rw [hev]
            rfl
        · have q3 : o.1 = 30 := (hI 30 (by decide)).mp c3
          have hev : ev1 fa st o = 1 :: st := by
            unfold ev1
            rw [if_neg (by omega), if_pos q3]
          refine next _ ?_ ?_ _ ?_
          · rw [hev]
            exact hm.push lN_1'
          · intro r k hr
            rw [up2_r hr]
            exact hg r k hr
          · rw [hev]
            rfl
        · have q2 : o.1 = 0 := (nI_eq (b := 0) (by omega) (by decide)).mp c2
          have hev : ev1 fa st o = (o.2 : Int) :: st := by
            unfold ev1
            rw [if_pos q2]
          refine next _ ?_ ?_ _ ?_
          · rw [hev]
            exact hm.push (by rw [Kit.i64_of_i32, nI_toInt (by have := ho2 q2; omega)])
          · intro r k hr
            rw [up2_r hr]
            exact hg r k hr
          · rw [hev]
            rfl
  refine VX12_reckons hs ?_
  rw [h13]
  simp only [pk_mul, nI_add]
  rw [clN (by omega), h11]
  refine ⟨inbN (by omega) (by decide), fun w ew => ?_⟩
  rw [ew, nI_add]
  exact loop ops [] [] [] g rfl rfl trivial (by decide) hty (fun j v h => by simp at h) (fun _ _ _ => rfl)
end E1
