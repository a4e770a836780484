/-! the reference inside a formula: frames, what is held back, codes -/
/-- a frame: kind, phase, whether it begins, which pair, what is held back -/
abbrev Frr : Type := Nat × Nat × Bool × Nat × List Nat
def isP (k : Nat) : Nat := if k = 3 ∨ k = 4 ∨ k = 6 then 1 else 0
def flatF : List Frr → List Nat
  | [] => []
  | x :: t => flatF t ++ x.2.2.2.2
def npr : List Frr → Nat
  | [] => 0
  | x :: t => npr t + isP x.1
def rowF (f : FI) (B n : Nat) (x : Frr) (base : Nat) : Prop := f (B + 16) n = nI x.1 ∧ f (B + 17) n = nI x.2.1 ∧ f (B + 18) n = bI x.2.2.1 ∧ (isP x.1 = 1 → f (B + 19) n = nI x.2.2.2.1) ∧ f (B + 20) n = nI base ∧ x.1 ≤ 6 ∧ x.2.1 ≤ 2 ∧ x.2.2.2.1 ≤ 44
def StkF (f : FI) (B : Nat) : List Frr → Prop
  | [] => True
  | x :: t => rowF f B t.length x (flatF t).length ∧ StkF f B t
def CodM (f : FI) (B b c0 : Nat) (cs : List Op) : Prop := f B 28 = nI (c0 + cs.length) ∧ ∀ (j : Nat) (o : Op), cs[j]? = some o → f (B + 13) (1600 * b + c0 + j) = nI o.1 ∧ f (B + 14) (1600 * b + c0 + j) = nI o.2
def OpsM (f : FI) (B : Nat) (os : List Nat) : Prop := f B 39 = nI os.length ∧ os.length ≤ 110 ∧ ∀ (i x : Nat), os[i]? = some x → f (B + 21) i = nI x ∧ 31 ≤ x ∧ x ≤ 43
def MF (f : FI) (g : FL) (B : Nat) (tp : List Nat) (b c0 w e : Nat) (cs : List Op) (fs : List Frr) (o bu : Nat) : Prop := MS f g B tp (.ok e) ∧ (f B 29 = nI b ∧ b < 2 ∧ f B 30 = nI w ∧ w < 4) ∧ CodM f B b c0 cs ∧ StkF f B fs ∧ (f B 36 = nI fs.length ∧ fs.length ≤ 9) ∧ OpsM f B (flatF fs) ∧ (f B 37 = nI o ∧ o ≤ 7) ∧ c0 + cs.length + (flatF fs).length + npr fs ≤ bu ∧ bu ≤ 1600
/-- what may change while a formula is read -/
def Fq (B b c0 : Nat) (f f' : FI) : Prop := ∀ r k, ¬ (r = B ∧ (k = 3 ∨ k = 4 ∨ k = 5 ∨ k = 6 ∨ k = 8 ∨ k = 9 ∨ k = 12 ∨ k = 28 ∨ k = 36 ∨ k = 37 ∨ k = 39 ∨ k = 40)) → ¬ ((r = B + 13 ∨ r = B + 14) ∧ 1600 * b + c0 ≤ k ∧ k < 1600 * b + 1600) → ¬ (B + 16 ≤ r ∧ r ≤ B + 21) → f' r k = f r k
theorem Fq.rf {B b c0 : Nat} {f : FI} : Fq B b c0 f f := fun _ _ _ _ _ => rfl
theorem Fq.tr {B b c0 : Nat} {f f' f'' : FI} (h : Fq B b c0 f f') (h' : Fq B b c0 f' f'') : Fq B b c0 f f'' := fun r k x y z => (h' r k x y z).trans (h r k x y z)
theorem Fm.fq {B b c0 : Nat} {f f' : FI} (h : Fm B f f') : Fq B b c0 f f' := fun r k x _ _ => h r k (fun q => x ⟨q.1, by omega⟩)
theorem Fq.up0 {B b c0 k : Nat} {f f' : FI} {v : Int32} (h : Fq B b c0 f f') (hk : k = 28 ∨ k = 36 ∨ k = 37 ∨ k = 39 ∨ k = 40) : Fq B b c0 f (up2 f' B k v) := fun r i x y z => by
  rw [up2_ne (fun q => x ⟨q.1, by omega⟩)]
  exact h r i x y z
theorem Fq.upS {B b c0 j k : Nat} {f f' : FI} {v : Int32} (h : Fq B b c0 f f') (hj : 16 ≤ j ∧ j ≤ 21) : Fq B b c0 f (up2 f' (B + j) k v) := fun r i x y z => by
  rw [up2_ne (fun q => z (by omega))]
  exact h r i x y z
theorem Fq.upC {B b c0 j k : Nat} {f f' : FI} {v : Int32} (h : Fq B b c0 f f') (hj : j = 13 ∨ j = 14) (hk : 1600 * b + c0 ≤ k ∧ k < 1600 * b + 1600) : Fq B b c0 f (up2 f' (B + j) k v) := fun r i x y z => by
  rw [up2_ne (fun q => y ⟨by omega, by omega⟩)]
  exact h r i x y z
theorem MS.kp {f f' : FI} {g : FL} {B : Nat} {tp : List Nat} {r : Rr Nat} (h : MS f g B tp r) (e : ∀ k, k ≤ 12 → f' B k = f B k) (e1 : ∀ k, f' (B + 1) k = f (B + 1) k) : MS f' g B tp r := by
  obtain ⟨⟨c1, c2, c3, c4⟩, h2⟩ := h
  refine ⟨⟨by rw [e _ (by decide)]; exact c1, c2, fun k hk => by rw [e1]; exact c3 k hk, c4⟩, ?_⟩
  cases r with
  | error x =>
    obtain ⟨d1, d2, d3, d4, d5⟩ := h2
    exact ⟨by rw [e _ (by decide)]; exact d1, d2, d3, by rw [e _ (by decide)]; exact d4, d5⟩
  | ok x =>
    obtain ⟨d1, d2, t1, t2, t3, t4⟩ := h2
    refine ⟨by rw [e _ (by decide)]; exact d1, d2, by rw [e _ (by decide)]; exact t1, by rw [e _ (by decide)]; exact t2, fun h4 => ?_, fun h0 => by rw [e _ (by decide)]; exact t4.1 h0, fun z => by rw [e _ (by decide)]; exact t4.2.1 z, by rw [e _ (by decide)]; exact t4.2.2⟩
    obtain ⟨s1, s2, s3, s4⟩ := t3 h4
    exact ⟨by rw [e _ (by decide)]; exact s1, by rw [e _ (by decide)]; exact s2, fun z => ⟨(s3 z).1, by rw [e _ (by decide)]; exact (s3 z).2⟩, fun z => by rw [e _ (by decide)]; exact s4 z⟩
theorem StkF.kp {f f' : FI} {B : Nat} : ∀ {fs : List Frr}, StkF f B fs → (∀ j i, 16 ≤ j → j ≤ 20 → i < fs.length → f' (B + j) i = f (B + j) i) → StkF f' B fs
  | [], _, _ => trivial
  | x :: t, h, e => by
    obtain ⟨⟨r1, r2, r3, r4, r5, r6⟩, h2⟩ := h
    have hl : t.length < (x :: t).length := by rw [List.length_cons]; omega
    refine ⟨⟨by rw [e 16 _ (by decide) (by decide) hl]; exact r1, by rw [e 17 _ (by decide) (by decide) hl]; exact r2, by rw [e 18 _ (by decide) (by decide) hl]; exact r3, fun z => by rw [e 19 _ (by decide) (by decide) hl]; exact r4 z, by rw [e 20 _ (by decide) (by decide) hl]; exact r5, r6⟩, h2.kp (fun j i a b c => e j i a b (by omega))⟩
section MFL
variable {f f' : FI} {g g' : FL} {B : Nat} {tp : List Nat} {b c0 w e : Nat} {cs : List Op} {fs : List Frr} {o bu : Nat}
theorem MF.tok {e' : Nat} (h : MF f g B tp b c0 w e cs fs o bu) (hF : Fm B f f') (hM : MS f' g' B tp (.ok e')) : MF f' g' B tp b c0 w e' cs fs o bu := by
  obtain ⟨h1, h2, h3, h4, h5, h6, h7, h8⟩ := h
  refine ⟨hM, ⟨by rw [hF _ _ (by omega)]; exact h2.1, h2.2.1, by rw [hF _ _ (by omega)]; exact h2.2.2.1, h2.2.2.2⟩, ⟨by rw [hF _ _ (by omega)]; exact h3.1, fun j o hj => by rw [hF _ _ (by omega), hF _ _ (by omega)]; exact h3.2 j o hj⟩, h4.kp (fun j i a b c => hF _ _ (by omega)), ⟨by rw [hF _ _ (by omega)]; exact h5.1, h5.2⟩, ⟨by rw [hF _ _ (by omega)]; exact h6.1, h6.2.1, fun i x hi => by rw [hF _ _ (by omega)]; exact h6.2.2 i x hi⟩, ⟨by rw [hF _ _ (by omega)]; exact h7.1, h7.2⟩, h8⟩
theorem MF.bu' {bu' : Nat} (h : MF f g B tp b c0 w e cs fs o bu) (hb : bu ≤ bu') (hb2 : bu' ≤ 1600) : MF f g B tp b c0 w e cs fs o bu' := by
  obtain ⟨h1, h2, h3, h4, h5, h6, h7, h8⟩ := h
  exact ⟨h1, h2, h3, h4, h5, h6, h7, by omega, hb2⟩
/-- the flag is of no account here -/
theorem MF.f40 {v : Int32} (h : MF f g B tp b c0 w e cs fs o bu) : MF (up2 f B 40 v) g B tp b c0 w e cs fs o bu := by
  obtain ⟨h1, h2, h3, h4, h5, h6, h7, h8⟩ := h
  have k : ∀ r i, r ≠ B ∨ i ≠ 40 → up2 f B 40 v r i = f r i := fun r i z => up2_ne (by omega)
  exact ⟨h1.kp (fun i hi => k _ _ (by omega)) (fun i => k _ _ (by omega)), ⟨by rw [k _ _ (by omega)]; exact h2.1, h2.2.1, by rw [k _ _ (by omega)]; exact h2.2.2.1, h2.2.2.2⟩, ⟨by rw [k _ _ (by omega)]; exact h3.1, fun j o hj => by rw [k _ _ (by omega), k _ _ (by omega)]; exact h3.2 j o hj⟩, h4.kp (fun j i a b c => k _ _ (by omega)), ⟨by rw [k _ _ (by omega)]; exact h5.1, h5.2⟩, ⟨by rw [k _ _ (by omega)]; exact h6.1, h6.2.1, fun i x hi => by rw [k _ _ (by omega)]; exact h6.2.2 i x hi⟩, ⟨by rw [k _ _ (by omega)]; exact h7.1, h7.2⟩, h8⟩
theorem MF.opn {o' : Nat} {v : Int32} (h : MF f g B tp b c0 w e cs fs o bu) (hv : v = nI o') (ho : o' ≤ 7) : MF (up2 f B 37 v) g B tp b c0 w e cs fs o' bu := by
  obtain ⟨h1, h2, h3, h4, h5, h6, h7, h8⟩ := h
  have k : ∀ r i, r ≠ B ∨ i ≠ 37 → up2 f B 37 v r i = f r i := fun r i z => up2_ne (by omega)
  exact ⟨h1.kp (fun i hi => k _ _ (by omega)) (fun i => k _ _ (by omega)), ⟨by rw [k _ _ (by omega)]; exact h2.1, h2.2.1, by rw [k _ _ (by omega)]; exact h2.2.2.1, h2.2.2.2⟩, ⟨by rw [k _ _ (by omega)]; exact h3.1, fun j o hj => by rw [k _ _ (by omega), k _ _ (by omega)]; exact h3.2 j o hj⟩, h4.kp (fun j i a b c => k _ _ (by omega)), ⟨by rw [k _ _ (by omega)]; exact h5.1, h5.2⟩, ⟨by rw [k _ _ (by omega)]; exact h6.1, h6.2.1, fun i x hi => by rw [k _ _ (by omega)]; exact h6.2.2 i x hi⟩, ⟨by rw [up2_eq]; exact hv, ho⟩, h8⟩
/-- a code is added -/
theorem MF.code {x : Op} {v1 v2 v3 : Int32} {bu' n : Nat} (h : MF f g B tp b c0 w e cs fs o bu) (hn : n = 1600 * b + (c0 + cs.length)) (hb : c0 + (cs ++ [x]).length + (flatF fs).length + npr fs ≤ bu') (hb2 : bu' ≤ 1600) (e1 : v1 = nI x.1) (e2 : v2 = nI x.2) (e3 : v3 = nI (c0 + cs.length + 1)) : MF (up2 (up2 (up2 f (B + 13) n v1) (B + 14) n v2) B 28 v3) g B tp b c0 w e (cs ++ [x]) fs o bu' := by
  obtain ⟨h1, h2, h3, h4, h5, h6, h7, h8⟩ := h
  have k : ∀ r i, (r ≠ B ∨ i ≠ 28) → r ≠ B + 13 → r ≠ B + 14 → up2 (up2 (up2 f (B + 13) n v1) (B + 14) n v2) B 28 v3 r i = f r i := fun r i z z2 z3 => by rw [up2_ne (by omega), up2_r z3, up2_r z2]
  refine ⟨h1.kp (fun i hi => k _ _ (by omega) (by omega) (by omega)) (fun i => k _ _ (by omega) (by omega) (by omega)), ⟨by rw [k _ _ (by omega) (by omega) (by omega)]; exact h2.1, h2.2.1, by rw [k _ _ (by omega) (by omega) (by omega)]; exact h2.2.2.1, h2.2.2.2⟩, ⟨by rw [up2_eq, e3, List.length_append, List.length_singleton]; rfl, fun j oo hj => ?_⟩, h4.kp (fun j i a b c => k _ _ (by omega) (by omega) (by omega)), ⟨by rw [k _ _ (by omega) (by omega) (by omega)]; exact h5.1, h5.2⟩, ⟨by rw [k _ _ (by omega) (by omega) (by omega)]; exact h6.1, h6.2.1, fun i x hi => by rw [k _ _ (by omega) (by omega) (by omega)]; exact h6.2.2 i x hi⟩, ⟨by rw [k _ _ (by omega) (by omega) (by omega)]; exact h7.1, h7.2⟩, hb, hb2⟩
  have e13 : ∀ i, up2 (up2 (up2 f (B + 13) n v1) (B + 14) n v2) B 28 v3 (B + 13) i = if i = n then v1 else f (B + 13) i := fun i => by
    rw [up2_r (by omega), up2_r (by omega)]
    by_cases z : i = n
    · rw [z, up2_eq, if_pos rfl]
    · rw [up2_k z, if_neg z]
  have e14 : ∀ i, up2 (up2 (up2 f (B + 13) n v1) (B + 14) n v2) B 28 v3 (B + 14) i = if i = n then v2 else f (B + 14) i := fun i => by
    rw [up2_r (by omega)]
    by_cases z : i = n
    · rw [z, up2_eq, if_pos rfl]
    · rw [up2_k z, up2_r (by omega), if_neg z]
  rw [e13, e14]
  by_cases hi2 : j < cs.length
  · rw [List.getElem?_append_left hi2] at hj
    rw [if_neg (by omega), if_neg (by omega)]
    exact h3.2 j oo hj
  · rw [List.getElem?_append_right (by omega)] at hj
    have hjj : j = cs.length := by
      have := (List.getElem?_eq_some_iff.mp hj).1
      simp at this
      omega
    subst hjj
    simp at hj
    subst hj
    rw [if_pos (by omega), if_pos (by omega)]
    exact ⟨e1, e2⟩
/-- an operator is held back -/
theorem MF.push {k ph pr : Nat} {bg : Bool} {os : List Nat} {t : List Frr} {x n : Nat} {v1 v2 : Int32} (h : MF f g B tp b c0 w e cs ((k, ph, bg, pr, os) :: t) o bu) (hn : n = (flatF ((k, ph, bg, pr, os) :: t)).length) (hx : 31 ≤ x ∧ x ≤ 43) (hl : n < 110) (hb : bu < 1600) (e1 : v1 = nI x) (e2 : v2 = nI (n + 1)) : MF (up2 (up2 f (B + 21) n v1) B 39 v2) g B tp b c0 w e cs ((k, ph, bg, pr, os ++ [x]) :: t) o (bu + 1) := by
  obtain ⟨h1, h2, h3, h4, h5, h6, h7, h8⟩ := h
  have kk : ∀ r i, (r ≠ B ∨ i ≠ 39) → r ≠ B + 21 → up2 (up2 f (B + 21) n v1) B 39 v2 r i = f r i := fun r i z z2 => by rw [up2_ne (by omega), up2_r z2]
  have ef : flatF ((k, ph, bg, pr, os ++ [x]) :: t) = flatF ((k, ph, bg, pr, os) :: t) ++ [x] := by
    show flatF t ++ (os ++ [x]) = flatF t ++ os ++ [x]
    rw [List.append_assoc]
  refine ⟨h1.kp (fun i hi => kk _ _ (by omega) (by omega)) (fun i => kk _ _ (by omega) (by omega)), ⟨by rw [kk _ _ (by omega) (by omega)]; exact h2.1, h2.2.1, by rw [kk _ _ (by omega) (by omega)]; exact h2.2.2.1, h2.2.2.2⟩, ⟨by rw [kk _ _ (by omega) (by omega)]; exact h3.1, fun j o hj => by rw [kk _ _ (by omega) (by omega), kk _ _ (by omega) (by omega)]; exact h3.2 j o hj⟩, ?_, ⟨by rw [kk _ _ (by omega) (by omega)]; exact h5.1, h5.2⟩, ⟨by rw [up2_eq, e2, ef, List.length_append, List.length_singleton, hn], by rw [ef, List.length_append, List.length_singleton]; omega, fun i y hi => ?_⟩, ⟨by rw [kk _ _ (by omega) (by omega)]; exact h7.1, h7.2⟩, ?_⟩
  · have h4' : StkF (up2 (up2 f (B + 21) n v1) B 39 v2) B ((k, ph, bg, pr, os) :: t) := h4.kp (fun j i a b c => kk _ _ (by omega) (by omega))
    exact h4'
  · rw [ef] at hi
    rw [up2_r (by omega)]
    by_cases hi2 : i < (flatF ((k, ph, bg, pr, os) :: t)).length
    · rw [List.getElem?_append_left hi2] at hi
      rw [up2_k (by omega)]
      exact h6.2.2 i y hi
    · rw [List.getElem?_append_right (by omega)] at hi
      have hjj : i = n := by
        have := (List.getElem?_eq_some_iff.mp hi).1
        simp at this
        omega
      subst hjj
      rw [hn] at hi
      simp at hi
      subst hi
      rw [up2_eq]
      exact ⟨e1, hx⟩
  · rw [ef, List.length_append, List.length_singleton]
    have : npr ((k, ph, bg, pr, os ++ [x]) :: t) = npr ((k, ph, bg, pr, os) :: t) := rfl
    rw [this]
    omega
/-- the frame on top: kind, phase, beginning -/
theorem MF.row {k ph pr : Nat} {bg : Bool} {os : List Nat} {t : List Frr} {k' ph' : Nat} {bg' : Bool} {v : Int32} {j : Nat} (h : MF f g B tp b c0 w e cs ((k, ph, bg, pr, os) :: t) o bu) (hj : (j = 16 ∧ v = nI k' ∧ ph' = ph ∧ bg' = bg) ∨ (j = 17 ∧ v = nI ph' ∧ k' = k ∧ bg' = bg) ∨ (j = 18 ∧ v = bI bg' ∧ k' = k ∧ ph' = ph)) (hk : k' ≤ 6 ∧ ph' ≤ 2) (hp : isP k' = isP k) : MF (up2 f (B + j) t.length v) g B tp b c0 w e cs ((k', ph', bg', pr, os) :: t) o bu := by
  obtain ⟨h1, h2, h3, ⟨h4, h4'⟩, h5, h6, h7, h8⟩ := h
  have kk : ∀ r i, r ≠ B + j ∨ i ≠ t.length → up2 f (B + j) t.length v r i = f r i := fun r i z => up2_ne (by omega)
  have hj' : 16 ≤ j ∧ j ≤ 18 := by omega
  refine ⟨h1.kp (fun i hi => kk _ _ (by omega)) (fun i => kk _ _ (by omega)), ⟨by rw [kk _ _ (by omega)]; exact h2.1, h2.2.1, by rw [kk _ _ (by omega)]; exact h2.2.2.1, h2.2.2.2⟩, ⟨by rw [kk _ _ (by omega)]; exact h3.1, fun j o hj => by rw [kk _ _ (by omega), kk _ _ (by omega)]; exact h3.2 j o hj⟩, ⟨?_, h4'.kp (fun j' i a b c => kk _ _ (by omega))⟩, ⟨by rw [kk _ _ (by omega)]; exact h5.1, h5.2⟩, ⟨by rw [kk _ _ (by omega)]; exact h6.1, h6.2.1, fun i x hi => by rw [kk _ _ (by omega)]; exact h6.2.2 i x hi⟩, ⟨by rw [kk _ _ (by omega)]; exact h7.1, h7.2⟩, ?_⟩
  · obtain ⟨r1, r2, r3, r4, r5, r6, r7, r8⟩ := h4
    rcases hj with ⟨rfl, rfl, rfl, rfl⟩ | ⟨rfl, rfl, rfl, rfl⟩ | ⟨rfl, rfl, rfl, rfl⟩
    · exact ⟨up2_eq, by rw [kk _ _ (by omega)]; exact r2, by rw [kk _ _ (by omega)]; exact r3, fun z => by rw [kk _ _ (by omega)]; exact r4 (hp ▸ z), by rw [kk _ _ (by omega)]; exact r5, hk.1, hk.2, r8⟩
    · exact ⟨by rw [kk _ _ (by omega)]; exact r1, up2_eq, by rw [kk _ _ (by omega)]; exact r3, fun z => by rw [kk _ _ (by omega)]; exact r4 z, by rw [kk _ _ (by omega)]; exact r5, hk.1, hk.2, r8⟩
    · exact ⟨by rw [kk _ _ (by omega)]; exact r1, by rw [kk _ _ (by omega)]; exact r2, up2_eq, fun z => by rw [kk _ _ (by omega)]; exact r4 z, by rw [kk _ _ (by omega)]; exact r5, hk.1, hk.2, r8⟩
  · have e1 : npr ((k', ph', bg', pr, os) :: t) = npr ((k, ph, bg, pr, os) :: t) := by
      show npr t + isP k' = npr t + isP k
      rw [hp]
    rw [e1]
    exact h8
end MFL
