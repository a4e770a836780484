/-! how the reference holds a world in its layer v -/
def nset (i : Nat) : Prop := i < 6 ∨ (10 ≤ i ∧ i < 14)
def RMp (f : FI) (B v : Nat) (m : List (Nat × Nat)) : Prop := f (B + 23) (40 * v + 7) = nI m.length ∧ m.length ≤ 480 ∧ ∀ (k : Nat) (q : Nat × Nat), m[k]? = some q → f (B + 25) (2 * (480 * v + k)) = nI q.1 ∧ f (B + 25) (2 * (480 * v + k) + 1) = nI q.2
def RMa (f : FI) (B v : Nat) (l : List An) : Prop := f (B + 23) (40 * v + 8) = nI l.length ∧ l.length ≤ 520 ∧ ∀ (k : Nat) (a : An), l[k]? = some a → ∀ i, i < 5 → f (B + 26) (5 * (520 * v + k) + i) = aE a i
def RMt (f : FI) (B v : Nat) (t : Nat → Bool) : Prop := ∀ b, b < 200 → f (B + 27) (200 * v + b) = bI (t b)
def kE (q : Kp) (i : Nat) : Int32 := match i with
  | 0 => nI q.1
  | 1 => nI q.2.1
  | _ => nI q.2.2
def RMk (f : FI) (B v : Nat) (l : List Kp) : Prop := f (B + 23) (40 * v + 9) = nI l.length ∧ l.length ≤ 40 ∧ ∀ (k : Nat) (q : Kp), l[k]? = some q → ∀ i, i < 3 → f (B + 28) (3 * (40 * v + k) + i) = kE q i
def RMn (f : FI) (B v : Nat) (s : Nat → Nat) : Prop := ∀ i, nset i → f (B + 23) (40 * v + i) = nI (s i)
def RMq (f : FI) (B v : Nat) (pt : Nat → Nat → Nat) : Prop := ∀ p i, p < 4 → i < 6 → f (B + 23) (40 * v + 14 + 6 * p + i) = nI (pt p i)
def RM (f : FI) (B v : Nat) (w : Wd) (m : List (Nat × Nat)) : Prop := RMn f B v w.1 ∧ RMq f B v w.2.1 ∧ RMg f B v w.2.2.1 ∧ RMp f B v m ∧ RMa f B v w.2.2.2.2.1 ∧ RMt f B v w.2.2.2.2.2.1 ∧ RMk f B v w.2.2.2.2.2.2
/-- the cells that a tick in layer v may change -/
def tch (B v r k : Nat) : Prop := (r = B + 23 ∧ 40 * v ≤ k ∧ k < 40 * v + 40) ∨ (r = B + 24 ∧ 3840 * v ≤ k ∧ k < 3840 * v + 3840) ∨ (r = B + 25 ∧ 960 * v ≤ k ∧ k < 960 * v + 960) ∨ (r = B + 26 ∧ 2600 * v ≤ k ∧ k < 2600 * v + 2600) ∨ (r = B + 27 ∧ 200 * v ≤ k ∧ k < 200 * v + 200) ∨ (r = B + 28 ∧ 120 * v ≤ k ∧ k < 120 * v + 120) ∨ r = B + 31
def tchQ (B v r k : Nat) : Prop := tch B v r k ∨ r = B + 32 ∨ r = B + 33 ∨ (r = B ∧ (k = 57 ∨ k = 59))
def tchS (B v r k : Nat) : Prop := tchQ B v r k ∨ (r = B ∧ (k = 61 ∨ k = 62 ∨ k = 63))
def Fr (B v : Nat) (f f' : FI) : Prop := ∀ r k, ¬ tch B v r k → f' r k = f r k
/-- as Fr, but the lists of those that arrived may change -/
def FrQ (B v : Nat) (f f' : FI) : Prop := ∀ r k, ¬ tchQ B v r k → f' r k = f r k
/-- as FrQ, but a tick's own numbers may change -/
def FrS (B v : Nat) (f f' : FI) : Prop := ∀ r k, ¬ tchS B v r k → f' r k = f r k
def FrL (B : Nat) (g g' : FL) : Prop := ∀ r k, r ≠ B + 30 → ¬ (r = B ∧ k = 51) → g' r k = g r k
theorem Fr.rf {B v : Nat} {f : FI} : Fr B v f f := fun _ _ _ => rfl
theorem Fr.tr {B v : Nat} {f f' f'' : FI} (h : Fr B v f f') (h' : Fr B v f' f'') : Fr B v f f'' := fun r k z => (h' r k z).trans (h r k z)
theorem Fr.up {B v : Nat} {f f' : FI} {r k : Nat} {x : Int32} (h : Fr B v f f') (t : tch B v r k) : Fr B v f (up2 f' r k x) := fun r' k' z => by
  by_cases e : r' = r ∧ k' = k
  · exact absurd (by rw [e.1, e.2]; exact t) z
  · rw [up2_ne e]
    exact h r' k' z
theorem Fr.q {B v : Nat} {f f' : FI} (h : Fr B v f f') : FrQ B v f f' := fun r k z => h r k (fun q => z (Or.inl q))
theorem FrQ.s {B v : Nat} {f f' : FI} (h : FrQ B v f f') : FrS B v f f' := fun r k z => h r k (fun q => z (Or.inl q))
theorem Fr.s {B v : Nat} {f f' : FI} (h : Fr B v f f') : FrS B v f f' := h.q.s
theorem FrQ.rf {B v : Nat} {f : FI} : FrQ B v f f := fun _ _ _ => rfl
theorem FrQ.tr {B v : Nat} {f f' f'' : FI} (h : FrQ B v f f') (h' : FrQ B v f' f'') : FrQ B v f f'' := fun r k z => (h' r k z).trans (h r k z)
theorem FrQ.up {B v : Nat} {f f' : FI} {r k : Nat} {x : Int32} (h : FrQ B v f f') (t : tchQ B v r k) : FrQ B v f (up2 f' r k x) := fun r' k' z => by
  by_cases e : r' = r ∧ k' = k
  · exact absurd (by rw [e.1, e.2]; exact t) z
  · rw [up2_ne e]
    exact h r' k' z
theorem FrS.rf {B v : Nat} {f : FI} : FrS B v f f := fun _ _ _ => rfl
theorem FrS.tr {B v : Nat} {f f' f'' : FI} (h : FrS B v f f') (h' : FrS B v f' f'') : FrS B v f f'' := fun r k z => (h' r k z).trans (h r k z)
theorem FrS.up {B v : Nat} {f f' : FI} {r k : Nat} {x : Int32} (h : FrS B v f f') (t : tchS B v r k) : FrS B v f (up2 f' r k x) := fun r' k' z => by
  by_cases e : r' = r ∧ k' = k
  · exact absurd (by rw [e.1, e.2]; exact t) z
  · rw [up2_ne e]
    exact h r' k' z
theorem FrL.rf {B : Nat} {g : FL} : FrL B g g := fun _ _ _ _ => rfl
theorem FrL.tr {B : Nat} {g g' g'' : FL} (h : FrL B g g') (h' : FrL B g' g'') : FrL B g g'' := fun r k z z2 => (h' r k z z2).trans (h r k z z2)
theorem FrL.of {B : Nat} {g g' : FL} (h : ∀ r k, r ≠ B + 30 → g' r k = g r k) : FrL B g g' := fun r k z _ => h r k z
section R1
variable {f : FI} {B v : Nat} {w : Wd} {m : List (Nat × Nat)}
/-- what lies elsewhere is written -/
theorem RM.oth {r k : Nat} {x : Int32} (h : RM f B v w m) (hr : ∀ j, 23 ≤ j → j ≤ 28 → r ≠ B + j) : RM (up2 f r k x) B v w m := by
  obtain ⟨h1, h2, h3, h4, h5, h6, h7⟩ := h
  have e : ∀ j, 23 ≤ j → j ≤ 28 → ∀ i, up2 f r k x (B + j) i = f (B + j) i := fun j a b i => up2_r (fun z => hr j a b z.symm)
  refine ⟨fun i hi => ?_, fun p i hp hi => ?_, ⟨?_, h3.2.1, fun k s hk i hi => ?_⟩, ⟨?_, h4.2.1, fun k q hk => ⟨?_, ?_⟩⟩, ⟨?_, h5.2.1, fun k a hk i hi => ?_⟩, fun b hb => ?_, ⟨?_, h7.2.1, fun k q hk i hi => ?_⟩⟩
  · rw [e 23 (by decide) (by decide)]; exact h1 i hi
  · rw [e 23 (by decide) (by decide)]; exact h2 p i hp hi
  · rw [e 23 (by decide) (by decide)]; exact h3.1
  · rw [e 24 (by decide) (by decide)]; exact h3.2.2 k s hk i hi
  · rw [e 23 (by decide) (by decide)]; exact h4.1
  · rw [e 25 (by decide) (by decide)]; exact (h4.2.2 k q hk).1
  · rw [e 25 (by decide) (by decide)]; exact (h4.2.2 k q hk).2
  · rw [e 23 (by decide) (by decide)]; exact h5.1
  · rw [e 26 (by decide) (by decide)]; exact h5.2.2 k a hk i hi
  · rw [e 27 (by decide) (by decide)]; exact h6 b hb
  · rw [e 23 (by decide) (by decide)]; exact h7.1
  · rw [e 28 (by decide) (by decide)]; exact h7.2.2 k q hk i hi
/-- the world's numbers alone are written: what of them stays -/
theorem RM.num {j : Nat} {x : Int32} {s : Nat → Nat} {pt : Nat → Nat → Nat} (h : RM f B v w m) (hn : RMn (up2 f (B + 23) j x) B v s) (hq : RMq (up2 f (B + 23) j x) B v pt) (h6 : ∀ i, 6 ≤ i → i < 10 → j ≠ 40 * v + i) : RM (up2 f (B + 23) j x) B v (s, pt, w.2.2) m := by
  obtain ⟨-, -, h3, h4, h5, h6', h7⟩ := h
  have e : ∀ c, c ≠ 23 → ∀ i, up2 f (B + 23) j x (B + c) i = f (B + c) i := fun c hc i => up2_r (by omega)
  refine ⟨hn, hq, ⟨?_, h3.2.1, fun k s hk i hi => ?_⟩, ⟨?_, h4.2.1, fun k q hk => ⟨?_, ?_⟩⟩, ⟨?_, h5.2.1, fun k a hk i hi => ?_⟩, fun b hb => ?_, ⟨?_, h7.2.1, fun k q hk i hi => ?_⟩⟩
  · rw [up2_k (h6 6 (by decide) (by decide)).symm]; exact h3.1
  · rw [e 24 (by decide)]; exact h3.2.2 k s hk i hi
  · rw [up2_k (h6 7 (by decide) (by decide)).symm]; exact h4.1
  · rw [e 25 (by decide)]; exact (h4.2.2 k q hk).1
  · rw [e 25 (by decide)]; exact (h4.2.2 k q hk).2
  · rw [up2_k (h6 8 (by decide) (by decide)).symm]; exact h5.1
  · rw [e 26 (by decide)]; exact h5.2.2 k a hk i hi
  · rw [e 27 (by decide)]; exact h6' b hb
  · rw [up2_k (h6 9 (by decide) (by decide)).symm]; exact h7.1
  · rw [e 28 (by decide)]; exact h7.2.2 k q hk i hi
theorem RM.setn {i x : Nat} (h : RM f B v w m) (hi : nset i) : RM (up2 f (B + 23) (40 * v + i) (nI x)) B v (wsc w i x) m := by
  refine h.num (s := fu w.1 i x) (pt := w.2.1) (fun j hj => ?_) (fun p j hp hj => ?_) (fun j a b => by unfold nset at hi; omega)
  · by_cases e : j = i
    · subst e
      rw [up2_eq]
      simp [fu]
    · rw [up2_k (by omega)]
      simp only [fu, if_neg e]
      exact h.1 j hj
  · rw [up2_k (by unfold nset at hi; omega)]
    exact h.2.1 p j hp hj
theorem RM.setp {p i x : Nat} (h : RM f B v w m) (hp : p < 4) (hi : i < 6) : RM (up2 f (B + 23) (40 * v + 14 + 6 * p + i) (nI x)) B v (wpt w p i x) m := by
  refine h.num (s := w.1) (pt := up2 w.2.1 p i x) (fun j hj => ?_) (fun p' j hp' hj => ?_) (fun j a b => by omega)
  · rw [up2_k (by unfold nset at hj; omega)]
    exact h.1 j hj
  · by_cases e : p' = p ∧ j = i
    · obtain ⟨rfl, rfl⟩ := e
      rw [up2_eq, up2_eq]
    · rw [up2_ne (by omega), up2_ne e]
      exact h.2.1 p' j hp' hj
/-- a segment's field is written -/
theorem RM.setg {k i : Nat} {x : Int32} {s s' : Sg} (h : RM f B v w m) (hk : w.2.2.1[k]? = some s) (hi : i < 8) (hx : x = sE s' i) (hs : ∀ j, j < 8 → j ≠ i → sE s' j = sE s j) : RM (up2 f (B + 24) (8 * (480 * v + k) + i) x) B v (wsg w (w.2.2.1.set k s')) m := by
  obtain ⟨h1, h2, h3, h4, h5, h6, h7⟩ := h
  have e : ∀ c, c ≠ 24 → ∀ j, up2 f (B + 24) (8 * (480 * v + k) + i) x (B + c) j = f (B + c) j := fun c hc j => up2_r (by omega)
  refine ⟨fun j hj => ?_, fun p j hp hj => ?_, ⟨?_, by simpa [wsg] using h3.2.1, fun k' q hk' j hj => ?_⟩, ⟨?_, h4.2.1, fun k q hk => ⟨?_, ?_⟩⟩, ⟨?_, h5.2.1, fun k a hk i hi => ?_⟩, fun b hb => ?_, ⟨?_, h7.2.1, fun k q hk i hi => ?_⟩⟩
  · rw [e 23 (by decide)]; exact h1 j hj
  · rw [e 23 (by decide)]; exact h2 p j hp hj
  · rw [e 23 (by decide)]; simpa [wsg] using h3.1
  · replace hk' : (w.2.2.1.set k s')[k']? = some q := hk'
    by_cases ek : k' = k
    · subst ek
      rw [List.getElem?_set_self (List.getElem?_eq_some_iff.mp hk).1] at hk'
      cases hk'
      by_cases ej : j = i
      · subst ej
        rw [up2_eq, hx]
      · rw [up2_k (by omega), h3.2.2 k' s hk j hj, hs j hj ej]
    · rw [List.getElem?_set_ne (fun z => ek z.symm)] at hk'
      rw [up2_k (by omega)]
      exact h3.2.2 k' q hk' j hj
  · rw [e 23 (by decide)]; exact h4.1
  · rw [e 25 (by decide)]; exact (h4.2.2 k q hk).1
  · rw [e 25 (by decide)]; exact (h4.2.2 k q hk).2
  · rw [e 23 (by decide)]; exact h5.1
  · rw [e 26 (by decide)]; exact h5.2.2 k a hk i hi
  · rw [e 27 (by decide)]; exact h6 b hb
  · rw [e 23 (by decide)]; exact h7.1
  · rw [e 28 (by decide)]; exact h7.2.2 k q hk i hi
/-- the world is the same but for parts that nobody looks at here -/
theorem RM.sgfl {k : Nat} {s : Sg} (h : RM f B v w m) (hk : w.2.2.1[k]? = some s) : RM (up2 f (B + 24) (8 * (480 * v + k) + 6) (nI 0)) B v (wsg w (w.2.2.1.set k (sgFl s false))) m :=
  h.setg hk (by decide) rfl (fun j hj hne => by
    rcases (show j = 0 ∨ j = 1 ∨ j = 2 ∨ j = 3 ∨ j = 4 ∨ j = 5 ∨ j = 7 by omega) with rfl | rfl | rfl | rfl | rfl | rfl | rfl <;> rfl)
theorem RM.sgar {k : Nat} {s : Sg} (h : RM f B v w m) (hk : w.2.2.1[k]? = some s) : RM (up2 f (B + 24) (8 * (480 * v + k) + 5) (-1)) B v (wsg w (w.2.2.1.set k (sgAr s none))) m :=
  h.setg hk (by decide) rfl (fun j hj hne => by
    rcases (show j = 0 ∨ j = 1 ∨ j = 2 ∨ j = 3 ∨ j = 4 ∨ j = 6 ∨ j = 7 by omega) with rfl | rfl | rfl | rfl | rfl | rfl | rfl <;> rfl)
end R1
theorem modify_set {α : Type} {l : List α} {k : Nat} {s : α} (F : α → α) (h : l[k]? = some s) : l.modify k F = l.set k (F s) := by
  apply List.ext_getElem?
  intro i
  rw [List.getElem?_modify, List.getElem?_set]
  by_cases e : k = i
  · subst e
    obtain ⟨hlt, e⟩ := List.getElem?_eq_some_iff.mp h
    simp [hlt, e]
  · simp [e]
theorem RM.congr {f f' : FI} {B v : Nat} {w : Wd} {m : List (Nat × Nat)} (h : RM f B v w m) (e : ∀ j, 23 ≤ j → j ≤ 28 → ∀ i, f' (B + j) i = f (B + j) i) : RM f' B v w m := by
  obtain ⟨h1, h2, h3, h4, h5, h6, h7⟩ := h
  refine ⟨fun i hi => ?_, fun p i hp hi => ?_, ⟨?_, h3.2.1, fun k s hk i hi => ?_⟩, ⟨?_, h4.2.1, fun k q hk => ⟨?_, ?_⟩⟩, ⟨?_, h5.2.1, fun k a hk i hi => ?_⟩, fun b hb => ?_, ⟨?_, h7.2.1, fun k q hk i hi => ?_⟩⟩
  · rw [e 23 (by decide) (by decide)]; exact h1 i hi
  · rw [e 23 (by decide) (by decide)]; exact h2 p i hp hi
  · rw [e 23 (by decide) (by decide)]; exact h3.1
  · rw [e 24 (by decide) (by decide)]; exact h3.2.2 k s hk i hi
  · rw [e 23 (by decide) (by decide)]; exact h4.1
  · rw [e 25 (by decide) (by decide)]; exact (h4.2.2 k q hk).1
  · rw [e 25 (by decide) (by decide)]; exact (h4.2.2 k q hk).2
  · rw [e 23 (by decide) (by decide)]; exact h5.1
  · rw [e 26 (by decide) (by decide)]; exact h5.2.2 k a hk i hi
  · rw [e 27 (by decide) (by decide)]; exact h6 b hb
  · rw [e 23 (by decide) (by decide)]; exact h7.1
  · rw [e 28 (by decide) (by decide)]; exact h7.2.2 k q hk i hi
/-- the plan in the reference's bank b -/
def PMj (f : FI) (B b p : Nat) (j : Option (Nat × Nat)) : Prop := match j with
  | none => f (B + 8) (4 * b + p) = -1
  | some (t, k) => f (B + 8) (4 * b + p) = nI t ∧ f (B + 9) (4 * b + p) = nI k
def PMf (f : FI) (B b i : Nat) (o : Option (List Op)) : Prop := match o with
  | none => f (B + 11) (4 * b + i) = -1
  | some ops => FmM f B b i ops
def PM (f : FI) (B b : Nat) (π : Pl) : Prop := f B 13 = nI b ∧ b < 2 ∧ f (B + 2) b = nI (π.1 1) ∧ f (B + 3) b = nI (π.1 2) ∧ f (B + 4) b = nI (π.1 3) ∧ f (B + 5) b = nI (π.1 4) ∧ f (B + 10) b = nI (π.1 5) ∧ f (B + 6) b = nI (π.1 6) ∧ (∀ p, p < π.1 6 → f (B + 7) (4 * b + p) = nI (π.2.2.1 p)) ∧ (∀ p, p < π.1 6 → PMj f B b p (π.2.2.2.1 p)) ∧ ∀ i, i < 4 → PMf f B b i (π.2.2.2.2 i)
def alD (k : Nat) : Bool := k == 1 || k == 2 || k == 3 || k == 4
def alP (k : Nat) : Bool := k == 1 || k == 2 || k == 5 || k == 6 || k == 7
def alR (k : Nat) : Bool := k == 1 || k == 9 || k == 10
def alW (k : Nat) : Bool := k == 1 || k == 5 || k == 6 || k == 8
def fmOK (o : Option (List Op)) (t : Bool) (al : Nat → Bool) : Prop := ∀ ops, o = some ops → opsOK ops t al
def πOK (π : Pl) : Prop := (1 ≤ π.1 1 ∧ π.1 1 ≤ 200) ∧ (1 ≤ π.1 2 ∧ π.1 2 ≤ 20) ∧ (10 ≤ π.1 3 ∧ π.1 3 ≤ 99) ∧ π.1 4 ≤ 999 ∧ π.1 5 ≤ 100 ∧ π.1 6 ≤ 4 ∧ (∀ p, p < π.1 6 → 1 ≤ π.2.2.1 p ∧ π.2.2.1 p ≤ 9) ∧ (∀ p t k, π.2.2.2.1 p = some (t, k) → t ≤ 99 ∧ k ≤ 999) ∧ fmOK (π.2.2.2.2 0) true alD ∧ fmOK (π.2.2.2.2 1) false alP ∧ fmOK (π.2.2.2.2 2) false alR ∧ fmOK (π.2.2.2.2 3) false alW
/-- what a tick is told: plan, window, delays -/
def TM (f : FI) (B b : Nat) (π : Pl) (win : Nat) (dl : Nat → Nat) : Prop := PM f B b π ∧ f B 52 = nI win ∧ (∀ p, p < 4 → f (B + 29) p = nI (dl p)) ∧ win ≤ 99 ∧ ∀ p, dl p ≤ 9999
theorem PM.congr {f f' : FI} {B b : Nat} {π : Pl} (h : PM f B b π) (e : ∀ j, 2 ≤ j → j ≤ 14 → ∀ i, f' (B + j) i = f (B + j) i) (e0 : f' B 13 = f B 13) : PM f' B b π := by
  obtain ⟨h1, h2, h3, h4, h5, h6, h7, h8, h9, h10, h11⟩ := h
  refine ⟨by rw [e0]; exact h1, h2, by rw [e 2 (by decide) (by decide)]; exact h3, by rw [e 3 (by decide) (by decide)]; exact h4, by rw [e 4 (by decide) (by decide)]; exact h5, by rw [e 5 (by decide) (by decide)]; exact h6, by rw [e 10 (by decide) (by decide)]; exact h7, by rw [e 6 (by decide) (by decide)]; exact h8, fun p hp => by rw [e 7 (by decide) (by decide)]; exact h9 p hp, fun p hp => ?_, fun i hi => ?_⟩
  · have := h10 p hp
    unfold PMj at this ⊢
    split at this
    · rw [e 8 (by decide) (by decide)]; exact this
    · rw [e 8 (by decide) (by decide), e 9 (by decide) (by decide)]; exact this
  · have := h11 i hi
    unfold PMf at this ⊢
    split at this
    · rw [e 11 (by decide) (by decide)]; exact this
    · obtain ⟨a1, a2, c0, a3, a4, a5, a6⟩ := this
      refine ⟨by rw [e0]; exact a1, a2, c0, by rw [e 11 (by decide) (by decide)]; exact a3, by rw [e 12 (by decide) (by decide)]; exact a4, a5, fun j o hj => ?_⟩
      rw [e 13 (by decide) (by decide), e 14 (by decide) (by decide)]
      exact a6 j o hj
theorem TM.frS {f f' : FI} {B v b win : Nat} {π : Pl} {dl : Nat → Nat} (h : TM f B b π win dl) (e : FrS B v f f') : TM f' B b π win dl := by
  obtain ⟨h1, h2, h3, h4⟩ := h
  have e1 : ∀ j, 2 ≤ j → j ≤ 14 → ∀ i, f' (B + j) i = f (B + j) i := fun j a b i => e _ _ (by unfold tchS tchQ tch; omega)
  exact ⟨h1.congr e1 (e _ _ (by unfold tchS tchQ tch; omega)), by rw [e B 52 (by unfold tchS tchQ tch; omega)]; exact h2, fun p hp => by rw [e (B + 29) p (by unfold tchS tchQ tch; omega)]; exact h3 p hp, h4⟩
theorem TM.fr {f f' : FI} {B v b win : Nat} {π : Pl} {dl : Nat → Nat} (h : TM f B b π win dl) (e : Fr B v f f') : TM f' B b π win dl := h.frS e.s
def aOK (a : An) : Prop := a.1 < 4 ∧ (∀ n, a.2.1 = some n → n ≤ 500000) ∧ a.2.2.1 ≤ 1000 ∧ a.2.2.2.1 ≤ 1000 ∧ a.2.2.2.2.1 ≤ 1100
/-- a world's numbers are small -/
def wN (w : Wd) : Prop := (∀ i, i < 5 → w.1 i ≤ 1000) ∧ (∀ p i, w.2.1 p i ≤ 500000) ∧ (∀ s ∈ w.2.2.1, sOK s) ∧ ∀ a ∈ w.2.2.2.2.1, aOK a
section C1
variable {l : Launch} {G : Gx} {d : Nat} {sh : Sh} {fR : FRt} {B v b win : Nat} {f : FI} {g : FL} {w : Wd} {m : List (Nat × Nat)} {π : Pl} {dl : Nat → Nat}
theorem C_isFree {K : Int32 → FI → FL → Prop} {p : Nat} (hs : StM sh fR B) (hv : v < 22) (hR : RM f B v w m) (hN : wN w) (hp : p < 4) (H : K (bI (freS w p)) f g) : Cl l G (d + 1) 0 0 mX12_isFree [.ref B, .int (nI v), .int (nI p)] (sh, f, g, fR) (qi sh fR K) := by
  have b0 := hN.2.1 p 0
  have b1 := hN.2.1 p 1
  refine VX12_isFree hs ?_
  simp (disch := omega) only [pk_mul, nI_add, clN]
  rw [hR.2.1 p 0 hp (by decide), hR.2.1 p 1 hp (by decide)]
  refine ⟨inbN (by omega) (by decide), fun c1 => ?_, fun c1 => ⟨inbN (by omega) (by decide), fun c2 => ?_, fun c2 => ?_⟩⟩
  · have z : ¬ w.2.1 p 0 = 1 := fun z => c1 (by rw [z])
    have e : freS w p = false := by simp [freS, z]
    rw [e] at H
    exact ⟨_, _, _, rfl, rfl, H⟩
  · have z : ¬ w.2.1 p 1 = 0 := fun z => c2 (by rw [z]; rfl)
    have e : freS w p = false := by simp [freS, z]
    rw [e] at H
    exact ⟨_, _, _, rfl, rfl, H⟩
  · have z1 : w.2.1 p 0 = 1 := (nI_eq (by omega) (by decide)).mp c1
    have z2 : w.2.1 p 1 = 0 := (nI_eq (b := 0) (by omega) (by decide)).mp c2
    have e : freS w p = true := by simp [freS, z1, z2]
    rw [e] at H
    exact ⟨_, _, _, rfl, rfl, H⟩
theorem C_isTold {K : Int32 → FI → FL → Prop} {i : Nat} (hs : StM sh fR B) (hP : PM f B b π) (hi : i < 4) (H : K (bI (π.2.2.2.2 i).isSome) f g) : Cl l G d 0 0 mX12_isTold [.ref B, .int (nI i)] (sh, f, g, fR) (qi sh fR K) := by
  have hb := hP.2.1
  refine VX12_isTold hs ?_
  rw [hP.1]
  simp (disch := omega) only [pk_mul, nI_add, clN]
  have hf := hP.2.2.2.2.2.2.2.2.2.2 i hi
  unfold PMf at hf
  refine ⟨inbN (by omega) (by decide), fun c => ?_, fun c => ?_⟩
  · split at hf
    · rename_i e
      rw [e] at H
      exact ⟨_, _, _, rfl, rfl, H⟩
    · obtain ⟨-, -, c0, a1, -, a2, -⟩ := hf
      rw [a1] at c
      exact absurd c (nI_m1 (by omega))
  · split at hf
    · exact absurd hf c
    · rename_i e
      rw [e] at H
      exact ⟨_, _, _, rfl, rfl, H⟩
theorem C_lays {K : FI → FL → Prop} {p : Nat} (hs : StM sh fR B) (hv : v < 22) (hR : RM f B v w m) (hN : wN w) (hT : TM f B b π win dl) (hp : p < 4) (H : ∀ f' : FI, (∀ r k, r ≠ B + 31 → f' r k = f r k) → f' (B + 31) 1 = nI (w.1 0) → f' (B + 31) 2 = nI p → f' (B + 31) 5 = nI (dl p) → f' (B + 31) 6 = nI (w.2.1 p 2) → f' (B + 31) 7 = nI (flyS w p) → f' (B + 31) 8 = nI (w.2.1 p 3) → K f' g) : Cl l G (d + 2) 0 0 mX12_lays [.ref B, .int (nI v), .int (nI p)] (sh, f, g, fR) (qv sh fR K) := by
  refine VX12_lays hs ?_
  simp (disch := omega) only [pk_mul, nI_add, clN]
  refine ⟨inbN (by omega) (by decide), inbN (by omega) (by decide), inbN (by omega) (by decide), ?_⟩
  refine C_flyingOn hs hv (lg := w.2.2.1) ?_ hN.2.2.1 (by omega) ⟨inbN (by omega) (by decide), _, _, rfl, rfl, ?_⟩
  · exact ((((hR.oth (r := B + 31) (by omega)).oth (r := B + 31) (by omega)).oth (r := B + 31) (by omega)).oth (r := B + 31) (by omega)).2.2.1
  · refine H _ (fun r k hr => ?_) ?_ ?_ ?_ ?_ ?_ ?_
    · simp [up2, hr]
    · simp only [up2]; simp; exact hR.1 0 (by unfold nset; omega)
    · simp [up2]
    · simp [up2]; exact hT.2.2.1 p hp
    · simp [up2]; exact hR.2.1 p 2 hp (by decide)
    · simp [up2, flyS]
    · simp [up2]; exact hR.2.1 p 3 hp (by decide)
end C1
