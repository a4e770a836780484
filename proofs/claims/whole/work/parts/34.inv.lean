/-! what holds of every world: plain values alone -/
/-- the same segments, of which some fly no more -/
def Offs : List Sg → List Sg → Prop
  | [], [] => True
  | s :: l, s' :: l' => sgFl s' false = sgFl s false ∧ (s'.2.2.2.2.2.2.1 = true → s.2.2.2.2.2.2.1 = true) ∧ Offs l l'
  | [], _ :: _ => False
  | _ :: _, [] => False
theorem Offs.rf : ∀ l : List Sg, Offs l l
  | [] => trivial
  | _ :: l => ⟨rfl, id, Offs.rf l⟩
theorem Offs.tr : ∀ {l l' l'' : List Sg}, Offs l l' → Offs l' l'' → Offs l l''
  | [], [], [], _, _ => trivial
  | s :: l, s' :: l', s'' :: l'', h, h' => ⟨h'.1.trans h.1, fun z => h.2.1 (h'.2.1 z), Offs.tr h.2.2 h'.2.2⟩
  | [], [], _ :: _, _, h => h.elim
  | [], _ :: _, _, h, _ => h.elim
  | _ :: _, [], _, h, _ => h.elim
  | _ :: _, _ :: _, [], _, h => h.elim
theorem sgFl_idem (s : Sg) (x y : Bool) : sgFl (sgFl s x) y = sgFl s y := rfl
theorem Offs.set : ∀ {l : List Sg} {k : Nat} {s : Sg}, l[k]? = some s → Offs l (l.set k (sgFl s false))
  | [], k, s, h => by simp at h
  | x :: l, 0, s, h => by
    simp at h
    subst h
    exact ⟨rfl, fun z => absurd z (by simp [sgFl]), Offs.rf l⟩
  | x :: l, k + 1, s, h => by
    simp at h
    exact ⟨rfl, id, Offs.set h⟩
theorem Offs.off (p : Nat) : ∀ l : List Sg, Offs l (l.map (offS p))
  | [] => trivial
  | s :: l => by
    refine ⟨?_, ?_, Offs.off p l⟩
    · unfold offS
      split <;> rfl
    · unfold offS
      split
      · intro z; cases z
      · exact id
theorem Offs.len : ∀ {l l' : List Sg}, Offs l l' → l'.length = l.length
  | [], [], _ => rfl
  | _ :: l, _ :: l', h => by rw [List.length_cons, List.length_cons, Offs.len h.2.2]
  | [], _ :: _, h => h.elim
  | _ :: _, [], h => h.elim
theorem Offs.mem : ∀ {l l' : List Sg}, Offs l l' → ∀ s' ∈ l', ∃ s ∈ l, sgFl s' false = sgFl s false ∧ (s'.2.2.2.2.2.2.1 = true → s.2.2.2.2.2.2.1 = true)
  | [], [], _, s', hs => by cases hs
  | s :: l, x :: l', h, s', hs => by
    rcases List.mem_cons.mp hs with e | e
    · subst e
      exact ⟨s, List.mem_cons_self .., h.1, h.2.1⟩
    · obtain ⟨y, hy, e1⟩ := Offs.mem h.2.2 s' e
      exact ⟨y, List.mem_cons_of_mem _ hy, e1⟩
  | [], _ :: _, h, _, _ => h.elim
  | _ :: _, [], h, _, _ => h.elim
theorem sgFl_eq {s s' : Sg} (h : sgFl s' false = sgFl s false) : s'.1 = s.1 ∧ s'.2.1 = s.2.1 ∧ s'.2.2.1 = s.2.2.1 ∧ s'.2.2.2.1 = s.2.2.2.1 ∧ s'.2.2.2.2.1 = s.2.2.2.2.1 ∧ s'.2.2.2.2.2.1 = s.2.2.2.2.2.1 ∧ s'.2.2.2.2.2.2.2 = s.2.2.2.2.2.2.2 := by
  unfold sgFl at h
  simp only [Prod.mk.injEq] at h
  exact ⟨h.1, h.2.1, h.2.2.1, h.2.2.2.1, h.2.2.2.2.1, h.2.2.2.2.2.1, h.2.2.2.2.2.2.2⟩
theorem Offs.fly {p : Nat} : ∀ {l l' : List Sg}, Offs l l' → l'.countP (fun s => s.2.2.2.2.2.2.1 && s.1 == p) ≤ l.countP (fun s => s.2.2.2.2.2.2.1 && s.1 == p)
  | [], [], _ => Nat.le_refl _
  | s :: l, s' :: l', h => by
    have ih := Offs.fly (p := p) h.2.2
    have e := (sgFl_eq h.1).1
    rw [List.countP_cons, List.countP_cons]
    have h1 := h.2.1
    rw [e]
    cases hz : s'.2.2.2.2.2.2.1 with
    | false => simp; omega
    | true => rw [h1 hz]; omega
  | [], _ :: _, h => h.elim
  | _ :: _, [], h => h.elim
/-- what still travels on a path: a segment or its answer, by number and tick of sending -/
def netG (p : Nat) (l : List Sg) : List (Nat × Nat) := (l.filter (fun s => s.1 == p && s.2.2.2.2.2.1.isSome)).map (fun s => (s.2.1, s.2.2.2.2.1))
def netA (p : Nat) (l : List An) : List (Nat × Nat) := l.filterMap (fun a => if a.1 = p then a.2.1.map (fun n => (n, a.2.2.2.2.2)) else none)
def net (w : Wd) (p : Nat) : List (Nat × Nat) := netG p w.2.2.1 ++ netA p w.2.2.2.2.1
def alv (l : List Sg) (p n : Nat) : Bool := l.any (fun s => s.2.2.2.2.2.2.1 && s.1 == p && s.2.1 == n)
theorem Offs.nG {p : Nat} : ∀ {l l' : List Sg}, Offs l l' → netG p l' = netG p l
  | [], [], _ => rfl
  | s :: l, s' :: l', h => by
    have ih := Offs.nG (p := p) h.2.2
    obtain ⟨e1, e2, -, -, e5, e6, -⟩ := sgFl_eq h.1
    unfold netG at ih ⊢
    rw [List.filter_cons, List.filter_cons, e1, e6]
    split
    · rw [List.map_cons, List.map_cons, ih, e2, e5]
    · exact ih
  | [], _ :: _, h => h.elim
  | _ :: _, [], h => h.elim
theorem Offs.al {p n : Nat} : ∀ {l l' : List Sg}, Offs l l' → alv l' p n = true → alv l p n = true
  | [], [], _, h => h
  | s :: l, s' :: l', h, z => by
    have ih := Offs.al (p := p) (n := n) h.2.2
    obtain ⟨e1, e2, -⟩ := sgFl_eq h.1
    unfold alv at ih z ⊢
    rw [List.any_cons, Bool.or_eq_true] at z ⊢
    rcases z with z | z
    · left
      rw [e1, e2] at z
      simp only [Bool.and_eq_true] at z ⊢
      exact ⟨⟨h.2.1 z.1.1, z.1.2⟩, z.2⟩
    · exact Or.inr (ih z)
  | [], _ :: _, h, _ => h.elim
  | _ :: _, [], h, _ => h.elim
/-- of a list without twins, all of which lie in another -/
theorem nodup_le : ∀ (a b : List Nat), a.Nodup → (∀ x ∈ a, x ∈ b) → a.length ≤ b.length
  | [], b, _, _ => Nat.zero_le _
  | x :: a, b, h, hb => by
    have hx := hb x (List.mem_cons_self ..)
    have h2 := List.nodup_cons.mp h
    have := nodup_le a (b.erase x) h2.2 (fun y hy => by
      have hne : y ≠ x := fun e => h2.1 (by rw [← e]; exact hy)
      exact (List.mem_erase_of_ne hne).mpr (hb y (List.mem_cons_of_mem _ hy)))
    rw [List.length_erase_of_mem hx] at this
    have hp := List.length_pos_of_mem hx
    rw [List.length_cons]
    omega
theorem alive_le {p : Nat} (t : List (Nat × Nat)) (l : List Sg) (h : (t.map (fun x => x.1)).Nodup) : t.countP (fun x => alv l p x.1) ≤ l.countP (fun s => s.2.2.2.2.2.2.1 && s.1 == p) := by
  have h1 : ((t.filter (fun x => alv l p x.1)).map (fun x => x.1)).Nodup := List.Nodup.sublist (List.Sublist.map _ List.filter_sublist) h
  have := nodup_le ((t.filter (fun x => alv l p x.1)).map (fun x => x.1)) ((l.filter (fun s => s.2.2.2.2.2.2.1 && s.1 == p)).map (fun s => s.2.1)) h1 (fun n hn => by
    obtain ⟨x, hx, e⟩ := List.mem_map.mp hn
    have := (List.mem_filter.mp hx).2
    unfold alv at this
    obtain ⟨s, hs, hz⟩ := List.any_eq_true.mp this
    simp only [Bool.and_eq_true, beq_iff_eq] at hz
    refine List.mem_map.mpr ⟨s, List.mem_filter.mpr ⟨hs, ?_⟩, ?_⟩
    · simp [hz.1.1, hz.1.2]
    · rw [hz.2]; exact e)
  rw [List.length_map, List.length_map] at this
  rw [List.countP_eq_length_filter, List.countP_eq_length_filter]
  exact this
/-- the parts of what holds -/
def WA (π : Pl) (w : Wd) : Prop := w.1 0 ≤ 1000 ∧ w.1 1 ≤ π.1 1 ∧ w.1 2 ≤ π.1 1 ∧ w.1 3 ≤ 400 ∧ w.1 4 ≤ π.1 1
def pB (w : Wd) (k p : Nat) : Prop := w.2.1 p 0 ≤ 1 ∧ w.2.1 p 1 ≤ 1 ∧ w.2.1 p 2 ≤ 99000 ∧ w.2.1 p 3 ≤ 3 ∧ (w.2.1 p 1 = 0 → w.2.1 p 3 ≤ 2) ∧ w.2.1 p 4 ≤ k ∧ w.2.1 p 5 ≤ 1 ∧ (w.2.1 p 0 = 1 → 1000 ≤ w.2.1 p 2) ∧ ∀ i, 6 ≤ i → w.2.1 p i = 0
def sC (π : Pl) (t : Nat) (w : Wd) (s : Sg) : Prop := s.1 < π.1 6 ∧ s.2.1 < w.2.1 s.1 4 ∧ 1 ≤ s.2.2.2.1 ∧ s.2.2.1 + s.2.2.2.1 ≤ π.1 1 ∧ s.2.2.2.2.1 ≤ w.1 0 ∧ (∀ a, s.2.2.2.2.2.1 = some a → t ≤ a ∧ a ≤ s.2.2.2.2.1 + 9) ∧ (s.2.2.2.2.2.2.1 = true → freS w s.1 = true)
def aF (π : Pl) (t : Nat) (w : Wd) (a : An) : Prop := a.1 < π.1 6 ∧ (∀ n, a.2.1 = some n → n < w.2.1 a.1 4) ∧ a.2.2.1 ≤ π.1 1 ∧ a.2.2.2.1 ≤ 400 ∧ (t ≤ a.2.2.2.2.1 ∧ a.2.2.2.2.1 ≤ a.2.2.2.2.2 + 18) ∧ (a.2.1 = none → a.2.2.2.2.1 ≤ a.2.2.2.2.2 + 9) ∧ a.2.2.2.2.2 ≤ w.1 0
def pG (w : Wd) (c p : Nat) : Prop := ((net w p).map (fun x => x.1)).Nodup ∧ (w.2.1 p 1 = 0 → ∀ s0, (net w p).countP (fun x => decide (s0 ≤ x.2) && !alv w.2.2.1 p x.1) ≤ c - s0) ∧ (w.2.1 p 1 = 1 → (net w p).length ≤ 117)
/-- k: numbers given at most; t: nothing arrives before; c, h: the clocks of paths and of the receiver -/
def WI (π : Pl) (k t : Nat) (c : Nat → Nat) (h : Nat) (w : Wd) : Prop := WA π w ∧ (∀ p, pB w k p) ∧ (∀ s ∈ w.2.2.1, sC π t w s) ∧ (∀ p, flyS w p ≤ 99) ∧ w.2.2.1.Pairwise (fun s s' => s.1 = s'.1 → s.2.1 ≠ s'.2.1) ∧ (∀ a ∈ w.2.2.2.2.1, aF π t w a) ∧ (∀ p, pG w (c p) p) ∧ ∀ s0, w.2.2.2.2.1.countP (fun a => a.2.1.isNone && decide (s0 ≤ a.2.2.2.2.2)) ≤ h - s0
/-- the reference's pieces -/
def PI (π : Pl) (w : Wd) (m : List (Nat × Nat)) : Prop := (∀ q ∈ m, 1 ≤ q.2 ∧ q.1 + q.2 ≤ π.1 1) ∧ m.filter (ndS w) = w.2.2.2.1 ∧ m.length + w.2.2.1.countP (fun s => s.2.2.2.2.2.2.1) ≤ 396
section P1
variable {π : Pl} {k t h : Nat} {c : Nat → Nat} {w : Wd} {m : List (Nat × Nat)}
theorem WI.wN (hW : WI π k t c h w) (hπ : πOK π) (hk : k ≤ 499000) : wN w := by
  obtain ⟨⟨a0, a1, a2, a3, a4⟩, hB, hC, -, -, hF, -⟩ := hW
  have h200 := hπ.1.2
  have h4 := hπ.2.2.2.2.2.1
  refine ⟨fun i hi => ?_, fun p i => ?_, fun s hs => ?_, fun a ha => ?_⟩
  · rcases (show i = 0 ∨ i = 1 ∨ i = 2 ∨ i = 3 ∨ i = 4 by omega) with rfl | rfl | rfl | rfl | rfl <;> omega
  · obtain ⟨b0, b1, b2, b3, -, b4, b5, -, b6⟩ := hB p
    by_cases hi : i < 6
    · rcases (show i = 0 ∨ i = 1 ∨ i = 2 ∨ i = 3 ∨ i = 4 ∨ i = 5 by omega) with rfl | rfl | rfl | rfl | rfl | rfl <;> omega
    · rw [b6 i (by omega)]; omega
  · obtain ⟨q1, q2, q3, q4, q5, q6, q7⟩ := hC s hs
    obtain ⟨-, -, -, -, -, b4, -⟩ := hB s.1
    exact ⟨by omega, by omega, by omega, by omega, by omega, fun a ha => by have := q6 a ha; omega⟩
  · obtain ⟨q1, q2, q3, q4, q5, q6, q7⟩ := hF a ha
    obtain ⟨-, -, -, -, -, b4, -⟩ := hB a.1
    exact ⟨by omega, fun n hn => by have := q2 n hn; omega, by omega, by omega, by omega⟩
end P1
