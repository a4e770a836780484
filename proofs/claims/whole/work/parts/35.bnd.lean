/-! what holds of every world: how long its lists can be -/
section P2
variable {π : Pl} {k t h : Nat} {c : Nat → Nat} {w : Wd} {m : List (Nat × Nat)}
theorem countP_or {α : Type} {P Q : α → Bool} : ∀ l : List α, l.countP P ≤ l.countP (fun x => P x && Q x) + l.countP (fun x => P x && !Q x)
  | [] => Nat.le_refl _
  | x :: l => by
    have := countP_or (P := P) (Q := Q) l
    simp only [List.countP_cons]
    cases P x <;> cases Q x <;> simp <;> omega
theorem countP_mono {α : Type} {P Q : α → Bool} {l : List α} (h : ∀ x ∈ l, P x = true → Q x = true) : l.countP P ≤ l.countP Q := List.countP_mono_left h
/-- a list whose members lie on four paths -/
theorem four {α : Type} (P : α → Bool) (K : α → Nat) (n : Nat) : ∀ l : List α, (∀ x ∈ l, K x < 4) → (∀ p, p < 4 → l.countP (fun x => P x && K x == p) ≤ n) → l.countP P ≤ 4 * n := by
  intro l hl hp
  have : ∀ l : List α, (∀ x ∈ l, K x < 4) → l.countP P = l.countP (fun x => P x && K x == 0) + l.countP (fun x => P x && K x == 1) + l.countP (fun x => P x && K x == 2) + l.countP (fun x => P x && K x == 3) := by
    intro l
    induction l with
    | nil => intro _; rfl
    | cons x l ih =>
      intro hx
      have ih' := ih (fun y hy => hx y (List.mem_cons_of_mem _ hy))
      have := hx x (List.mem_cons_self ..)
      simp only [List.countP_cons]
      cases P x with
      | false => simp; omega
      | true =>
        rcases (show K x = 0 ∨ K x = 1 ∨ K x = 2 ∨ K x = 3 by omega) with e | e | e | e <;> rw [e] <;> simp <;> omega
  rw [this l hl]
  have h0 := hp 0 (by decide)
  have h1 := hp 1 (by decide)
  have h2 := hp 2 (by decide)
  have h3 := hp 3 (by decide)
  omega
theorem net_late (hW : WI π k t c h w) {p : Nat} : ∀ x ∈ net w p, t ≤ x.2 + 18 := by
  obtain ⟨-, -, hC, -, -, hF, -⟩ := hW
  intro x hx
  rcases List.mem_append.mp hx with hx | hx
  · obtain ⟨s, hs, e⟩ := List.mem_map.mp hx
    obtain ⟨hs, hz⟩ := List.mem_filter.mp hs
    simp only [Bool.and_eq_true] at hz
    obtain ⟨a, ha⟩ := Option.isSome_iff_exists.mp hz.2
    have := (hC s hs).2.2.2.2.2.1 a ha
    rw [← e]
    show t ≤ s.2.2.2.2.1 + 18
    omega
  · obtain ⟨a, ha, e⟩ := List.mem_filterMap.mp hx
    have := (hF a ha).2.2.2.2.1
    split at e
    · obtain ⟨n, -, e⟩ := Option.map_eq_some_iff.mp e
      rw [← e]
      show t ≤ a.2.2.2.2.2 + 18
      omega
    · cases e
theorem WI.nlen (hW : WI π k t c h w) {p : Nat} (hc : c p ≤ t) : (net w p).length ≤ 117 := by
  have hl := net_late hW (p := p)
  obtain ⟨-, hB, -, hD, -, -, hG, -⟩ := hW
  obtain ⟨g1, g2, g3⟩ := hG p
  by_cases hp : w.2.1 p 1 = 1
  · exact g3 hp
  · have hp0 : w.2.1 p 1 = 0 := by
      have := (hB p).2.1
      omega
    have h1 := g2 hp0 (t - 18)
    have h2 := alive_le (p := p) (net w p) w.2.2.1 g1
    have h3 := hD p
    have h4 := countP_or (P := fun _ => true) (Q := fun x => alv w.2.2.1 p x.1) (net w p)
    rw [List.countP_true] at h4
    have h5 : (net w p).countP (fun x => true && !alv w.2.2.1 p x.1) ≤ (net w p).countP (fun x => decide (t - 18 ≤ x.2) && !alv w.2.2.1 p x.1) := countP_mono (fun x hx hz => by
      have := hl x hx
      simp only [Bool.true_and] at hz
      rw [hz, Bool.and_true, decide_eq_true_eq]
      omega)
    simp only [Bool.true_and] at h4 h5
    unfold flyS at h3
    omega
theorem nofly_net (hE : w.2.2.1.Pairwise (fun s s' => s.1 = s'.1 → s.2.1 ≠ s'.2.1)) {p : Nat} : ∀ s ∈ w.2.2.1, s.2.2.2.2.2.2.1 = false → s.1 = p → alv w.2.2.1 p s.2.1 = false := by
  generalize w.2.2.1 = l at *
  intro s hs hf hp
  rw [Bool.eq_false_iff]
  intro hz
  unfold alv at hz
  obtain ⟨s', hs', hz⟩ := List.any_eq_true.mp hz
  simp only [Bool.and_eq_true, beq_iff_eq] at hz
  have : s ≠ s' := fun e => by rw [← e, hf] at hz; cases hz.1.1
  obtain ⟨i, hi, ei⟩ := List.getElem_of_mem hs
  obtain ⟨j, hj, ej⟩ := List.getElem_of_mem hs'
  have hE2 := List.pairwise_iff_getElem.mp hE
  rcases Nat.lt_trichotomy i j with q | q | q
  · have := hE2 i j hi hj q
    rw [ei, ej] at this
    exact this (by rw [hp, hz.1.2]) hz.2.symm
  · subst q
    exact this (ei.symm.trans ej)
  · have := hE2 j i hj hi q
    rw [ei, ej] at this
    exact this (by rw [hp, hz.1.2]) hz.2
theorem WI.seg (hW : WI π k t c h w) (hπ : πOK π) (hc : ∀ p, c p ≤ t) (hst : ∀ s ∈ w.2.2.1, stayS s = true) : w.2.2.1.length ≤ 468 := by
  have hl := fun p => net_late hW (p := p)
  have hn := fun p => hW.nlen (hc p)
  obtain ⟨-, hB, hC, hD, hE, -, hG, -⟩ := hW
  have h4 := hπ.2.2.2.2.2.1
  have hq := four (fun _ => true) (fun s : Sg => s.1) 117 w.2.2.1 (fun s hs => by have := (hC s hs).1; omega) (fun p hp => ?_)
  · rw [List.countP_true] at hq
    exact hq
  simp only [Bool.true_and]
  have hcp := hc p
  obtain ⟨g1, g2, g3⟩ := hG p
  have hsub : w.2.2.1.countP (fun s => s.1 == p && !s.2.2.2.2.2.2.1) ≤ (netG p w.2.2.1).countP (fun x => !alv w.2.2.1 p x.1) := by
    unfold netG
    rw [List.countP_map, List.countP_filter]
    refine countP_mono (fun s hs hz => ?_)
    simp only [Bool.and_eq_true, Bool.not_eq_true', beq_iff_eq] at hz
    have h1 := nofly_net hE s hs hz.2 hz.1
    have h2 := hst s hs
    unfold stayS at h2
    rw [hz.2, Bool.false_or] at h2
    simp [h1, h2, hz.1]
  have hnet : (netG p w.2.2.1).countP (fun x => !alv w.2.2.1 p x.1) ≤ (net w p).countP (fun x => !alv w.2.2.1 p x.1) := by
    unfold net
    rw [List.countP_append]
    omega
  have hsp := countP_or (P := fun s : Sg => s.1 == p) (Q := fun s => s.2.2.2.2.2.2.1) w.2.2.1
  have hfl : w.2.2.1.countP (fun s => s.1 == p && s.2.2.2.2.2.2.1) = flyS w p := by
    unfold flyS
    congr 1
    funext s
    exact Bool.and_comm _ _
  by_cases hp1 : w.2.1 p 1 = 1
  · have h0 : flyS w p = 0 := by
      unfold flyS
      rw [List.countP_eq_zero]
      intro s hs hz
      simp only [Bool.and_eq_true, beq_iff_eq] at hz
      have := (hC s hs).2.2.2.2.2.2 hz.1
      unfold freS at this
      simp only [Bool.and_eq_true, beq_iff_eq] at this
      rw [hz.2] at this
      omega
    have h3 : (net w p).countP (fun x => !alv w.2.2.1 p x.1) ≤ (net w p).length := List.countP_le_length
    have := hn p
    omega
  · have hp0 : w.2.1 p 1 = 0 := by
      have := (hB p).2.1
      omega
    have h1 := g2 hp0 (t - 18)
    have h5 : (net w p).countP (fun x => !alv w.2.2.1 p x.1) ≤ (net w p).countP (fun x => decide (t - 18 ≤ x.2) && !alv w.2.2.1 p x.1) := countP_mono (fun x hx hz => by
      have := hl p x hx
      rw [hz, Bool.and_true, decide_eq_true_eq]
      omega)
    have := hD p
    omega
theorem netA_len {p : Nat} : ∀ l : List An, (netA p l).length = l.countP (fun a => a.2.1.isSome && a.1 == p)
  | [] => rfl
  | a :: l => by
    have := netA_len (p := p) l
    unfold netA at this ⊢
    rw [List.filterMap_cons, List.countP_cons]
    by_cases e : a.1 = p
    · rw [if_pos e]
      cases ha : a.2.1 with
      | none => simpa using this
      | some n => simp [e, this]
    · rw [if_neg e]
      simpa [e] using this
theorem WI.nones (hW : WI π k t c h w) (hh : h ≤ t) : w.2.2.2.2.1.countP (fun a => a.2.1.isNone) ≤ 9 := by
  obtain ⟨-, -, -, -, -, hF, -, hH⟩ := hW
  have h1 := hH (t - 9)
  have : w.2.2.2.2.1.countP (fun a => a.2.1.isNone) ≤ w.2.2.2.2.1.countP (fun a => a.2.1.isNone && decide (t - 9 ≤ a.2.2.2.2.2)) := countP_mono (fun a ha hz => by
    have h2 := hF a ha
    have h3 := h2.2.2.2.2.2.1 (by simpa using hz)
    have h4 := h2.2.2.2.2.1.1
    rw [hz, Bool.true_and, decide_eq_true_eq]
    omega)
  omega
theorem split_none (l : List An) : l.length = l.countP (fun a => a.2.1.isSome) + l.countP (fun a => a.2.1.isNone) := by
  induction l with
  | nil => rfl
  | cons a l ih =>
    rw [List.countP_cons, List.countP_cons, List.length_cons]
    cases a.2.1 <;> simp <;> omega
/-- the answers, and those that the due segments will get -/
theorem WI.ans (hW : WI π k t c h w) (hπ : πOK π) (hc : ∀ p, c p ≤ t) (hh : h ≤ t) : w.2.2.2.2.1.length + w.2.2.1.countP (fun s => s.2.2.2.2.2.1.isSome) ≤ 477 := by
  have hn := fun p => hW.nlen (hc p)
  have h9 := hW.nones hh
  obtain ⟨-, -, hC, -, -, hF, -, -⟩ := hW
  have h4 := hπ.2.2.2.2.2.1
  have hs := split_none w.2.2.2.2.1
  have key : ∀ p, w.2.2.2.2.1.countP (fun a => a.2.1.isSome && a.1 == p) + w.2.2.1.countP (fun s => s.2.2.2.2.2.1.isSome && s.1 == p) ≤ 117 := by
    intro p
    have := hn p
    unfold net netG at this
    rw [List.length_append, netA_len, List.length_map, ← List.countP_eq_length_filter] at this
    have e : w.2.2.1.countP (fun s => s.1 == p && s.2.2.2.2.2.1.isSome) = w.2.2.1.countP (fun s => s.2.2.2.2.2.1.isSome && s.1 == p) := by
      congr 1
      funext s
      exact Bool.and_comm _ _
    omega
  have s4 : ∀ (l : List An) (l2 : List Sg), (∀ a ∈ l, a.1 < 4) → (∀ s ∈ l2, s.1 < 4) → (∀ p, l.countP (fun a => a.2.1.isSome && a.1 == p) + l2.countP (fun s => s.2.2.2.2.2.1.isSome && s.1 == p) ≤ 117) → l.countP (fun a => a.2.1.isSome) + l2.countP (fun s => s.2.2.2.2.2.1.isSome) ≤ 468 := by
    intro l l2 hl hl2 hk
    have := four (α := An ⊕ Sg) (fun x => x.elim (fun a => a.2.1.isSome) (fun s => s.2.2.2.2.2.1.isSome)) (fun x => x.elim (fun a => a.1) (fun s => s.1)) 117 (l.map Sum.inl ++ l2.map Sum.inr) (fun x hx => by
      rcases List.mem_append.mp hx with hx | hx
      · obtain ⟨a, ha, e⟩ := List.mem_map.mp hx
        rw [← e]; exact hl a ha
      · obtain ⟨a, ha, e⟩ := List.mem_map.mp hx
        rw [← e]; exact hl2 a ha) (fun p _ => by
      rw [List.countP_append, List.countP_map, List.countP_map]
      exact hk p)
    rw [List.countP_append, List.countP_map, List.countP_map] at this
    exact this
  have := s4 w.2.2.2.2.1 w.2.2.1 (fun a ha => by have := (hF a ha).1; omega) (fun s hs => by have := (hC s hs).1; omega) key
  omega
theorem forN_ge {n q x : Nat} {body : Nat → Nat → Nat} (hb : ∀ p y, y ≤ body p y) (hq : q < n) (hx : ∀ y, x ≤ body q y) : x ≤ forN n body 0 := by
  induction n with
  | zero => omega
  | succ n ih =>
    show x ≤ body n (forN n body 0)
    by_cases e : q = n
    · subst e; exact hx _
    · exact Nat.le_trans (ih (by omega)) (hb _ _)
theorem WI.all (hW : WI π k t c h w) : ∀ s ∈ w.2.2.1, s.2.2.2.2.2.2.1 = true → 0 < allS π w := by
  obtain ⟨-, hB, hC, -⟩ := hW
  intro s hs hf
  have hfr := (hC s hs).2.2.2.2.2.2 hf
  have hlt := (hC s hs).1
  have h1 : w.2.1 s.1 0 = 1 := by
    unfold freS at hfr
    simp only [Bool.and_eq_true, beq_iff_eq] at hfr
    exact hfr.1
  have h2 := (hB s.1).2.2.2.2.2.2.2.1 h1
  have := forN_ge (n := π.1 6) (q := s.1) (x := w.2.1 s.1 2) (body := fun p n => if freS w p then n + w.2.1 p 2 else n) (fun p y => by split <;> omega) hlt (fun y => by rw [if_pos hfr]; omega)
  unfold allS
  omega
end P2
