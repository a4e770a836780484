/-! what holds of every world stays: the middle of a tick; the reference's pieces -/
section P8
variable {π : Pl} {k t h win : Nat} {c : Nat → Nat} {w : Wd} {m : List (Nat × Nat)} {dl : Nat → Nat}
theorem arr1_o (s : Sg) (w : Wd) : (∀ i, i < 10 → (arr1 win w s).1 i = w.1 i) ∧ (arr1 win w s).2.1 = w.2.1 ∧ (arr1 win w s).2.2.1 = w.2.2.1 ∧ (arr1 win w s).2.2.2.1 = w.2.2.2.1 ∧ (arr1 win w s).2.2.2.2.1 = w.2.2.2.2.1 ∧ (arr1 win w s).2.2.2.2.2.2 = w.2.2.2.2.2.2 := by
  refine ⟨fun i hi => arr1_n s w i hi, ?_⟩
  unfold arr1
  split
  · exact ⟨rfl, rfl, rfl, rfl, rfl⟩
  · split
    · exact ⟨rfl, rfl, rfl, rfl, rfl⟩
    · split <;> exact ⟨rfl, rfl, rfl, rfl, rfl⟩
theorem folda_o : ∀ (l : List Sg) (w : Wd), (∀ i, i < 10 → (l.foldl (arr1 win) w).1 i = w.1 i) ∧ (l.foldl (arr1 win) w).2.1 = w.2.1 ∧ (l.foldl (arr1 win) w).2.2.1 = w.2.2.1 ∧ (l.foldl (arr1 win) w).2.2.2.1 = w.2.2.2.1 ∧ (l.foldl (arr1 win) w).2.2.2.2.1 = w.2.2.2.2.1 ∧ (l.foldl (arr1 win) w).2.2.2.2.2.2 = w.2.2.2.2.2.2
  | [], w => ⟨fun _ _ => rfl, rfl, rfl, rfl, rfl, rfl⟩
  | s :: l, w => by
    obtain ⟨a1, a2, a3, a4, a5, a6⟩ := arr1_o (win := win) s w
    obtain ⟨b1, b2, b3, b4, b5, b6⟩ := folda_o l (arr1 win w s)
    rw [List.foldl_cons]
    exact ⟨fun i hi => (b1 i hi).trans (a1 i hi), b2.trans a2, b3.trans a3, b4.trans a4, b5.trans a5, b6.trans a6⟩
theorem arrS_o (w : Wd) : (∀ i, i < 10 → (arrS win w).1 i = w.1 i) ∧ (arrS win w).2.1 = w.2.1 ∧ (arrS win w).2.2.1 = w.2.2.1.map (updS (w.1 0)) ∧ (arrS win w).2.2.2.1 = w.2.2.2.1 ∧ (arrS win w).2.2.2.2.1 = w.2.2.2.2.1 := by
  obtain ⟨b1, b2, b3, b4, b5, b6⟩ := folda_o (win := win) (w.2.2.1.filter (due (w.1 0))) w
  exact ⟨b1, b2, rfl, b4, b5⟩
def nnS (π : Pl) (win : Nat) (dl : Nat → Nat) (b : Bool) (w : Wd) : List An := if b then (match openS π w with
    | some p => [(p, none, lack π w, w.1 4 + win, w.1 0 + dl p, w.1 0)]
    | none => []) else []
theorem answs_eq (w : Wd) : ∀ (rs : List Sg) (A : List An), rs.foldl (fun w s => answS π win dl w s.1 (some s.2.1) s.2.2.2.2.1) (wan w A) = wan w (A ++ rs.map (ansS (lack π w) (w.1 4 + win) (w.1 0) dl))
  | [], A => by simp
  | s :: rs, A => by
    rw [List.foldl_cons]
    have : answS π win dl (wan w A) s.1 (some s.2.1) s.2.2.2.2.1 = wan w (A ++ [ansS (lack π w) (w.1 4 + win) (w.1 0) dl s]) := rfl
    rw [this, answs_eq w rs]
    simp
theorem outS_eq (rs : List Sg) (many : Nat) (w : Wd) : outS π win dl rs many w = wan w (w.2.2.2.2.1 ++ rs.map (ansS (lack π w) (w.1 4 + win) (w.1 0) dl) ++ nnS π win dl (rs.isEmpty && decide (0 < many)) w) := by
  have e := answs_eq (π := π) (win := win) (dl := dl) w rs w.2.2.2.2.1
  have e0 : wan w w.2.2.2.2.1 = w := rfl
  rw [e0] at e
  unfold outS nnS
  dsimp only
  rw [e]
  split
  · show (match openS π w with
      | some p => _
      | none => _) = _
    cases openS π w with
    | none => simp
    | some p => rfl
  · simp
theorem open_lt {p : Nat} (ho : openS π w = some p) : p < π.1 6 := by
  have := List.mem_of_find?_eq_some ho
  rw [List.mem_range] at this
  exact this
def midS (π : Pl) (win : Nat) (dl : Nat → Nat) (w1 : Wd) : Wd := outS π win dl (rsL (w1.1 0) w1.2.2.1) (manyS π (arrS win w1)) (wsc (arrS win w1) 4 ((arrS win w1).1 4 + manyS π (arrS win w1)))
theorem WI.mid (hW : WI π k (w.1 0) c h w) (hA1 : ∀ a ∈ w.2.2.2.2.1, w.1 0 + 1 ≤ a.2.2.2.2.1) (hh : h ≤ w.1 0) (hπ : πOK π) (hdl : ∀ p, p < π.1 6 → 1 ≤ dl p ∧ dl p ≤ 9) (hwin : win ≤ 99) : WI π k (w.1 0 + 1) c (w.1 0 + 1) (midS π win dl w) := by
  obtain ⟨b1, b2, b3, b4, b5⟩ := arrS_o (win := win) w
  have h200 := hπ.1.2
  have hr : (arrS win w).1 4 ≤ π.1 1 := by rw [b1 4 (by decide)]; exact hW.1.2.2.2.2
  have hm := manyS_le (π := π) (w := arrS win w)
  have hl := lack_le (π := π) (w := arrS win w) hr
  have hg := lack_ge (π := π) (w := arrS win w)
  have hr2 : (wsc (arrS win w) 4 ((arrS win w).1 4 + manyS π (arrS win w))).1 4 ≤ π.1 1 := by
    show (arrS win w).1 4 + manyS π (arrS win w) ≤ π.1 1
    omega
  have hl2 := lack_le (π := π) hr2
  have e0 : (wsc (arrS win w) 4 ((arrS win w).1 4 + manyS π (arrS win w))).1 0 = w.1 0 := b1 0 (by decide)
  unfold midS
  rw [outS_eq]
  refine hW.arr (lk := lack π (wsc (arrS win w) 4 ((arrS win w).1 4 + manyS π (arrS win w)))) (ed := (wsc (arrS win w) 4 ((arrS win w).1 4 + manyS π (arrS win w))).1 4 + win) (nn := nnS π win dl ((rsL (w.1 0) w.2.2.1).isEmpty && decide (0 < manyS π (arrS win w))) (wsc (arrS win w) 4 ((arrS win w).1 4 + manyS π (arrS win w)))) hA1 hh hdl hl2 (by omega) (fun i hi => ?_) hr2 b2 b3 ?_ ?_
  · show fu (arrS win w).1 4 _ i = w.1 i
    unfold fu
    rw [if_neg (by omega)]
    exact b1 i (by omega)
  · show (arrS win w).2.2.2.2.1 ++ _ ++ _ = _
    rw [b5, e0]
  · unfold nnS
    split
    · cases ho : openS π (wsc (arrS win w) 4 ((arrS win w).1 4 + manyS π (arrS win w))) with
      | none => exact Or.inl rfl
      | some p =>
        refine Or.inr ⟨p, open_lt ho, ?_⟩
        rw [e0]
    · exact Or.inl rfl
theorem mid_o : (midS π win dl w).1 0 = w.1 0 ∧ (midS π win dl w).1 2 = w.1 2 ∧ (midS π win dl w).2.2.1 = w.2.2.1.map (updS (w.1 0)) ∧ (midS π win dl w).2.2.2.1 = w.2.2.2.1 := by
  obtain ⟨b1, b2, b3, b4, b5⟩ := arrS_o (win := win) w
  unfold midS
  rw [outS_eq]
  exact ⟨b1 0 (by decide), b1 2 (by decide), b3, b4⟩
theorem PI.mid (hP : PI π w m) : PI π (midS π win dl w) m := by
  obtain ⟨b0, b2, b3, b4⟩ := mid_o (π := π) (win := win) (dl := dl) (w := w)
  obtain ⟨p1, p2, p3⟩ := hP
  refine ⟨p1, ?_, ?_⟩
  · rw [b4, ← p2]
    congr 1
    funext q
    unfold ndS
    rw [b2]
  · rw [b3, List.countP_map]
    have e : ((fun s : Sg => s.2.2.2.2.2.2.1) ∘ updS (w.1 0)) = (fun s => s.2.2.2.2.2.2.1) := by
      funext s
      simp only [Function.comp]
      rw [(updS_f (w.1 0) s).2.2.2.2.2]
    rw [e]
    exact p3
theorem off_cnt (p : Nat) : ∀ l : List Sg, (l.map (offS p)).countP (fun s => s.2.2.2.2.2.2.1) + (l.filter (hitS p)).length = l.countP (fun s => s.2.2.2.2.2.2.1)
  | [] => rfl
  | s :: l => by
    have ih := off_cnt p l
    rw [List.countP_map] at ih
    rw [List.map_cons, List.countP_cons, List.countP_cons, List.filter_cons]
    cases hz : hitS p s with
    | true =>
      have hf : s.2.2.2.2.2.2.1 = true := by
        unfold hitS at hz
        simp only [Bool.and_eq_true] at hz
        exact hz.2
      have ho : offS p s = sgFl s false := by unfold offS; rw [if_pos hz]
      rw [ho, hf]
      simp [sgFl]
      omega
    | false =>
      have ho : offS p s = s := by unfold offS; rw [if_neg (by rw [hz]; decide)]
      rw [ho]
      simp
      omega
theorem nd_idem {P : Nat × Nat → Bool} (l : List (Nat × Nat)) : (l.filter P).filter P = l.filter P := by
  rw [List.filter_filter]
  congr 1
  funext x
  cases P x <;> rfl
end P8
