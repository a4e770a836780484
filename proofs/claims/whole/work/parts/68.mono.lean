/-! what is needed never falls -/
section MO
variable {π : Pl} {win : Nat} {dl : Nat → Nat} {dr : Bool}
theorem wsc_2 {w : Wd} {i v : Nat} (h : i ≠ 2) : (wsc w i v).1 2 = w.1 2 := by
  show fu w.1 i v 2 = _
  unfold fu
  rw [if_neg (fun z => h z.symm)]
theorem forN_2 {b : Nat → Wd → Wd} (h : ∀ p w, (b p w).1 2 = w.1 2) : ∀ (n : Nat) (w : Wd), (forN n b w).1 2 = w.1 2
  | 0, _ => rfl
  | n + 1, w => (h n _).trans (forN_2 h n w)
theorem fold_2 {α : Type} {b : Wd → α → Wd} (h : ∀ w a, (b w a).1 2 = w.1 2) : ∀ (l : List α) (w : Wd), (l.foldl b w).1 2 = w.1 2
  | [], _ => rfl
  | a :: l, w => (fold_2 h l _).trans (h w a)
theorem joinS_2 (w : Wd) (p tok : Nat) : (joinS π w p tok).1.1 2 = w.1 2 := by
  unfold joinS
  split
  · exact wsc_2 (by omega)
  · rfl
theorem joinsS_2 (w : Wd) : (joinsS π w).1 2 = w.1 2 := by
  unfold joinsS
  refine forN_2 (fun p w => ?_) _ w
  split
  · split
    · exact joinS_2 w _ _
    · rfl
  · rfl
theorem hear1_2 (w : Wd) (a : An) : w.1 2 ≤ (hear1 π w a).1 2 := by
  have e : w.1 2 ≤ (wsc (wsc w 2 (maxS a.2.2.1 (w.1 2))) 3 (maxS a.2.2.2.1 (w.1 3))).1 2 := by
    rw [wsc_2 (by decide)]
    have e2 : (wsc w 2 (maxS a.2.2.1 (w.1 2))).1 2 = maxS a.2.2.1 (w.1 2) := by simp [wsc, fu]
    rw [e2]
    unfold maxS
    split <;> omega
  unfold hear1
  dsimp only
  split
  · exact e
  · split
    · exact e
    · exact e
theorem hears_2 : ∀ (l : List An) (w : Wd), w.1 2 ≤ (l.foldl (hear1 π) w).1 2
  | [], _ => Nat.le_refl _
  | a :: l, w => Nat.le_trans (hear1_2 w a) (hears_2 l _)
theorem hearS_2 (w : Wd) : w.1 2 ≤ (hearS π w).1 2 := by
  have h := hears_2 (π := π) (w.2.2.2.2.1.filter (fun a => a.2.2.2.2.1 == w.1 0)) (wan w (w.2.2.2.2.1.filter (fun a => !(a.2.2.2.2.1 == w.1 0))))
  exact h
theorem arrS_2 (w : Wd) : (arrS win w).1 2 = w.1 2 := by
  show ((w.2.2.1.filter (due (w.1 0))).foldl (arr1 win) w).1 2 = _
  refine fold_2 (fun w s => ?_) _ w
  unfold arr1
  split
  · exact wsc_2 (by omega)
  · split
    · exact wsc_2 (by omega)
    · split
      · exact wsc_2 (by omega)
      · rfl
theorem outS_2 (rs : List Sg) (many : Nat) (w : Wd) : (outS π win dl rs many w).1 2 = w.1 2 := by
  have e : (rs.foldl (fun w s => answS π win dl w s.1 (some s.2.1) s.2.2.2.2.1) w).1 2 = w.1 2 := fold_2 (b := fun (w : Wd) (s : Sg) => answS π win dl w s.1 (some s.2.1) s.2.2.2.2.1) (fun w s => rfl) rs w
  unfold outS
  dsimp only
  split
  · split
    · exact e
    · exact e
  · exact e
theorem dieS_2 (w : Wd) (p : Nat) : (dieS w p).1 2 = w.1 2 := by
  unfold dieS
  split
  · rfl
  · rfl
theorem failS_2 (w : Wd) (p : Nat) : (failS π dl w p).1 2 = w.1 2 := by
  unfold failS
  split
  · split
    · rfl
    · split
      · rfl
      · dsimp only
        split
        · exact dieS_2 _ _
        · rfl
  · rfl
theorem sendS_2 (T : Tk) (p frm many : Nat) : (sendS π dl dr T p frm many).1.1 2 = T.1.1 2 := by
  unfold sendS
  exact wsc_2 (by decide)
theorem sendsS_2 : ∀ (n : Nat) (T : Tk), (sendsS π dl dr n T).1.1.1 2 = T.1.1 2
  | 0, _ => rfl
  | n + 1, T => by
    unfold sendsS
    dsimp only
    split
    · rfl
    · split
      · rfl
      · split
        · rename_i p _ _ _ q ps _
          exact (sendsS_2 n _).trans (sendS_2 (π := π) (dl := dl) (dr := dr) T p q.1 q.2)
        · rename_i p _ _ _ _
          exact (sendsS_2 n _).trans ((wsc_2 (by decide)).trans (sendS_2 (π := π) (dl := dl) (dr := dr) T p (T.1.1 1) (minS (π.1 2) (minS (T.1.1 3) (π.1 1) - T.1.1 1))))
theorem penS_2 {T T' : Tk} (h : penS π dl dr T = some T') : T'.1.1 2 = T.1.1 2 := by
  unfold penS at h
  split at h
  · split at h
    · cases h
    · split at h
      · cases h
      · split at h
        · cases h
        · rename_i k _ s _ _ p _ _
          cases h
          exact sendS_2 (π := π) (dl := dl) (dr := dr) T p s.2.2.1 s.2.2.2.1
  · cases h
theorem tickS_2 (w : Wd) (x : Nat) : w.1 2 ≤ (tickS π win dl dr w x).1.1 2 := by
  have h1 : w.1 2 ≤ (hearS π (joinsS π w)).1 2 := by
    have := hearS_2 (π := π) (joinsS π w)
    rw [joinsS_2] at this
    exact this
  refine Nat.le_trans h1 (Nat.le_of_eq ?_)
  unfold tickS
  dsimp only
  generalize hearS π (joinsS π w) = w1
  rw [wsc_2 (by decide)]
  have e5 : ∀ (rs : List Sg) (wr : List Nat) (many : Nat), (clearS (forN (π.1 6) (fun p w => failS π dl w p) (wr.foldl dieS (outS π win dl rs many (wsc (arrS win w1) 4 ((arrS win w1).1 4 + many)))))).1 2 = w1.1 2 := by
    intro rs wr many
    show (forN (π.1 6) (fun p w => failS π dl w p) _).1 2 = _
    rw [forN_2 (fun p w => failS_2 w p), fold_2 (fun w p => dieS_2 w p), outS_2, wsc_2 (by decide), arrS_2]
  split
  · split
    · rename_i hp
      rw [penS_2 hp, sendsS_2]
      exact (e5 _ _ _).symm
    · rw [sendsS_2]
      exact (e5 _ _ _).symm
  · rw [sendsS_2]
    exact (e5 _ _ _).symm
theorem runS_2 (w : Wd) (n k : Nat) : (runS π win dl n w).1 2 ≤ (runS π win dl (n + k) w).1 2 := by
  induction k with
  | zero => exact Nat.le_refl _
  | succ k ih => exact Nat.le_trans ih (tickS_2 _ _)
end MO
