/-! what holds of the state is kept -/
section ZK
variable {Z : Zs}
theorem bytesS_lt (x : Int32) : ∀ b ∈ bytesS x, b < 256 := by
  intro b hb
  unfold bytesS at hb
  simp only [List.mem_cons, List.not_mem_nil, or_false] at hb
  rcases hb with rfl | rfl | rfl | rfl <;> exact (byt_eq x _).2
theorem z_feed (hz : zOK Z) {a b c d e : Int32} : zOK (feedS Z a b c d e).1 := by
  unfold feedS
  have b4 : ∀ x, (bytesS x).length = 4 := fun x => rfl
  split
  · exact hz
  · rename_i h
    refine ⟨?_, fun x hx => ?_, hz.2.2⟩
    · show (Z.1 ++ bytesS a ++ bytesS b ++ bytesS c ++ bytesS d ++ bytesS e).length ≤ 1600
      simp only [List.length_append, b4]
      omega
    · have hx' : x ∈ Z.1 ++ bytesS a ++ bytesS b ++ bytesS c ++ bytesS d ++ bytesS e := hx
      simp only [List.mem_append] at hx'
      rcases hx' with ((((z | z) | z) | z) | z) | z
      · exact hz.2.1 x z
      · exact bytesS_lt a x z
      · exact bytesS_lt b x z
      · exact bytesS_lt c x z
      · exact bytesS_lt d x z
      · exact bytesS_lt e x z
theorem z_end (hz : zOK Z) {a : Int32} : zOK (endS Z a).1 := by
  unfold endS
  split
  · exact hz
  · rename_i n _
    refine ⟨?_, fun x hx => hz.2.1 x (List.mem_of_mem_take hx), hz.2.2⟩
    show (Z.1.take n).length ≤ 1600
    rw [List.length_take]
    have := hz.1
    omega
theorem z_seed (hz : zOK Z) {a : Int32} : zOK (seedS Z a).1 := by
  unfold seedS
  split
  · exact hz
  · rename_i h
    exact ⟨hz.1, hz.2.1, (i32_nn h).2, hz.2.2.2⟩
theorem z_meet (hz : zOK Z) : zOK (meetS Z).1 := by
  have bad : zOK ([], (zRef Z 5).2) := ⟨Nat.zero_le _, fun b hb => (by cases hb), hz.2.2⟩
  unfold meetS
  cases hq : Z.2.2.2.2 with
  | none => exact bad
  | some q =>
    dsimp only
    split
    · rename_i hm
      obtain ⟨m0, m3, m48, mr⟩ := metOK_t hm
      obtain ⟨o1, o2, o3, o4, o5, o6, o7, o8, o9⟩ := hz.2.2.2.2 q hq
      have len : (metL Z.1).length = Z.1.length / 3 := by unfold metL; rw [List.length_map, List.length_range]
      refine ⟨Nat.zero_le _, fun b hb => (by cases hb), hz.2.2.1, hz.2.2.2.1, fun q' e => ?_⟩
      cases e
      refine ⟨o1, o2, o3, o4, o5, o6, o7, ?_, fun r hr => ?_⟩
      · show (metL Z.1).length ≤ 16
        rw [len]
        omega
      · have hr' : r ∈ metL Z.1 := hr
        unfold metL at hr'
        rw [List.mem_map] at hr'
        obtain ⟨k, hk, rfl⟩ := hr'
        exact mr k (List.mem_range.mp hk)
    · exact bad
theorem z_undo (hz : zOK Z) : zOK (undoS Z).1 := by
  unfold undoS
  cases hq : Z.2.2.2.2 with
  | none => exact hz
  | some q =>
    dsimp only
    cases hl : q.2.2.2.1.getLast? with
    | none => exact hz
    | some w =>
      obtain ⟨o1, o2, o3, o4, o5, o6, o7, o8, o9⟩ := hz.2.2.2.2 q hq
      refine ⟨hz.1, hz.2.1, hz.2.2.1, hz.2.2.2.1, fun q' e => ?_⟩
      cases e
      refine ⟨o1, o2, o3, o4, o6 w (List.mem_of_getLast? hl), fun w' hw => o6 w' ((List.dropLast_sublist _).subset hw), ?_, o8, o9⟩
      show q.2.2.2.1.dropLast.length ≤ 20
      rw [List.length_dropLast]
      omega
end ZK
