/-! what holds of every world stays: clearing, sending, the next tick -/
section P5
variable {π : Pl} {k t h : Nat} {c : Nat → Nat} {w : Wd} {m : List (Nat × Nat)} {dl : Nat → Nat}
theorem netG_clear {p : Nat} (l : List Sg) : netG p (l.filter stayS) = netG p l := by
  unfold netG
  rw [List.filter_filter]
  congr 2
  funext s
  unfold stayS
  cases s.2.2.2.2.2.1.isSome <;> simp
theorem alv_clear {l : List Sg} {p n : Nat} (hz : alv l p n = true) : alv (l.filter stayS) p n = true := by
  unfold alv at hz ⊢
  obtain ⟨x, hx, hz⟩ := List.any_eq_true.mp hz
  refine List.any_eq_true.mpr ⟨x, List.mem_filter.mpr ⟨hx, ?_⟩, hz⟩
  simp only [Bool.and_eq_true] at hz
  unfold stayS
  rw [hz.1.1]
  rfl
theorem WI.clear (hW : WI π k t c h w) : WI π k t c h (clearS w) := by
  obtain ⟨hA, hB, hC, hD, hE, hF, hG, hH⟩ := hW
  refine ⟨hA, hB, fun s hs => hC s (List.mem_filter.mp hs).1, fun p => Nat.le_trans (List.Sublist.countP_le List.filter_sublist) (hD p), List.Pairwise.sublist List.filter_sublist hE, hF, fun p => ?_, hH⟩
  refine (hG p).keep ?_ rfl (fun y _ z => alv_clear z)
  unfold net
  rw [show netG p (clearS w).2.2.1 = netG p w.2.2.1 from netG_clear _]
  rfl
theorem alv_add {l : List Sg} {s : Sg} {p n : Nat} (hz : alv l p n = true) : alv (l ++ [s]) p n = true := by
  unfold alv at hz ⊢
  rw [List.any_append, hz]
  rfl
/-- a segment is added -/
theorem WI.add {w' : Wd} {p : Nat} {s : Sg} (hW : WI π k t c h w) (hp : p < π.1 6) (hfr : freS w p = true) (hfl : flyS w p ≤ 98) (e1 : ∀ i, i < 5 → w'.1 i = w.1 i) (eq : ∀ q i, q ≠ p → w'.2.1 q i = w.2.1 q i) (ei : ∀ i, i ≠ 4 → i ≠ 5 → w'.2.1 p i = w.2.1 p i) (e4 : w'.2.1 p 4 = w.2.1 p 4 + 1) (e5 : w'.2.1 p 5 = 0) (es : w'.2.2.1 = w.2.2.1 ++ [s]) (ea : w'.2.2.2.2.1 = w.2.2.2.2.1)
    (s0 : s.1 = p) (s1 : s.2.1 = w.2.1 p 4) (s3 : 1 ≤ s.2.2.2.1) (s2 : s.2.2.1 + s.2.2.2.1 ≤ π.1 1) (s4 : s.2.2.2.2.1 = w.1 0) (s5 : ∀ a, s.2.2.2.2.2.1 = some a → t ≤ a ∧ a ≤ w.1 0 + 9) (s6 : s.2.2.2.2.2.2.1 = true) : WI π (k + 1) t c h w' := by
  have hnn := net_num hW (p := p)
  obtain ⟨hA, hB, hC, hD, hE, hF, hG, hH⟩ := hW
  have hfre : ∀ q, freS w' q = freS w q := fun q => by
    unfold freS
    by_cases e : q = p
    · rw [e, ei 0 (by decide) (by decide), ei 1 (by decide) (by decide)]
    · rw [eq q 0 e, eq q 1 e]
  have h4 : ∀ q, w.2.1 q 4 ≤ w'.2.1 q 4 := fun q => by
    by_cases e : q = p
    · rw [e, e4]; omega
    · rw [eq q 4 e]; exact Nat.le_refl _
  have h1 : ∀ q, w'.2.1 q 1 = w.2.1 q 1 := fun q => by
    by_cases e : q = p
    · rw [e]; exact ei 1 (by decide) (by decide)
    · exact eq q 1 e
  have hp0 : w.2.1 p 1 = 0 := by
    unfold freS at hfr
    simp only [Bool.and_eq_true, beq_iff_eq] at hfr
    exact hfr.2
  refine ⟨?_, fun q => ?_, fun y hy => ?_, fun q => ?_, ?_, fun a ha => ?_, fun q => ?_, fun x => by rw [ea]; exact hH x⟩
  · unfold WA at hA ⊢
    rw [e1 0 (by decide), e1 1 (by decide), e1 2 (by decide), e1 3 (by decide), e1 4 (by decide)]
    exact hA
  · obtain ⟨b0, b1, b2, b3, b4, b5, b6, b7, b8⟩ := hB q
    by_cases e : q = p
    · subst e
      unfold pB
      rw [ei 0 (by decide) (by decide), ei 1 (by decide) (by decide), ei 2 (by decide) (by decide), ei 3 (by decide) (by decide), e4, e5]
      exact ⟨b0, b1, b2, b3, b4, by omega, by omega, b7, fun i hi => by rw [ei i (by omega) (by omega)]; exact b8 i hi⟩
    · unfold pB
      simp only [eq q _ e]
      exact ⟨b0, b1, b2, b3, b4, by omega, b6, b7, b8⟩
  · rw [es] at hy
    rcases List.mem_append.mp hy with hy | hy
    · obtain ⟨q1, q2, q3, q4, q5, q6, q7⟩ := hC y hy
      exact ⟨q1, Nat.lt_of_lt_of_le q2 (h4 _), q3, q4, by rw [e1 0 (by decide)]; exact q5, q6, fun z => by rw [hfre]; exact q7 z⟩
    · rw [List.mem_singleton.mp hy]
      exact ⟨by rw [s0]; exact hp, by rw [s1, s0, e4]; omega, s3, s2, by rw [s4, e1 0 (by decide)]; omega, fun a haa => by rw [s4]; exact s5 a haa, fun _ => by rw [hfre, s0]; exact hfr⟩
  · have := hD q
    unfold flyS at this hfl ⊢
    rw [es, List.countP_append, List.countP_singleton]
    by_cases e : q = p
    · subst e
      split <;> omega
    · have h2 : (s.2.2.2.2.2.2.1 && s.1 == q) = false := by
        rw [s0, s6, Bool.true_and, beq_eq_false_iff_ne]
        exact fun z => e z.symm
      rw [h2, if_neg (by decide), Nat.add_zero]
      exact this
  · rw [es, List.pairwise_append]
    refine ⟨hE, List.pairwise_singleton _ _, fun y hy z hz => ?_⟩
    rw [List.mem_singleton.mp hz, s0, s1]
    intro e
    have := (hC y hy).2.1
    rw [e] at this
    omega
  · rw [ea] at ha
    obtain ⟨q1, q2, q3, q4, q5, q6, q7⟩ := hF a ha
    exact ⟨q1, fun n hn => Nat.lt_of_lt_of_le (q2 n hn) (h4 _), q3, q4, q5, q6, by rw [e1 0 (by decide)]; exact q7⟩
  · by_cases e : q = p
    · subst e
      obtain ⟨g1, g2, g3⟩ := hG q
      have hal : ∀ y, alv w.2.2.1 q y = true → alv w'.2.2.1 q y = true := fun y z => by rw [es]; exact alv_add z
      have hal2 : alv w'.2.2.1 q s.2.1 = true := by
        rw [es]
        unfold alv
        rw [List.any_append]
        simp [s6, s0]
      have hnet : net w' q = netG q w.2.2.1 ++ ((if s.2.2.2.2.2.1.isSome then [(s.2.1, s.2.2.2.2.1)] else []) ++ netA q w.2.2.2.2.1) := by
        unfold net netG
        rw [es, ea, List.filter_append, List.map_append, List.append_assoc]
        congr 2
        rw [List.filter_cons, s0]
        cases s.2.2.2.2.2.1 <;> simp
      have hcnt : ∀ x, (net w' q).countP (fun y => decide (x ≤ y.2) && !alv w'.2.2.1 q y.1) ≤ (net w q).countP (fun y => decide (x ≤ y.2) && !alv w.2.2.1 q y.1) := by
        intro x
        have hm : ∀ l : List (Nat × Nat), l.countP (fun y => decide (x ≤ y.2) && !alv w'.2.2.1 q y.1) ≤ l.countP (fun y => decide (x ≤ y.2) && !alv w.2.2.1 q y.1) := fun l => countP_mono (fun y _ hz => by
          simp only [Bool.and_eq_true, Bool.not_eq_true'] at hz ⊢
          refine ⟨hz.1, ?_⟩
          rw [Bool.eq_false_iff]
          intro z
          rw [hal _ z] at hz
          cases hz.2)
        rw [hnet]
        unfold net
        rw [List.countP_append, List.countP_append, List.countP_append]
        have z0 : (if s.2.2.2.2.2.1.isSome then [(s.2.1, s.2.2.2.2.1)] else []).countP (fun y => decide (x ≤ y.2) && !alv w'.2.2.1 q y.1) = 0 := by
          split
          · rw [List.countP_singleton]
            simp [hal2]
          · rfl
        rw [z0]
        have a1 := hm (netG q w.2.2.1)
        have a2 := hm (netA q w.2.2.2.2.1)
        omega
      refine ⟨?_, fun _ x => Nat.le_trans (hcnt x) (g2 hp0 x), fun z => ?_⟩
      · rw [hnet]
        split
        · have hni : s.2.1 ∉ (net w q).map (fun x => x.1) := by
            intro z
            obtain ⟨y, hy, ey⟩ := List.mem_map.mp z
            have := hnn y hy
            rw [ey, s1] at this
            omega
          have hp2 : List.Perm (netG q w.2.2.1 ++ ([(s.2.1, s.2.2.2.2.1)] ++ netA q w.2.2.2.2.1)) ((s.2.1, s.2.2.2.2.1) :: net w q) := List.perm_middle
          have := (hp2.map (fun x => x.1)).nodup_iff
          rw [this, List.map_cons, List.nodup_cons]
          exact ⟨hni, g1⟩
        · exact g1
      · rw [h1, hp0] at z
        cases z
    · refine (hG q).keep ?_ (h1 q) (fun y _ z => by rw [es]; exact alv_add z)
      unfold net netG
      rw [es, ea, List.filter_append, List.map_append]
      have : ([s].filter (fun s => s.1 == q && s.2.2.2.2.2.1.isSome)) = [] := by
        have h2 : (s.1 == q && s.2.2.2.2.2.1.isSome) = false := by
          have : (s.1 == q) = false := by
            rw [s0, beq_eq_false_iff_ne]
            exact fun z => e z.symm
          rw [this, Bool.false_and]
        rw [List.filter_cons, h2]
        rfl
      rw [this]
      simp
theorem WI.tick (hW : WI π k t c h w) (ht : w.1 0 < 1000) : WI π k t c h (wsc w 0 (w.1 0 + 1)) := by
  obtain ⟨⟨a0, a1, a2, a3, a4⟩, hB, hC, hD, hE, hF, hG, hH⟩ := hW
  refine ⟨⟨?_, a1, a2, a3, a4⟩, hB, fun s hs => ?_, hD, hE, fun a ha => ?_, hG, hH⟩
  · show w.1 0 + 1 ≤ 1000
    omega
  · obtain ⟨q1, q2, q3, q4, q5, q6, q7⟩ := hC s hs
    refine ⟨q1, q2, q3, q4, ?_, q6, q7⟩
    show s.2.2.2.2.1 ≤ w.1 0 + 1
    omega
  · obtain ⟨q1, q2, q3, q4, q5, q6, q7⟩ := hF a ha
    refine ⟨q1, q2, q3, q4, q5, q6, ?_⟩
    show a.2.2.2.2.2 ≤ w.1 0 + 1
    omega
end P5
