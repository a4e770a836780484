/-! what holds of every world stays: hearing, dying, failing, clearing -/
section P4
variable {π : Pl} {k t h : Nat} {c : Nat → Nat} {w : Wd} {m : List (Nat × Nat)} {dl : Nat → Nat}
theorem WI.num23 {x y : Nat} (hW : WI π k t c h w) (hx : x ≤ π.1 1) (hy : y ≤ 400) : WI π k t c h (wsc (wsc w 2 x) 3 y) := by
  obtain ⟨⟨a0, a1, a2, a3, a4⟩, hB, hC, hD, hE, hF, hG, hH⟩ := hW
  exact ⟨⟨a0, a1, hx, hy, a4⟩, hB, hC, hD, hE, hF, hG, hH⟩
theorem freS_pt {p i x q : Nat} (hi : 2 ≤ i) : freS (wpt w p i x) q = freS w q := by
  show (up2 w.2.1 p i x q 0 == 1 && up2 w.2.1 p i x q 1 == 0) = _
  rw [up2_k (by omega), up2_k (by omega)]
  rfl
theorem WI.pt {p i x : Nat} (hW : WI π k t c h w) (hi : 2 ≤ i) (hi4 : i ≠ 4) (hB : pB (wpt w p i x) k p) : WI π k t c h (wpt w p i x) := by
  have hB0 := hW.2.1
  have hC := hW.2.2.1
  have hG := hW.2.2.2.2.2.2.1
  refine WI.step (c' := c) hW hW.1 rfl (fun q => ?_) (fun q => up2_k (by omega)) (Offs.rf _) (fun s hs hf => by rw [freS_pt hi]; exact (hC s hs).2.2.2.2.2.2 hf) rfl (fun q => (hG q).keep rfl (up2_k (by omega)) (fun _ _ z => z))
  by_cases e : q = p
  · subst e; exact hB
  · have := hB0 q
    unfold pB at this ⊢
    have e2 : ∀ j, (wpt w p i x).2.1 q j = w.2.1 q j := fun j => up2_r e
    simp only [e2]
    exact this
theorem WI.cw {p x : Nat} (hW : WI π k t c h w) (hx : x ≤ 99000) (hx2 : w.2.1 p 0 = 1 → 1000 ≤ x) : WI π k t c h (wpt w p 2 x) := by
  refine hW.pt (by decide) (by decide) ?_
  obtain ⟨b0, b1, b2, b3, b4, b5, b6, b7, b8⟩ := hW.2.1 p
  have e : ∀ j, j ≠ 2 → (wpt w p 2 x).2.1 p j = w.2.1 p j := fun j hj => up2_k hj
  have e2 : (wpt w p 2 x).2.1 p 2 = x := up2_eq
  unfold pB
  rw [e 0 (by decide), e 1 (by decide), e2, e 3 (by decide), e 4 (by decide), e 5 (by decide)]
  exact ⟨b0, b1, hx, b3, b4, b5, b6, hx2, fun i hi => by rw [e i (by omega)]; exact b8 i hi⟩
theorem WI.fl0 {p : Nat} (hW : WI π k t c h w) : WI π k t c h (wpt w p 3 0) := by
  refine hW.pt (by decide) (by decide) ?_
  obtain ⟨b0, b1, b2, b3, b4, b5, b6, b7, b8⟩ := hW.2.1 p
  have e : ∀ j, j ≠ 3 → (wpt w p 3 0).2.1 p j = w.2.1 p j := fun j hj => up2_k hj
  have e2 : (wpt w p 3 0).2.1 p 3 = 0 := up2_eq
  unfold pB
  rw [e 0 (by decide), e 1 (by decide), e2, e 2 (by decide), e 4 (by decide), e 5 (by decide)]
  exact ⟨b0, b1, b2, by omega, fun _ => by omega, b5, b6, b7, fun i hi => by rw [e i (by omega)]; exact b8 i hi⟩
theorem WI.grow {p : Nat} (hW : WI π k t c h w) : WI π k t c h (growS π w p) := by
  unfold growS
  refine hW.cw (by split <;> omega) (fun z => ?_)
  have := (hW.2.1 p).2.2.2.2.2.2.2.1 z
  generalize 1000000 / allS π w = y
  split <;> omega
/-- one flies no more; x: what its path's clock says then -/
theorem WI.offk {j x : Nat} {s : Sg} (hW : WI π k t c h w) (hj : w.2.2.1[j]? = some s) (hx : pG (wsg w (w.2.2.1.set j (sgFl s false))) x s.1) : WI π k t (fu c s.1 x) h (wsg w (w.2.2.1.set j (sgFl s false))) := by
  have hC := hW.2.2.1
  have hG := hW.2.2.2.2.2.2.1
  have ho : Offs w.2.2.1 (w.2.2.1.set j (sgFl s false)) := Offs.set hj
  refine WI.step (c' := fu c s.1 x) hW hW.1 rfl hW.2.1 (fun _ => rfl) ho (fun y hy hf => ?_) rfl (fun q => ?_)
  · obtain ⟨z, hz, ez, ef⟩ := ho.mem y hy
    have := (hC z hz).2.2.2.2.2.2 (ef hf)
    rw [(sgFl_eq ez).1]
    exact this
  · by_cases e : q = s.1
    · subst e
      have : fu c s.1 x s.1 = x := by unfold fu; rw [if_pos rfl]
      rw [this]
      exact hx
    · have : fu c s.1 x q = c q := by unfold fu; rw [if_neg e]
      rw [this]
      exact (hG q).keep (net_eq (w' := wsg w (w.2.2.1.set j (sgFl s false))) ho rfl q) rfl (fun y hy z => alv_set hj (fun z2 => e z2.1.symm) z)
theorem WI.hear {a : An} (hW : WI π k t c h w) (h1 : a.2.2.1 ≤ π.1 1) (h2 : a.2.2.2.1 ≤ 400) (hn : ∀ n, a.2.1 = some n → ∀ x ∈ net w a.1, x.1 ≠ n) : WI π k t c h (hear1 π w a) := by
  have hA := hW.1
  have hW1 : WI π k t c h (wsc (wsc w 2 (maxS a.2.2.1 (w.1 2))) 3 (maxS a.2.2.2.1 (w.1 3))) := by
    obtain ⟨a0, a1, a2, a3, a4⟩ := hA
    refine hW.num23 ?_ ?_ <;> unfold maxS <;> split <;> omega
  unfold hear1
  cases hnum : a.2.1 with
  | none => exact hW1
  | some n =>
    dsimp only
    generalize hw1 : wsc (wsc w 2 (maxS a.2.2.1 (w.1 2))) 3 (maxS a.2.2.2.1 (w.1 3)) = w1 at hW1
    have hnet : ∀ p, net w1 p = net w p := fun p => by rw [← hw1]; rfl
    cases hat : atS w1 a.1 n with
    | none => exact hW1
    | some j =>
      obtain ⟨hjlt, hjp, -⟩ := List.findIdx?_eq_some_iff_getElem.mp hat
      have hj : w1.2.2.1[j]? = some w1.2.2.1[j] := List.getElem?_eq_getElem hjlt
      generalize w1.2.2.1[j] = s at hj hjp
      simp only [Bool.and_eq_true, beq_iff_eq] at hjp
      dsimp only
      rw [modify_set _ hj]
      refine WI.grow (WI.fl0 ?_)
      have ho : Offs w1.2.2.1 (w1.2.2.1.set j (sgFl s false)) := Offs.set hj
      have hk := (hW1.2.2.2.2.2.2.1 s.1).keep (w' := wsg w1 (w1.2.2.1.set j (sgFl s false))) (net_eq (w' := wsg w1 (w1.2.2.1.set j (sgFl s false))) ho rfl s.1) rfl (fun y hy z => alv_set hj (fun z2 => by
        rw [hnet, hjp.1.1] at hy
        exact hn n hnum y hy (z2.2.symm.trans hjp.1.2)) z)
      have := hW1.offk hj hk
      have ec : fu c s.1 (c s.1) = c := funext fun q => by
        unfold fu
        split
        · rename_i e; rw [e]
        · rfl
      rw [ec] at this
      exact this
theorem off_hit {p : Nat} {s : Sg} (hf : (offS p s).2.2.2.2.2.2.1 = true) : offS p s = s ∧ s.1 ≠ p := by
  unfold offS at hf ⊢
  split at hf
  · cases hf
  · rename_i z
    rw [if_neg z]
    refine ⟨rfl, fun e => z ?_⟩
    unfold hitS
    rw [hf, e]
    simp
/-- a path dies, with its other numbers changed as they may be -/
theorem WI.dieX {p : Nat} {w' : Wd} (hW : WI π k t c h w) (hc : c p ≤ t) (e1 : ∀ i, i < 5 → w'.1 i = w.1 i) (eq : ∀ q i, q ≠ p → w'.2.1 q i = w.2.1 q i) (e11 : w'.2.1 p 1 = 1) (ei : ∀ i, i ≠ 1 → i ≠ 2 → i ≠ 3 → w'.2.1 p i = w.2.1 p i) (ec : w'.2.1 p 2 ≤ 99000) (ec2 : w.2.1 p 0 = 1 → 1000 ≤ w'.2.1 p 2) (ef : w'.2.1 p 3 ≤ 3) (es : w'.2.2.1 = w.2.2.1.map (offS p)) (ea : w'.2.2.2.2.1 = w.2.2.2.2.1) : WI π k t c h w' := by
  have hnl := hW.nlen hc
  have hA := hW.1
  have hB := hW.2.1
  have hC := hW.2.2.1
  have hG := hW.2.2.2.2.2.2.1
  have ho : Offs w.2.2.1 w'.2.2.1 := by rw [es]; exact Offs.off p _
  refine WI.step (c' := c) hW ?_ (e1 0 (by decide)) (fun q => ?_) (fun q => ?_) ho (fun y hy hf => ?_) ea (fun q => ?_)
  · unfold WA at hA ⊢
    rw [e1 0 (by decide), e1 1 (by decide), e1 2 (by decide), e1 3 (by decide), e1 4 (by decide)]
    exact hA
  · by_cases e : q = p
    · subst e
      obtain ⟨b0, b1, b2, b3, b4, b5, b6, b7, b8⟩ := hB q
      unfold pB
      rw [ei 0 (by decide) (by decide) (by decide), e11, ei 4 (by decide) (by decide) (by decide), ei 5 (by decide) (by decide) (by decide)]
      exact ⟨b0, by omega, ec, ef, fun z => absurd z (by decide), b5, b6, ec2, fun i hi => by rw [ei i (by omega) (by omega) (by omega)]; exact b8 i hi⟩
    · have := hB q
      unfold pB at this ⊢
      simp only [eq q _ e]
      exact this
  · by_cases e : q = p
    · subst e; exact ei 4 (by decide) (by decide) (by decide)
    · exact eq q 4 e
  · rw [es] at hy
    obtain ⟨z, hz, ez⟩ := List.mem_map.mp hy
    rw [← ez] at hf ⊢
    obtain ⟨q1, q2⟩ := off_hit hf
    rw [q1] at hf ⊢
    have := (hC z hz).2.2.2.2.2.2 hf
    unfold freS at this ⊢
    rw [eq _ _ q2, eq _ _ q2]
    exact this
  · have hn := net_eq ho ea q
    by_cases e : q = p
    · subst e
      unfold pG
      rw [hn, e11]
      exact ⟨(hG q).1, fun z => absurd z (by decide), fun _ => hnl⟩
    · exact (hG q).keep hn (eq q 1 e) (fun y hy z => by rw [es]; exact alv_off e z)
theorem WI.die {p : Nat} (hW : WI π k t c h w) (hc : c p ≤ t) : WI π k t c h (dieS w p) := by
  by_cases hd : w.2.1 p 1 = 1
  · unfold dieS
    rw [if_pos hd]
    exact hW
  · rw [dieS_live hd]
    obtain ⟨b0, b1, b2, b3, b4, b5, b6, b7, b8⟩ := hW.2.1 p
    have e : ∀ i, i ≠ 1 → up2 w.2.1 p 1 1 p i = w.2.1 p i := fun i hi => up2_k hi
    refine hW.dieX hc (fun _ _ => rfl) (fun q i hq => up2_r hq) up2_eq (fun i hi _ _ => e i hi) ?_ ?_ ?_ rfl rfl
    · show up2 w.2.1 p 1 1 p 2 ≤ _
      rw [e 2 (by decide)]; exact b2
    · intro z
      show 1000 ≤ up2 w.2.1 p 1 1 p 2
      rw [e 2 (by decide)]; exact b7 z
    · show up2 w.2.1 p 1 1 p 3 ≤ _
      rw [e 3 (by decide)]; exact b3
theorem WI.fail {p : Nat} (hW : WI π k t c h w) (hc : c p = w.1 0) (ht : w.1 0 + 1 ≤ t) : WI π k t (fu c p (w.1 0 + 1)) h (failS π dl w p) := by
  have hcc : ∀ q, c q ≤ fu c p (w.1 0 + 1) q := fun q => by
    unfold fu
    split
    · rename_i e; rw [e, hc]; omega
    · exact Nat.le_refl _
  have stay : WI π k t (fu c p (w.1 0 + 1)) h w := hW.le (Nat.le_refl _) hcc (Nat.le_refl _)
  unfold failS
  split
  · rename_i hfr
    split
    · exact stay
    · rename_i j hidx
      split
      · exact stay
      · rename_i s hj
        obtain ⟨hjlt, hjp, -⟩ := List.findIdx?_eq_some_iff_getElem.mp hidx
        have hjs : w.2.2.1[j] = s := by
          rw [List.getElem?_eq_getElem hjlt] at hj
          exact Option.some.inj hj
        rw [hjs] at hjp
        simp only [Bool.and_eq_true, beq_iff_eq] at hjp
        have hsp : s.1 = p := hjp.1.1
        have hp1 : w.2.1 p 1 = 0 ∧ w.2.1 p 0 = 1 := by
          unfold freS at hfr
          simp only [Bool.and_eq_true, beq_iff_eq] at hfr
          exact ⟨hfr.2, hfr.1⟩
        have hG := hW.2.2.2.2.2.2.1 p
        have ho : Offs w.2.2.1 (w.2.2.1.set j (sgFl s false)) := Offs.set hj
        have hpG : pG (wsg w (w.2.2.1.set j (sgFl s false))) (w.1 0 + 1) s.1 := by
          rw [hsp]
          obtain ⟨g1, g2, g3⟩ := hG
          have hn := net_eq (w' := wsg w (w.2.2.1.set j (sgFl s false))) ho rfl p
          unfold pG
          rw [hn]
          refine ⟨g1, fun z s0 => ?_, g3⟩
          by_cases hs0 : s0 ≤ w.1 0
          · have h1 := g2 hp1.1 s0
            have h2 := count_one (n := s.2.1) (P := fun x => decide (s0 ≤ x.2) && !alv w.2.2.1 p x.1) (P' := fun x => decide (s0 ≤ x.2) && !alv (w.2.2.1.set j (sgFl s false)) p x.1) (net w p) g1 (fun x hx hz => by
              by_cases e : x.1 = s.2.1
              · exact Or.inr e
              · left
                simp only [Bool.and_eq_true, Bool.not_eq_true'] at hz ⊢
                refine ⟨hz.1, ?_⟩
                rw [Bool.eq_false_iff]
                intro q
                rw [alv_set hj (fun z2 => e z2.2.symm) q] at hz
                cases hz.2)
            rw [hc] at h1
            show (net w p).countP (fun x => decide (s0 ≤ x.2) && !alv (w.2.2.1.set j (sgFl s false)) p x.1) ≤ _
            omega
          · have : (net w p).countP (fun x => decide (s0 ≤ x.2) && !alv (wsg w (w.2.2.1.set j (sgFl s false))).2.2.1 p x.1) = 0 := by
              rw [List.countP_eq_zero]
              intro x hx hz
              have := net_sent hW x hx
              simp only [Bool.and_eq_true, decide_eq_true_eq] at hz
              omega
            rw [this]
            exact Nat.zero_le _
        have hW2 := hW.offk hj hpG
        rw [hsp] at hW2
        obtain ⟨b0, b1, b2, b3, b4, b5, b6, b7, b8⟩ := hW.2.1 p
        have hh2 : 1000 ≤ halfS (w.2.1 p 2) ∧ halfS (w.2.1 p 2) ≤ 99000 := by
          unfold halfS
          split <;> omega
        have hmod : w.2.2.1.modify j (fun s => sgFl s false) = w.2.2.1.set j (sgFl s false) := modify_set _ hj
        dsimp only
        have hw3 : ∀ w3 : Wd, w3 = wpt (wpt (pcF (wpc (wsg (keepS w (0, p, s.2.2.1)) ((keepS w (0, p, s.2.2.1)).2.2.1.modify j (fun s => sgFl s false))) ((keepS w (0, p, s.2.2.1)).2.2.2.1 ++ [(s.2.2.1, s.2.2.2.1)]))) p 3 (w.2.1 p 3 + 1)) p 2 (halfS (w.2.1 p 2)) → WI π k t (fu c p (w.1 0 + 1)) h (if w3.2.1 p 3 = 3 then dieS w3 p else w3) := by
          intro w3 e3
          have q1 : w3.1 = w.1 := by rw [e3]; rfl
          have q2 : w3.2.1 = up2 (up2 w.2.1 p 3 (w.2.1 p 3 + 1)) p 2 (halfS (w.2.1 p 2)) := by rw [e3]; rfl
          have q3 : w3.2.2.1 = w.2.2.1.set j (sgFl s false) := by rw [e3]; exact hmod
          have q4 : w3.2.2.2.2.1 = w.2.2.2.2.1 := by rw [e3]; rfl
          have z3 : w3.2.1 p 3 = w.2.1 p 3 + 1 := by rw [q2, up2_k (by decide), up2_eq]
          have z2 : w3.2.1 p 2 = halfS (w.2.1 p 2) := by rw [q2]; exact up2_eq
          have zi : ∀ i, i ≠ 2 → i ≠ 3 → w3.2.1 p i = w.2.1 p i := fun i h2 h3 => by rw [q2, up2_k h2, up2_k h3]
          have zq : ∀ q i, q ≠ p → w3.2.1 q i = w.2.1 q i := fun q i hq => by rw [q2, up2_r hq, up2_r hq]
          clear e3
          split
          · rename_i z
            have hd : ¬ w3.2.1 p 1 = 1 := by rw [zi 1 (by decide) (by decide)]; omega
            rw [dieS_live hd]
            have e : ∀ i, i ≠ 1 → up2 w3.2.1 p 1 1 p i = w3.2.1 p i := fun i hi => up2_k hi
            refine hW2.dieX ?_ (fun i hi => ?_) (fun q i hq => ?_) up2_eq (fun i h1 h2 h3 => ?_) ?_ ?_ ?_ ?_ ?_
            · unfold fu; rw [if_pos rfl]; exact ht
            · show w3.1 i = w.1 i
              rw [q1]
            · show up2 w3.2.1 p 1 1 q i = w.2.1 q i
              rw [up2_r hq]; exact zq q i hq
            · show up2 w3.2.1 p 1 1 p i = w.2.1 p i
              rw [e i h1]; exact zi i h2 h3
            · show up2 w3.2.1 p 1 1 p 2 ≤ _
              rw [e 2 (by decide), z2]; exact hh2.2
            · intro _
              show 1000 ≤ up2 w3.2.1 p 1 1 p 2
              rw [e 2 (by decide), z2]; exact hh2.1
            · show up2 w3.2.1 p 1 1 p 3 ≤ 3
              rw [e 3 (by decide)]; omega
            · show w3.2.2.1.map (offS p) = (w.2.2.1.set j (sgFl s false)).map (offS p)
              rw [q3]
            · exact q4
          · rename_i z
            have h3 := ((hW2.pt (p := p) (i := 3) (x := w.2.1 p 3 + 1) (by decide) (by decide) (by
              have e : ∀ j', j' ≠ 3 → (wpt (wsg w (w.2.2.1.set j (sgFl s false))) p 3 (w.2.1 p 3 + 1)).2.1 p j' = w.2.1 p j' := fun j' hj' => up2_k hj'
              have e2 : (wpt (wsg w (w.2.2.1.set j (sgFl s false))) p 3 (w.2.1 p 3 + 1)).2.1 p 3 = w.2.1 p 3 + 1 := up2_eq
              have := b4 hp1.1
              unfold pB
              rw [e 0 (by decide), e 1 (by decide), e2, e 2 (by decide), e 4 (by decide), e 5 (by decide)]
              exact ⟨b0, b1, b2, by omega, fun _ => by omega, b5, b6, b7, fun i hi => by rw [e i (by omega)]; exact b8 i hi⟩)).cw (p := p) (x := halfS (w.2.1 p 2)) hh2.2 (fun _ => hh2.1))
            exact h3.cg (fun i _ => by rw [q1]; rfl) q2 q3 q4
        exact hw3 _ rfl
  · exact stay
end P4
