/-! the reference: meet, undo -/
section MW
variable {l : Launch} {G : Gx} {d : Nat} {sh : Sh} {fR : FRt} {B x : Nat} {f f' : FI} {g g' : FL} {Z : Zs} {q : Td} {fl : Option (Nat × Nat)}
theorem MSr.met {ms : List (Nat × Nat × Nat)} (h : MSr f g B fl (some q)) (e : ∀ r k, kpM B r k → ¬ (B + 34 ≤ r ∧ r ≤ B + 36) → ¬ (r = B ∧ k = 64) → f' r k = f r k) (h64 : f' B 64 = nI ms.length) (hm : ∀ (k : Nat) (r : Nat × Nat × Nat), ms[k]? = some r → f' (B + 34) k = nI r.1 ∧ f' (B + 35) k = nI r.2.1 ∧ f' (B + 36) k = nI r.2.2) : MSr f' g B fl (some (q.1, q.2.1, q.2.2.1, q.2.2.2.1, ms)) := by
  obtain ⟨F, hF⟩ : ∃ F : FI, ∀ r k, F r k = if (B + 34 ≤ r ∧ r ≤ B + 36) ∨ (r = B ∧ k = 64) then f r k else f' r k := ⟨_, fun _ _ => rfl⟩
  have ev : ∀ r k, ¬ ((B + 34 ≤ r ∧ r ≤ B + 36) ∨ (r = B ∧ k = 64)) → f' r k = F r k := fun r k z => by rw [hF, if_neg z]
  have kept : MSr F g B fl (some q) := h.keep (fun r k z => by
    rw [hF]
    split
    · rfl
    · exact e r k z (by omega) (by omega)) (fun _ => rfl)
  obtain ⟨⟨y1, y1'⟩, y2, y3, y4, b, hb, y5, ⟨p1, p2, p3, p4⟩, t2, ⟨m, t3, t3'⟩, ⟨uf, t4, t4', t4''⟩, t5, -, -⟩ := kept
  refine ⟨⟨by rw [ev _ _ (by omega)]; exact y1, by rw [ev _ _ (by omega)]; exact y1'⟩, by rw [ev _ _ (by omega)]; exact y2, by rw [ev _ _ (by omega)]; exact y3, fun j hj => by rw [ev _ _ (by omega)]; exact y4 j hj, b, hb, by rw [ev _ _ (by omega)]; exact y5, ⟨p1.congr (fun j _ _ i => ev _ _ (by omega)) (ev _ _ (by omega)), by rw [ev _ _ (by omega)]; exact p2, fun p hp => by rw [ev _ _ (by omega)]; exact p3 p hp, p4⟩, t2, ⟨m, t3.congr (fun j _ _ i => ev _ _ (by omega)), t3'⟩, ⟨uf, t4, by rw [ev _ _ (by omega)]; exact t4', fun k w hk => ?_⟩, by rw [ev _ _ (by omega)]; exact t5, h64, hm⟩
  obtain ⟨m, u1, u2⟩ := t4'' k w hk
  exact ⟨m, u1.congr (fun j _ _ i => ev _ _ (by omega)), u2⟩
theorem MSr.act {w' : Wd} {us' : List Wd} {uf' : Nat} (h : MSr f g B fl (some q)) (e : ∀ r k, kpM B r k → ¬ (B + 23 ≤ r ∧ r ≤ B + 28) → ¬ (r = B ∧ (k = 49 ∨ k = 50)) → f' r k = f r k) (eg : ∀ k, g' (B + 15) k = g (B + 15) k) (hw : HM f' B 0 q.1 w') (huf : uf' < 20) (h49 : f' B 49 = nI uf') (h50 : f' B 50 = nI us'.length) (hun : ∀ (k : Nat) (w : Wd), us'[k]? = some w → HM f' B (2 + (uf' + k) % 20) q.1 w) : MSr f' g' B fl (some (q.1, q.2.1, w', us', q.2.2.2.2)) := by
  obtain ⟨⟨y1, y1'⟩, y2, y3, y4, b, hb, y5, ⟨p1, p2, p3, p4⟩, t2, -, -, -, t6, t7⟩ := h
  refine ⟨⟨by rw [e _ _ (by unfold kpM; omega) (by omega) (by omega)]; exact y1, by rw [e _ _ (by unfold kpM; omega) (by omega) (by omega)]; exact y1'⟩, by rw [e _ _ (by unfold kpM; omega) (by omega) (by omega)]; exact y2, by rw [e _ _ (by unfold kpM; omega) (by omega) (by omega)]; exact y3, fun j hj => by rw [e _ _ (by unfold kpM; omega) (by omega) (by omega)]; exact y4 j hj, b, hb, by rw [e _ _ (by unfold kpM; omega) (by omega) (by omega)]; exact y5, ⟨p1.congr (fun j _ _ i => e _ _ (by unfold kpM; omega) (by omega) (by omega)) (e _ _ (by unfold kpM; omega) (by omega) (by omega)), by rw [e _ _ (by unfold kpM; omega) (by omega) (by omega)]; exact p2, fun p hp => by rw [e _ _ (by unfold kpM; omega) (by omega) (by omega)]; exact p3 p hp, p4⟩, fun p hp => by rw [eg]; exact t2 p hp, hw, ⟨uf', huf, h49, hun⟩, h50, by rw [e _ _ (by unfold kpM; omega) (by omega) (by omega)]; exact t6, fun k r hk => ?_⟩
  rw [e _ _ (by unfold kpM; omega) (by omega) (by omega), e _ _ (by unfold kpM; omega) (by omega) (by omega), e _ _ (by unfold kpM; omega) (by omega) (by omega)]
  exact t7 k r hk
theorem M_meet (hs : StM sh fR B) (h : MSt f g B Z) (hz : zOK Z) : Cl l G (d + 1) 0 0 mX12_meet [.ref B] (sh, f, g, fR) (RQ B sh fR f g (meetS Z).1 (meetS Z).2) := by
  have hl := hz.1
  obtain ⟨x1, x2, x3, x4⟩ := id h
  have x6 := x4.2.1
  have rd : ∀ k, k < Z.1.length → f (B + 1) k = nI (Z.1.getD k 0) ∧ Z.1.getD k 0 < 256 := fun k hk => by
    have e : Z.1[k]? = some Z.1[k] := List.getElem?_eq_getElem hk
    rw [List.getD_eq_getElem?_getD, e]
    exact ⟨x1.2 k _ e, hz.2.1 _ (List.getElem_mem _)⟩
  have bad : ∀ a3, (Z.2.2.2.2 = none ∨ metOK Z.1 = false) → LpX12_meet_41 l G d (RQ B sh fR f g (meetS Z).1 (meetS Z).2) sh fR B (up2 f B 1 (nI 0)) g (nI Z.1.length) (nI 0) a3 := fun a3 hno => by
    have b99 : LpX12_meet_99 l G d (RQ B sh fR f g (meetS Z).1 (meetS Z).2) sh fR B (up2 f B 1 (nI 0)) g (nI Z.1.length) (nI 0) := by
      refine VX12_meet_99 hs ⟨fun c => absurd rfl c, fun _ => ?_⟩
      have e : meetS Z = (([], (zRef Z 5).2), -1) := by
        unfold meetS
        cases hq : Z.2.2.2.2 with
        | none => rfl
        | some q =>
          rcases hno with z | z
          · rw [hq] at z; cases z
          · dsimp only
            rw [if_neg (by rw [z]; decide)]
      rw [e]
      rw [up2_r (show B + 22 ≠ B by omega)]
      refine ⟨_, _, rfl, rfl, ⟨⟨?_, fun k b hk => (by cases hk)⟩, fun i hi => ?_, x3, x4.keep (fun r k z => by rw [up2_r (by unfold kpM at z; omega), up2_ne (by unfold kpM at z; omega)]) (fun _ => rfl)⟩, fun r k z => by rw [up2_r (by omega), up2_r (by omega)]⟩
      · rw [up2_r (by omega), up2_eq]; rfl
      · show _ = nI (fu Z.2.1 5 (Z.2.1 5 + 1) i)
        unfold fu
        by_cases ei : i = 5
        · subst ei; rw [up2_eq, if_pos rfl, x2 5 (by decide), nI_add]
        · rw [up2_k ei, if_neg ei, up2_r (by omega)]; exact x2 i hi
    exact VX12_meet_41 hs ⟨fun _ => b99, fun _ => ⟨fun _ => b99, fun c => absurd rfl c⟩⟩
  refine VX12_meet hs ?_
  intro w1 hw1
  rw [x1.1] at hw1
  subst hw1
  rw [x6]
  cases hq : Z.2.2.2.2 with
  | none => exact ⟨fun _ => VX12_meet_37 hs (bad _ (Or.inl hq)), fun c => absurd rfl c⟩
  | some q =>
    refine ⟨fun c => absurd c (by show ¬ bI true = 0; decide), fun _ => ?_⟩
    rw [pk_rem (by omega) (by decide) (by decide)]
    refine ⟨fun c => VX12_meet_37 hs (bad _ (Or.inr ?_)), fun c => ⟨fun c3 => VX12_meet_37 hs (bad _ (Or.inr ?_)), fun c3 => ⟨fun c48 => VX12_meet_37 hs (bad _ (Or.inr ?_)), fun c48 => ?_⟩⟩⟩
    · have h0 : Z.1.length = 0 := by
        rcases Nat.eq_zero_or_pos Z.1.length with z | z
        · exact z
        · exact absurd c (nI_ge (a := 0) z (by omega))
      rw [metOK_eq, decide_eq_false (by omega)]
      rfl
    · rw [metOK_eq, decide_eq_false (p := Z.1.length % 3 = 0) (fun z => c3 (by rw [z]; rfl)), Bool.and_false]
      rfl
    · have := (nI_ltI (by decide) (by omega)).mp c48
      rw [metOK_eq, decide_eq_false (p := Z.1.length ≤ 48) (by omega), Bool.and_false]
      rfl
    · have h48 : Z.1.length ≤ 48 := Nat.not_lt.mp (fun z => c48 (nI_lt z (by omega)))
      have h0 : 0 < Z.1.length := Nat.pos_of_ne_zero (fun z => c (by rw [z]; exact Int32.le_refl _))
      have h3 : Z.1.length % 3 = 0 := (nI_eq (b := 0) (by omega) (by decide)).mp c3
      have loop : ∀ r k, r + k = Z.1.length / 3 → (∀ j, j < k → rowOK Z.1 j = true) → LpX12_meet_41 l G d (RQ B sh fR f g (meetS Z).1 (meetS Z).2) sh fR B (up2 f B 1 (nI 0)) g (nI Z.1.length) (nI 1) (nI (3 * k)) := by
        intro r
        induction r with
        | zero =>
          intro k hk hj
          have hm := metOK_yes h0 h3 h48 (fun j hj' => hj j (by omega))
          refine VX12_meet_41 hs ⟨fun _ => VX12_meet_99 hs ⟨fun _ => ?_, fun c => absurd c (by decide)⟩, fun z => absurd (nI_le (by omega) (by omega)) z⟩
          rw [pk_div (by omega) (by decide) (by decide)]
          have e : meetS Z = (([], Z.2.1, Z.2.2.1, Z.2.2.2.1, some (q.1, q.2.1, q.2.2.1, q.2.2.2.1, metL Z.1)), nI (Z.1.length / 3)) := by
            unfold meetS
            rw [hq]
            dsimp only
            rw [if_pos hm]
          rw [e]
          have len : (metL Z.1).length = Z.1.length / 3 := by unfold metL; rw [List.length_map, List.length_range]
          have cpl : ∀ s j (f0 : FI), s + j = Z.1.length / 3 → f0 B 64 = nI (Z.1.length / 3) → f0 B 1 = nI 0 → (∀ r k, ¬ (B + 34 ≤ r ∧ r ≤ B + 36) → ¬ (r = B ∧ (k = 1 ∨ k = 64)) → f0 r k = f r k) → (∀ i, i < j → f0 (B + 34) i = nI (Z.1.getD (3 * i) 0) ∧ f0 (B + 35) i = nI (Z.1.getD (3 * i + 1) 0) ∧ f0 (B + 36) i = nI (Z.1.getD (3 * i + 2) 0)) → LpX12_meet_118 l G d (RQ B sh fR f g ([], Z.2.1, Z.2.2.1, Z.2.2.2.1, some (q.1, q.2.1, q.2.2.1, q.2.2.2.1, metL Z.1)) (nI (Z.1.length / 3))) sh fR B f0 g (nI j) := by
            intro s
            induction s with
            | zero =>
              intro j f0 hj' h64 h1 hf hr
              refine VX12_meet_118 hs ?_
              rw [h64]
              refine ⟨fun _ => ⟨_, _, rfl, rfl, ⟨⟨h1, fun k b hk => (by cases hk)⟩, fun i hi => by rw [hf _ _ (by omega) (by omega)]; exact x2 i hi, x3, ?_⟩, fun r k z => hf r k (by omega) (by omega)⟩, fun c => absurd (nI_le (by omega) (by omega)) c⟩
              rw [hq] at x4
              refine x4.met (fun r k z h1 h2 => hf r k h1 (by unfold kpM at z; omega)) (by rw [h64, len]) (fun k r hk => ?_)
              have hk' : k < Z.1.length / 3 := by
                have := (List.getElem?_eq_some_iff.mp hk).1
                rw [← len]; exact this
              have er : r = (Z.1.getD (3 * k) 0, Z.1.getD (3 * k + 1) 0, Z.1.getD (3 * k + 2) 0) := by
                have hk2 : (metL Z.1)[k]? = some r := hk
                unfold metL at hk2
                rw [List.getElem?_map, List.getElem?_range hk'] at hk2
                cases hk2
                rfl
              rw [er]
              exact hr k (by omega)
            | succ s ih =>
              intro j f0 hj' h64 h1 hf hr
              refine VX12_meet_118 hs ?_
              rw [h64, pk_mul, nI_add, nI_add, nI_add, clN (by omega), clN (by omega), clN (by omega), clN (by omega)]
              have g0 : f0 (B + 1) (3 * j) = nI (Z.1.getD (3 * j) 0) := by rw [hf _ _ (by omega) (by omega)]; exact (rd _ (by omega)).1
              have g1 : f0 (B + 1) (3 * j + 1) = nI (Z.1.getD (3 * j + 1) 0) := by rw [hf _ _ (by omega) (by omega)]; exact (rd _ (by omega)).1
              have g2 : f0 (B + 1) (3 * j + 2) = nI (Z.1.getD (3 * j + 2) 0) := by rw [hf _ _ (by omega) (by omega)]; exact (rd _ (by omega)).1
              rw [g0, g1, g2]
              refine ⟨fun c => absurd c (nI_ge (by omega) (by omega)), fun _ => ⟨inbN (by omega) (by decide), inbN (by omega) (by decide), inbN (by omega) (by decide), inbN (by omega) (by decide), inbN (by omega) (by decide), inbN (by omega) (by decide), ih (j + 1) _ (by omega) ?_ ?_ (fun r k h1 h2 => ?_) (fun i hi => ?_)⟩⟩
              · rw [up2_r (by omega), up2_r (by omega), up2_r (by omega)]; exact h64
              · rw [up2_r (by omega), up2_r (by omega), up2_r (by omega)]; exact h1
              · rw [up2_r (by omega), up2_r (by omega), up2_r (by omega)]; exact hf r k h1 h2
              · by_cases ei : i = j
                · subst ei
                  refine ⟨?_, ?_, ?_⟩
                  · rw [up2_r (by omega), up2_r (by omega), up2_eq]
                  · rw [up2_r (by omega), up2_eq]
                  · rw [up2_eq]
                · obtain ⟨z1, z2, z3⟩ := hr i (by omega)
                  refine ⟨?_, ?_, ?_⟩
                  · rw [up2_r (by omega), up2_r (by omega), up2_k ei]; exact z1
                  · rw [up2_r (by omega), up2_k ei, up2_r (by omega)]; exact z2
                  · rw [up2_k ei, up2_r (by omega), up2_r (by omega)]; exact z3
          exact cpl (Z.1.length / 3) 0 _ rfl up2_eq (by rw [up2_k (by decide), up2_eq]) (fun r k a b => by rw [up2_ne (by omega), up2_ne (by omega)]) (fun i hi => by omega)
        | succ r ih =>
          intro k hk hj
          obtain ⟨e0, l0⟩ := rd (3 * k) (by omega)
          obtain ⟨e1, l1⟩ := rd (3 * k + 1) (by omega)
          obtain ⟨e2, l2⟩ := rd (3 * k + 2) (by omega)
          have hkl : k < Z.1.length / 3 := by omega
          refine VX12_meet_41 hs ?_
          rw [nI_add, nI_add, nI_add, clN (by omega), clN (by omega), clN (by omega), up2_r (show B + 1 ≠ B by omega), up2_r (show B + 1 ≠ B by omega), up2_r (show B + 1 ≠ B by omega), e0, e1, e2]
          refine ⟨fun z => absurd z (nI_ge (by omega) (by omega)), fun _ => ⟨fun z => absurd z (by decide), fun _ => ⟨inbN (by omega) (by decide), fun z => VX12_meet_91 hs (bad _ (Or.inr (metOK_no hkl ?_))), fun z => ⟨inbN (by omega) (by decide), fun z1 => VX12_meet_91 hs (bad _ (Or.inr (metOK_no hkl ?_))), fun z1 => ⟨inbN (by omega) (by decide), fun z2 => VX12_meet_91 hs (bad _ (Or.inr (metOK_no hkl ?_))), fun z2 => ?_⟩⟩⟩⟩⟩
          · have := (nI_ltI (by decide) (by omega)).mp z
            unfold rowOK
            rw [decide_eq_false (by omega)]
            rfl
          · have := (nI_ltI (by decide) (by omega)).mp z1
            unfold rowOK
            rw [decide_eq_false (p := Z.1.getD (3 * k + 1) 0 ≤ 1) (by omega), Bool.and_false]
            rfl
          · have := (nI_ltI (by decide) (by omega)).mp z2
            unfold rowOK
            rw [decide_eq_false (p := Z.1.getD (3 * k + 2) 0 ≤ 200) (by omega), Bool.and_false]
          · have g0 : Z.1.getD (3 * k) 0 ≤ 60 := Nat.not_lt.mp (fun q => z (nI_lt q (by omega)))
            have g1 : Z.1.getD (3 * k + 1) 0 ≤ 1 := Nat.not_lt.mp (fun q => z1 (nI_lt q (by omega)))
            have g2 : Z.1.getD (3 * k + 2) 0 ≤ 200 := Nat.not_lt.mp (fun q => z2 (nI_lt q (by omega)))
            refine ih (k + 1) (by omega) (fun j hj' => ?_)
            rcases (show j < k ∨ j = k by omega) with y | y
            · exact hj j y
            · rw [y]
              unfold rowOK
              rw [decide_eq_true g0, decide_eq_true g1, decide_eq_true g2]
              rfl
      exact loop (Z.1.length / 3) 0 rfl (fun j hj => by omega)
theorem M_undo (hs : StM sh fR B) (h : MSt f g B Z) (hz : zOK Z) : Cl l G (d + 2) 0 0 mX12_undo [.ref B] (sh, f, g, fR) (RQ B sh fR f g (undoS Z).1 (undoS Z).2) := by
  refine VX12_undo hs ?_
  unfold undoS
  obtain ⟨b0, m0, -, -, -, -, -, -, h50, -⟩ := h.q hz
  cases hq : Z.2.2.2.2 with
  | none =>
    have e : qZ Z = q0 := by unfold qZ; rw [hq]; rfl
    rw [e] at h50
    exact ⟨fun c => absurd h50 c, fun _ => .ref h (by decide)⟩
  | some q =>
    have e : qZ Z = q := by unfold qZ; rw [hq]; rfl
    rw [e] at h50
    have ok := hz.2.2.2.2 q hq
    have h20 := ok.2.2.2.2.2.2.1
    dsimp only
    cases hl : q.2.2.2.1.getLast? with
    | none =>
      have e : q.2.2.2.1 = [] := List.getLast?_eq_none_iff.mp hl
      rw [e] at h50
      exact ⟨fun c => absurd h50 c, fun _ => .ref h (by decide)⟩
    | some w =>
      have hlen : 0 < q.2.2.2.1.length := List.length_pos_iff.mpr (fun z => by rw [z] at hl; cases hl)
      have hk : q.2.2.2.1[q.2.2.2.1.length - 1]? = some w := by rw [← List.getLast?_eq_getElem?]; exact hl
      obtain ⟨b, hb, h13, t⟩ := h.td hq
      obtain ⟨uf, u1, u2, u3⟩ := t.2.2.2.1
      obtain ⟨m, hR, hI⟩ := u3 _ w hk
      rw [h50, u2, pk_sub (by omega), nI_add, pk_rem (by omega) (by decide) (by decide), nI_add]
      refine ⟨fun _ => ?_, fun c => absurd c (nI_ne0 hlen (by omega))⟩
      refine C_copies hs (by omega) (by decide) (by omega) (hR.oth (x := nI (q.2.2.2.1.length - 1)) (r := B) (k := 50) (fun j a b => by omega)) (fun f1 c1 e1 => ?_)
      obtain ⟨x1, x2, x3, x4⟩ := h
      have oth : ∀ r k, ¬ lyr B 0 r k → ¬ (r = B ∧ k = 50) → f1 r k = f r k := fun r k h1 h2 => by rw [e1 r k h1, up2_ne h2]
      refine ⟨_, _, rfl, rfl, ⟨x1.keep (oth _ _ (by unfold lyr; omega) (by omega)) (fun k => oth _ _ (by unfold lyr; omega) (by omega)), fun i hi => by rw [oth _ _ (by unfold lyr; omega) (by omega)]; exact x2 i hi, x3, ?_⟩, fun r k z => oth r k (by unfold lyr; omega) (by omega)⟩
      rw [hq] at x4
      refine MSr.act (uf' := uf) x4 (fun r k a b c => oth r k (by unfold lyr; omega) (by omega)) (fun _ => rfl) ⟨m, c1, hI⟩ u1 (by rw [oth _ _ (by unfold lyr; omega) (by omega)]; exact u2) (by rw [e1 _ _ (by unfold lyr; omega), up2_eq, List.length_dropLast]) (fun k w' hk' => ?_)
      have hkl := (List.getElem?_eq_some_iff.mp hk').1
      rw [List.length_dropLast] at hkl
      rw [List.getElem?_dropLast, if_pos hkl] at hk'
      obtain ⟨m', v1, v2⟩ := u3 k w' hk'
      exact ⟨m', v1.oly (u := 0) (by omega) (fun j i a b c => oth _ _ c (by omega)), v2⟩
end MW
