/-! the class: what was met; undoing -/
section TF
variable {l : Launch} {G : Gx} {d : Nat} {sh : Sh} {fR : FRt} {A x u : Nat} {f : FI} {g : FL} {Z : Zs}
def rowOK (tp : List Nat) (k : Nat) : Bool := decide (tp.getD (3 * k) 0 ≤ 60) && decide (tp.getD (3 * k + 1) 0 ≤ 1) && decide (tp.getD (3 * k + 2) 0 ≤ 200)
theorem metOK_eq (tp : List Nat) : metOK tp = (decide (0 < tp.length) && decide (tp.length % 3 = 0) && decide (tp.length ≤ 48) && (List.range (tp.length / 3)).all (rowOK tp)) := rfl
theorem metOK_no {tp : List Nat} {k : Nat} (hk : k < tp.length / 3) (h : rowOK tp k = false) : metOK tp = false := by
  rw [metOK_eq]
  have : (List.range (tp.length / 3)).all (rowOK tp) = false := by
    rw [List.all_eq_false]
    exact ⟨k, List.mem_range.mpr hk, by rw [h]; decide⟩
  rw [this, Bool.and_false]
theorem metOK_yes {tp : List Nat} (h0 : 0 < tp.length) (h3 : tp.length % 3 = 0) (h48 : tp.length ≤ 48) (h : ∀ k, k < tp.length / 3 → rowOK tp k = true) : metOK tp = true := by
  rw [metOK_eq, decide_eq_true h0, decide_eq_true h3, decide_eq_true h48]
  have : (List.range (tp.length / 3)).all (rowOK tp) = true := List.all_eq_true.mpr (fun k hk => h k (List.mem_range.mp hk))
  rw [this]
  rfl
theorem metOK_t {tp : List Nat} (h : metOK tp = true) : 0 < tp.length ∧ tp.length % 3 = 0 ∧ tp.length ≤ 48 ∧ ∀ k, k < tp.length / 3 → tp.getD (3 * k) 0 ≤ 60 ∧ tp.getD (3 * k + 1) 0 ≤ 1 ∧ tp.getD (3 * k + 2) 0 ≤ 200 := by
  unfold metOK at h
  simp only [Bool.and_eq_true, decide_eq_true_eq, List.all_eq_true, List.mem_range] at h
  obtain ⟨⟨⟨h1, h2⟩, h3⟩, h4⟩ := h
  exact ⟨h1, h2, h3, fun k hk => ⟨(h4 k hk).1.1, (h4 k hk).1.2, (h4 k hk).2⟩⟩
theorem D_isMet {K : Int32 → FI → FL → Prop} {tp : List Nat} (hs : StA sh fR A) (hp : fR A 5 = some u) (hn : fR (A + 40) 7 = some u) (hP : StPl sh fR u) (hl : tp.length ≤ 1600) (hb : ∀ b ∈ tp, b < 256) (ht : ∀ (k b : Nat), tp[k]? = some b → f (A + 1) k = nI b) (H : K (bI (metOK tp)) f g) : Cl l G d 0 0 mX11_isMet [.ref A, .int (nI tp.length)] (sh, f, g, fR) (qi sh fR K) := by
  have rd : ∀ k, k < tp.length → f (A + 1) k = nI (tp.getD k 0) ∧ tp.getD k 0 < 256 := fun k hk => by
    have e : tp[k]? = some tp[k] := List.getElem?_eq_getElem hk
    rw [List.getD_eq_getElem?_getD, e]
    exact ⟨ht k _ e, hb _ (List.getElem_mem _)⟩
  have no : metOK tp = false → qi sh fR K (some (.int (nI 0))) (sh, f, g, fR) := fun e => ⟨_, _, _, rfl, rfl, by rw [e] at H; exact H⟩
  refine VX11_isMet hs hp hn hP ?_
  refine ⟨fun c => no ?_, fun c => ⟨fun c2 => no ?_, fun c2 => ?_⟩⟩
  · rw [metOK_eq, decide_eq_false (by have := (nI_eq (a := tp.length) (b := 0) (by omega) (by decide)).mp c; omega)]
    rfl
  · have h48 := (nI_ltI (by decide) (by omega)).mp c2
    rw [metOK_eq, decide_eq_false (p := tp.length ≤ 48) (by omega), Bool.and_false]
    rfl
  · have h48 : tp.length ≤ 48 := Nat.not_lt.mp (fun z => c2 (nI_lt z (by omega)))
    have h0 : 0 < tp.length := Nat.pos_of_ne_zero (fun z => c (by rw [z]; rfl))
    rw [pk_rem (by omega) (by decide) (by decide)]
    refine ⟨fun c3 => ?_, fun c3 => no ?_⟩
    · have h3 : tp.length % 3 = 0 := (nI_eq (b := 0) (by omega) (by decide)).mp c3
      have loop : ∀ r k, r + k = tp.length / 3 → (∀ j, j < k → rowOK tp j = true) → LpX11_isMet_20 l G d (qi sh fR K) sh fR A u f g (nI tp.length) (nI (3 * k)) := by
        intro r
        induction r with
        | zero =>
          intro k hk hj
          refine VX11_isMet_20 hs hp hn hP ⟨fun _ => ⟨_, _, _, rfl, rfl, ?_⟩, fun z => absurd (nI_le (by omega) (by omega)) z⟩
          rw [metOK_yes h0 h3 h48 (fun j hj' => hj j (by omega))] at H
          exact H
        | succ r ih =>
          intro k hk hj
          obtain ⟨e0, l0⟩ := rd (3 * k) (by omega)
          obtain ⟨e1, l1⟩ := rd (3 * k + 1) (by omega)
          obtain ⟨e2, l2⟩ := rd (3 * k + 2) (by omega)
          refine VX11_isMet_20 hs hp hn hP ?_
          rw [nI_add, nI_add, nI_add, clN (by omega), clN (by omega), clN (by omega), e0, e1, e2]
          refine ⟨fun z => absurd z (nI_ge (by omega) (by omega)), fun _ => ⟨inbN (by omega) (by decide), fun z => no (metOK_no (show k < tp.length / 3 by omega) ?_), fun z => ⟨inbN (by omega) (by decide), fun z1 => no (metOK_no (show k < tp.length / 3 by omega) ?_), fun z1 => ⟨inbN (by omega) (by decide), fun z2 => ?_, fun z2 => no (metOK_no (show k < tp.length / 3 by omega) ?_)⟩⟩⟩⟩
          · have := (nI_ltI (by decide) (by omega)).mp z
            unfold rowOK
            rw [decide_eq_false (by omega)]
            rfl
          · have := (nI_ltI (by decide) (by omega)).mp z1
            unfold rowOK
            rw [decide_eq_false (p := tp.getD (3 * k + 1) 0 ≤ 1) (by omega), Bool.and_false]
            rfl
          · have g0 : tp.getD (3 * k) 0 ≤ 60 := Nat.not_lt.mp (fun q => z (nI_lt q (by omega)))
            have g1 : tp.getD (3 * k + 1) 0 ≤ 1 := Nat.not_lt.mp (fun q => z1 (nI_lt q (by omega)))
            have g2 : tp.getD (3 * k + 2) 0 ≤ 200 := Nat.not_lt.mp (fun q => absurd z2 (nI_ge q (by omega)))
            refine ih (k + 1) (by omega) (fun j hj' => ?_)
            rcases (show j < k ∨ j = k by omega) with q | q
            · exact hj j q
            · rw [q]
              unfold rowOK
              rw [decide_eq_true g0, decide_eq_true g1, decide_eq_true g2]
              rfl
          · unfold rowOK
            rw [decide_eq_false (p := tp.getD (3 * k + 2) 0 ≤ 200) (fun q => z2 (nI_le q (by decide))), Bool.and_false]
      exact loop (tp.length / 3) 0 rfl (fun j hj => by omega)
    · rw [metOK_eq, decide_eq_false (p := tp.length % 3 = 0) (fun z => c3 (by rw [z]; rfl)), Bool.and_false]
      rfl
theorem PSr.met {f' : FI} {v : Nat} {fl : Option (Nat × Nat)} {q : Td} {ms : List (Nat × Nat × Nat)} (hr : PRs sh fR A u v) (h : PSr fR f A u fl (some q)) (e : ∀ r k, kpP A u r k → r ≠ A + 105 → ¬ (r = A ∧ k = 14) → f' r k = f r k) (h14 : f' A 14 = nI ms.length) (hm : ∀ (k : Nat) (r : Nat × Nat × Nat), ms[k]? = some r → f' (A + 105) (3 * k) = nI r.1 ∧ f' (A + 105) (3 * k + 1) = nI r.2.1 ∧ f' (A + 105) (3 * k + 2) = nI r.2.2) : PSr fR f' A u fl (some (q.1, q.2.1, q.2.2.1, q.2.2.2.1, ms)) := by
  obtain ⟨-, -, hu1, hu2, -, -⟩ := hr.pl
  obtain ⟨F, hF⟩ : ∃ F : FI, ∀ r k, F r k = if r = A ∧ k = 14 ∨ r = A + 105 then f r k else f' r k := ⟨_, fun _ _ => rfl⟩
  have ev : ∀ r k, ¬ (r = A ∧ k = 14 ∨ r = A + 105) → F r k = f' r k := fun r k z => by rw [hF, if_neg z]
  have kept : PSr fR F A u fl (some q) := PSr.keep hr h (fun r k z => by
    rw [hF]
    split
    · rfl
    · rename_i hne
      exact e r k z (by omega) (by omega))
  obtain ⟨y4, y5, y6, nb, y7, y8, s1, s2, s3, s4, s5, -, -⟩ := kept
  refine ⟨?_, fun k o hk => ?_, ?_, nb, y7, ?_, ?_, fun p hp => ?_, ?_, ?_, fun k w hk => ?_, h14, hm⟩
  · unfold PFl at y4 ⊢
    split at y4
    · rw [ev _ _ (by omega)] at y4; exact y4
    · rw [ev _ _ (by omega), ev _ _ (by omega)] at y4; exact y4
  · have := y5 k o hk; rw [ev _ _ (by omega)] at this; exact this
  · rw [ev _ _ (by omega)] at y6; exact y6
  · rw [ev _ _ (by omega)] at y8; exact y8
  · exact s1.keep (fun r k a b _ _ _ _ => (ev r k (by omega)).symm)
  · have := s2 p hp; rw [ev _ _ (by omega)] at this; exact this
  · exact s3.keep (fun c hc j k hj ec => (ev _ _ (by omega)).symm)
  · rw [ev _ _ (by omega)] at s4; exact s4
  · obtain ⟨y, y1, y2, y3⟩ := s5 k w hk
    have hy := hr.2.2.2.2.2.2.2.2.1 _ y (Nat.mod_lt _ (by decide)) y1
    exact ⟨y, y1, y2, y3.keep (fun c hc j k hj ec => (ev _ _ (by omega)).symm)⟩
theorem P_meet (h : PSt sh fR f A Z) (hz : zOK Z) : Cl l G (d + 1) 0 0 mX11_meet [.ref A] (sh, f, g, fR) (RP A sh fR f g (meetS Z).1 (meetS Z).2) := by
  obtain ⟨u, v, hr, hs, hp, hn, hP, hx⟩ := h.at
  have hu := hr.pl
  have hA := hs.2.2.1
  have hl := hz.1
  refine VX11_meet hs hp hn hP ?_
  intro w1 hw1
  rw [hx.1.1] at hw1
  subst hw1
  have bad : RP A sh fR f g ([], (zRef Z 5).2) (-1) (some (.int (-1))) (sh, up2 (up2 f A 1 (nI 0)) (A + 2) 5 (f (A + 2) 5 + nI 1), g, fR) := by
    obtain ⟨x1, x2, x3, x4⟩ := hx
    refine ⟨_, _, _, rfl, rfl, ⟨u, v, hr, ⟨?_, fun k b hk => (by cases hk)⟩, fun i hi => ?_, by rw [up2_r (by omega), up2_r (by omega)]; exact x3, PSr.keep hr x4 (fun r k z => by rw [up2_r (by unfold kpP at z; omega), up2_ne (by unfold kpP at z; omega)])⟩, fun r k z => ⟨by rw [up2_r (by omega), up2_r (by omega)], rfl⟩, fun _ _ => rfl⟩
    · rw [up2_r (by omega), up2_eq]; rfl
    · show _ = nI (fu Z.2.1 5 (Z.2.1 5 + 1) i)
      unfold fu
      by_cases ei : i = 5
      · subst ei; rw [up2_eq, if_pos rfl, x2 5 (by decide), nI_add]
      · rw [up2_k ei, if_neg ei, up2_r (by omega)]; exact x2 i hi
  unfold meetS
  cases ht : Z.2.2.2.2 with
  | none => exact ⟨fun _ => bad, fun c => absurd (hx.no ht) c⟩
  | some q =>
    obtain ⟨h4, na, hna, h11, t⟩ := hx.td ht
    refine ⟨fun c => absurd c h4, fun _ => ?_⟩
    refine D_isMet hs hp hn hP hl hz.2.1 (fun k b hk => by rw [up2_r (by omega)]; exact hx.1.2 k b hk) ?_
    dsimp only
    cases hm : metOK Z.1 with
    | false =>
      rw [up2_r (show A + 2 ≠ A by omega)]
      exact ⟨fun c => absurd rfl c, fun _ => bad⟩
    | true =>
      obtain ⟨m0, m3, m48, mr⟩ := metOK_t hm
      rw [clN (by omega), pk_div (by omega) (by decide) (by decide)]
      refine ⟨fun _ => ⟨acOKN (by omega) (by omega) (by decide) (by decide), ?_⟩, fun c => absurd c (by decide)⟩
      obtain ⟨x1, x2, x3, x4, x5, x6, na', x7, x8, x9⟩ := hx
      rw [ht] at x9
      have oth : ∀ r k, r ≠ A + 105 → ¬ (r = A ∧ (k = 1 ∨ k = 14)) → up2 (cpy (up2 f A 1 (nI 0)) (A + 1) (A + 105) 0 0 Z.1.length) A 14 (nI (Z.1.length / 3)) r k = f r k := fun r k h1 h2 => by
        rw [up2_ne (by omega), cpy_r h1, up2_ne (by omega)]
      have len : (metL Z.1).length = Z.1.length / 3 := by unfold metL; rw [List.length_map, List.length_range]
      refine ⟨_, _, _, rfl, rfl, ⟨u, v, hr, ⟨?_, fun k b hk => (by cases hk)⟩, fun i hi => by rw [oth _ _ (by omega) (by omega)]; exact x2 i hi, by rw [oth _ _ (by omega) (by omega)]; exact x3, ?_⟩, fun r k z => ⟨oth r k (by omega) (by omega), rfl⟩, fun _ _ => rfl⟩
      · rw [up2_k (by decide), cpy_r (by omega), up2_eq]; rfl
      · refine PSr.met hr (show PSr fR f A u Z.2.2.2.1 (some q) from ⟨x4, x5, by rw [ht] at x6; exact x6, na', x7, x8, x9⟩) (fun r k z h1 h2 => oth r k h1 (by unfold kpP at z; omega)) (by rw [up2_eq, len]) (fun k r hk => ?_)
        have hk' : k < Z.1.length / 3 := by
          have := (List.getElem?_eq_some_iff.mp hk).1
          rw [← len]; exact this
        have er : r = (Z.1.getD (3 * k) 0, Z.1.getD (3 * k + 1) 0, Z.1.getD (3 * k + 2) 0) := by
          have hk2 : (metL Z.1)[k]? = some r := hk
          unfold metL at hk2
          rw [List.getElem?_map, List.getElem?_range hk'] at hk2
          cases hk2
          rfl
        have rdc : ∀ i, i < Z.1.length → up2 (cpy (up2 f A 1 (nI 0)) (A + 1) (A + 105) 0 0 Z.1.length) A 14 (nI (Z.1.length / 3)) (A + 105) i = nI (Z.1.getD i 0) := fun i hi => by
          have e : Z.1[i]? = some Z.1[i] := List.getElem?_eq_getElem hi
          rw [up2_r (by omega), cpy_in (Nat.zero_le _) (by omega), up2_r (by omega), show 0 + (i - 0) = i by omega, x1.2 i _ e, List.getD_eq_getElem?_getD, e]
          rfl
        rw [er]
        exact ⟨rdc _ (by omega), rdc _ (by omega), rdc _ (by omega)⟩
end TF
