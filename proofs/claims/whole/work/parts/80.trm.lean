/-! the reference: window, odds, meet, undo -/
section MV
variable {l : Launch} {G : Gx} {d : Nat} {sh : Sh} {fR : FRt} {B b win x : Nat} {f f1 : FI} {g g1 : FL} {Z : Zs} {π : Pl} {dl : Nat → Nat} {w : Wd} {q : Td}
theorem C_isFinishedBy {K : Int32 → FI → FL → Prop} {n v : Nat} (hs : StM sh fR B) (h : MSt f g B Z) (hz : zOK Z) (hq : Z.2.2.2.2 = some q) (hn : n ≤ 200) (hv : v ≤ 99) (h9 : q.2.2.1.1 0 + n ≤ 999) (H : ∀ (f' : FI) (g' : FL), FrU B f f' → FrG B g g' → K (bI (finS q.1 v q.2.1 q.2.2.1 n).isSome) f' g') : Cl l G (d + 7) 0 0 mX12_isFinishedBy [.ref B, .int (nI n), .int (nI v)] (sh, f, g, fR) (qi sh fR K) := by
  obtain ⟨b, hb, h13, h2, h6, hX, hT, h60, h51, hg⟩ := h.rx hq hz
  have ok := hz.2.2.2.2 q hq
  have hl := ok.1.1
  refine VX12_isFinishedBy hs ?_
  refine C_try hs hX (fun f1 a1 i1 e1 => ?_)
  have T1 := hT.u i1
  have T2 : TM (up2 f1 B 52 (nI v)) B b q.1 v q.2.1 := ⟨T1.1.congr (fun j _ _ i => up2_r (by omega)) (up2_k (by decide)), up2_eq, fun p hp => by rw [up2_r (by omega)]; exact T1.2.2.1 p hp, hv, T1.2.2.2.2⟩
  have a2 : HM (up2 f1 B 52 (nI v)) B 1 q.1 q.2.2.1 := by
    obtain ⟨m, hR, hI⟩ := a1
    exact ⟨m, hR.oth (fun j a b => by omega), hI⟩
  have loop : ∀ r k (f0 : FI) (g0 : FL), r + k = n → RX f0 g0 B b q.1 v q.2.1 (runS q.1 v q.2.1 k q.2.2.1) Z.2.2.1 → (runS q.1 v q.2.1 k q.2.2.1).1 0 = q.2.2.1.1 0 + k → FrU B (up2 f1 B 52 (nI v)) f0 → FrG B g g0 → LpX12_isFinishedBy_13 l G d (qi sh fR K) sh fR B f0 g0 (nI n) (nI k) := by
    intro r
    induction r with
    | zero =>
      intro k f0 g0 hk a0 t0 i0 j0
      have e : k = n := by omega
      subst e
      obtain ⟨m, hR, -⟩ := a0.1
      have hTM := a0.2.2.1
      have hle := a0.2.1.2.1.2.2.1
      have hwin : f B 52 = nI (q.1.1 3) := hT.2.1
      have fin : FrU B f (up2 f0 B 52 (nI (q.1.1 3))) := fun r k' a b c d e i => by
        by_cases z : r = B ∧ k' = 52
        · rw [z.1, z.2, up2_eq, hwin]
        · rw [up2_ne z, i0 r k' a b c d e i, up2_ne z]
          exact i1 r k' a b c d e i
      refine VX12_isFinishedBy_13 hs ?_
      rw [hTM.1.1, clN (by omega), hTM.1.2.2.1, hTM.1.2.2.2.2.1]
      simp (disch := omega) only [pk_mul, nI_add, clN]
      rw [show f0 (B + 23) (40 * 1 + 2) = nI ((runS q.1 v q.2.1 k q.2.2.1).1 2) from hR.1 2 (by unfold nset; omega)]
      refine ⟨fun _ => ⟨inbN hb (by decide), inbN (by omega) (by decide), inbN hb (by decide), fun c => ⟨_, _, _, rfl, rfl, ?_⟩, fun c => ⟨_, _, _, rfl, rfl, ?_⟩⟩, fun c => absurd (nI_le (Nat.le_refl _) (by omega)) c⟩
      · have hne : (runS q.1 v q.2.1 k q.2.2.1).1 2 ≠ q.1.1 1 := fun z => c (by rw [z])
        have := H _ g0 fin j0
        rw [show finS q.1 v q.2.1 q.2.2.1 k = none from findR_none (fun j hj => by
          unfold finB
          have hm := runS_2 (π := q.1) (win := v) (dl := q.2.1) q.2.2.1 j (k - j)
          rw [show j + (k - j) = k by omega] at hm
          rw [show ((runS q.1 v q.2.1 j q.2.2.1).1 2 == q.1.1 1) = false from by simp; omega, Bool.and_false])] at this
        exact this
      · have heq := (nI_eq (by omega) (by omega)).mp c
        have hs : (finS q.1 v q.2.1 q.2.2.1 k).isSome = true := by
          unfold finS
          rw [List.find?_isSome]
          exact ⟨k, List.mem_range.mpr (by omega), by unfold finB; rw [heq, decide_eq_true h9]; simp⟩
        have := H _ g0 fin j0
        rw [hs] at this
        exact this
    | succ r ih =>
      intro k f0 g0 hk a0 t0 i0 j0
      refine VX12_isFinishedBy_13 hs ?_
      refine ⟨fun c => absurd c (nI_ge (by omega) (by omega)), fun _ => C_step1 hs ok.1 ok.dl a0 hz.2.2.1 (by omega) (fun f2 g2 a2 t2 _ _ _ i2 j2 _ => ?_)⟩
      rw [nI_add]
      exact ih (k + 1) f2 g2 (by omega) a2 (by show (tickS q.1 v q.2.1 false (runS q.1 v q.2.1 k q.2.2.1) 0).1.1 0 = _; rw [t2, t0]; omega) (i0.tr i2) (j0.tr j2)
  exact loop n 0 _ g rfl ⟨a2, hg, T2, by rw [up2_k (by decide), e1 _ _ (by unfold lyr; omega)]; exact h60, h51⟩ rfl FrU.rf FrG.rf
theorem M_window {a : Int32} (hs : StM sh fR B) (h : MSt f g B Z) (hz : zOK Z) : Cl l G (d + 8) 0 0 mX12_window [.ref B, .int a] (sh, f, g, fR) (RQ B sh fR f g Z (windowS Z a)) := by
  refine VX12_window hs ?_
  refine C_ahead hs h hz (by decide) (by decide) (fun q n hq h1 hn ea h9 => ⟨fun _ => ?_, fun c => absurd c (by decide)⟩) (fun hno => ⟨fun c => absurd rfl c, fun _ => .is h ?_⟩)
  · subst ea
    obtain ⟨b, hb, h13, h2, h6, hX, hT, h60, h51, hg⟩ := h.rx hq hz
    have ok := hz.2.2.2.2 q hq
    have hu20 := ok.1.2.1
    have e : windowS Z (nI n) = oI (winS q.1 q.2.1 q.2.2.1 n) := by
      unfold windowS
      rw [hq]
      dsimp only
      rw [ixS_in (show n < 201 by omega) (by decide)]
      dsimp only
      rw [if_neg (by omega)]
    rw [e, h13, clN (by omega), hT.1.2.2.2.1]
    refine ⟨inbN hb (by decide), fun w6 hw6 => ?_⟩
    subst hw6
    have loop : ∀ r k (f0 : FI) (g0 : FL), r + k = 100 → q.1.1 2 ≤ k → (∀ j, j < k → (decide (q.1.1 2 ≤ j) && (finS q.1 j q.2.1 q.2.2.1 n).isSome) = false) → FrU B f f0 → FrG B g g0 → LpX12_window_24 l G d (RQ B sh fR f g Z (oI (winS q.1 q.2.1 q.2.2.1 n))) sh fR B f0 g0 (nI n) (nI k) := by
      intro r
      induction r with
      | zero =>
        intro k f0 g0 hk hk2 hj i0 j0
        refine VX12_window_24 hs ⟨fun _ => FrU.rq h i0 j0 ?_, fun c => absurd (nI_lt (by omega) (by omega)) c⟩
        rw [show winS q.1 q.2.1 q.2.2.1 n = none from findR_none (fun j hj' => hj j (by omega))]
        rfl
      | succ r ih =>
        intro k f0 g0 hk hk2 hj i0 j0
        refine VX12_window_24 hs ⟨fun c => absurd (nI_le (show k ≤ 99 by omega) (by decide)) (Int32.not_le.mpr c), fun _ => ?_⟩
        refine C_isFinishedBy hs (i0.m h j0) hz hq hn (by omega) h9 (fun f2 g2 i2 j2 => ⟨fun c => ?_, fun c => FrU.rq h (i0.tr i2) (j0.tr j2) ?_⟩)
        · rw [nI_add]
          refine ih (k + 1) f2 g2 (by omega) (by omega) (fun j hj' => ?_) (i0.tr i2) (j0.tr j2)
          rcases (show j < k ∨ j = k by omega) with z | z
          · exact hj j z
          · rw [z, bI_0.mp c, Bool.and_false]
        · rw [show winS q.1 q.2.1 q.2.2.1 n = some k from findR_some hj (by rw [bI_ne0 c, decide_eq_true hk2]; rfl) (by omega)]
          rfl
    exact loop (100 - q.1.1 2) (q.1.1 2) f g (by omega) (Nat.le_refl _) (fun j hj => by rw [decide_eq_false (by omega)]; rfl) FrU.rf FrG.rf
  · unfold windowS
    cases hq : Z.2.2.2.2 with
    | none => rfl
    | some q =>
      dsimp only
      cases hx : ixS a 201 with
      | none => rfl
      | some n =>
        obtain ⟨hn, ea⟩ := ixS_some (by decide) hx
        dsimp only
        rw [if_pos]
        by_cases c : n = 0
        · exact Or.inl c
        · exact Or.inr (hno q n hq ea (by omega) (by omega) (by omega))
theorem M_odds {a : Int32} (hs : StM sh fR B) (h : MSt f g B Z) (hz : zOK Z) : Cl l G (d + 7) 0 0 mX12_odds [.ref B, .int a] (sh, f, g, fR) (RQ B sh fR f g Z (oddsS Z a)) := by
  have no : (∀ q j, Z.2.2.2.2 = some q → ixS a 2 = some j → 999 < q.2.2.1.1 0 + 1) → oddsS Z a = -1 := fun hno => by
    unfold oddsS
    cases hq : Z.2.2.2.2 with
    | none => rfl
    | some q =>
      dsimp only
      cases hx : ixS a 2 with
      | none => rfl
      | some n =>
        dsimp only
        rw [if_pos (hno q n hq hx)]
  refine VX12_odds hs ?_
  refine D_is (n := 2) hs (by decide) (by decide) (fun j hj ej => ⟨fun c => absurd c (by decide), fun _ => ?_⟩) (fun z => ⟨fun _ => .is h (no (fun q j _ e => by rw [z] at e; cases e)).symm, fun c => absurd rfl c⟩)
  subst ej
  refine C_ahead hs h hz (by decide) (by decide) (fun q n hq h1 hn ea h9 => ⟨fun _ => ?_, fun c => absurd c (by decide)⟩) (fun hno => ⟨fun c => absurd rfl c, fun _ => .is h (no (fun q j' hq' _ => hno q 1 hq' rfl (by decide) (by decide) (by decide))).symm⟩)
  obtain ⟨b, hb, h13, h2, h6, hX, hT, h60, h51, hg⟩ := h.rx hq hz
  have ok := hz.2.2.2.2 q hq
  have h5 := ok.1.2.2.2.2.1
  have e : oddsS Z (nI j) = if (tickS q.1 (q.1.1 3) q.2.1 false q.2.2.1 0).2.1 = 0 then -1 else if j = 1 then nI 100 else if (tickS q.1 (q.1.1 3) q.2.1 false q.2.2.1 0).2.2.2.1 then nI 0 else nI (100 - q.1.1 5) := by
    unfold oddsS
    rw [hq]
    dsimp only
    rw [ixS_in hj (by decide)]
    dsimp only
    rw [if_neg (by omega)]
  rw [e]
  refine C_try hs hX (fun f1 a1 i1 e1 => ?_)
  refine C_step1 hs ok.1 ok.dl ⟨a1, hg, hT.u i1, by rw [e1 _ _ (by unfold lyr; omega)]; exact h60, h51⟩ hz.2.2.1 (by omega) (fun f2 g2 a2 t2 k61 k1000 k63 i2 j2 _ => ?_)
  have i3 := i1.tr i2
  rw [k61, k63, a2.2.2.1.1.1, clN (by omega), a2.2.2.1.1.2.2.2.2.2.2.1, pk_sub h5]
  refine ⟨fun c => ⟨fun c1 => ⟨fun c2 => ⟨inbN hb (by decide), FrU.rq h i3 j2 ?_⟩, fun c2 => FrU.rq h i3 j2 ?_⟩, fun c1 => FrU.rq h i3 j2 ?_⟩, fun c => FrU.rq h i3 j2 ?_⟩
  · rw [if_neg (fun z => c (by rw [z]; rfl)), if_neg (fun z => c1 (by rw [z])), if_neg (by rw [bI_0.mp c2]; decide)]
  · rw [if_neg (fun z => c (by rw [z]; rfl)), if_neg (fun z => c1 (by rw [z])), if_pos (bI_ne0 c2)]
  · rw [if_neg (fun z => c (by rw [z]; rfl)), if_pos ((nI_eq (by omega) (by decide)).mp c1)]
  · rw [if_pos ((nI_eq (b := 0) (by omega) (by decide)).mp c)]
end MV
