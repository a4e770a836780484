/-! trials of the class: how long it takes -/
theorem findR_some {p : Nat → Bool} {n k : Nat} (h : ∀ j, j < k → p j = false) (hk : p k = true) (hn : k < n) : (List.range n).find? p = some k := by
  rw [List.find?_range_eq_some]
  exact ⟨hk, List.mem_range.mpr hn, fun j hj => by rw [h j hj]; rfl⟩
theorem findR_none {p : Nat → Bool} {n : Nat} (h : ∀ j, j < n → p j = false) : (List.range n).find? p = none := by
  rw [List.find?_range_eq_none]
  exact fun j hj => by rw [h j hj]; rfl
theorem WS.die {w : Wd} (h : WS w.2.2.1) (p : Nat) : WS (dieS w p).2.2.1 := by
  unfold dieS
  split
  · exact h
  · show WS (w.2.2.1.map _)
    unfold WS
    rw [List.pairwise_map]
    refine List.Pairwise.imp ?_ h
    intro a b hab
    have e : ∀ (c : Bool) (s : Sg), (if c = true then sgFl s false else s).2.2.2.2.1 = s.2.2.2.2.1 := fun c s => by cases c <;> rfl
    rw [e, e]
    exact hab
theorem gX.die {π : Pl} {w : Wd} (h : gX π w) (p : Nat) : gX π (dieS w p) ∧ (dieS w p).1 0 = w.1 0 := by
  have e : (dieS w p).1 0 = w.1 0 := by rw [dieS_1]
  refine ⟨⟨by rw [e]; exact h.1, ?_, h.2.2.die p⟩, e⟩
  rw [e]
  exact h.2.1.die (Nat.le_refl _)
section TD
variable {l : Launch} {G : Gx} {d : Nat} {sh : Sh} {fR : FRt} {A x u win : Nat} {f : FI} {g : FL} {Z : Zs} {π : Pl} {dl : Nat → Nat} {w : Wd}
theorem D_ticksToFinish {K : Int32 → FI → FL → Prop} {v N : Nat} (hr : PRs sh fR A u v) (hu : fR (A + 72) 7 = some u) (hπ : πOK π) (hwin : win ≤ 99) (hdl : ∀ p, p < π.1 6 → 1 ≤ dl p ∧ dl p ≤ 9) (hd9 : ∀ p, dl p ≤ 9999) (hX : HX f (A + 72) π win dl w) (hc : CP f u π) (hg : gX π w) (h0 : w.1 0 ≤ 999) (hN : N ≤ 200) (H : ∀ f' : FI, CP f' u π → FrT A u f f' → K (oI (finS π win dl w N)) f' g) : Cl l G (d + 6) 0 0 mX11_ticksToFinish [.ref A, .int (nI N)] (sh, f, g, fR) (qi sh fR K) := by
  obtain ⟨hU, -, hu1, hu2, -, -⟩ := hr.pl
  obtain ⟨hs, hp, hn⟩ : StA sh fR A ∧ fR A 5 = some u ∧ fR (A + 40) 7 = some u := ⟨hr.1, hr.2.2.1, hr.2.2.2.2.1⟩
  have hW := hs.2.2.2.2.1
  have hl := hπ.1
  refine VX11_ticksToFinish hs hp hn hU ?_
  have loop : ∀ r k (f0 : FI), r + k = N → (∀ j, j < k → finB π win dl w j = false) → HX f0 (A + 72) π win dl (runS π win dl k w) → gX π (runS π win dl k w) → (runS π win dl k w).1 0 = w.1 0 + k → w.1 0 + k ≤ 999 → CP f0 u π → FrT A u f f0 → LpX11_ticksToFinish_2 l G d (qi sh fR K) sh fR A u f0 g (nI N) (nI k) := by
    intro r
    induction r with
    | zero =>
      intro k f0 hk hf a b c h9 e i
      have hkN : k = N := by omega
      obtain ⟨m, hC, -⟩ := id a
      have h2 : f0 (A + 72) 10 = nI ((runS π win dl k w).1 2) := hC.1 2 (by unfold nset; omega)
      have hle := b.2.1.1.2.2.1
      refine VX11_ticksToFinish_2 hs hp hn hU ?_
      refine ⟨fun z => absurd (nI_le (show k ≤ N by omega) (by omega)) (Int32.not_le.mpr z), fun _ => VX10_isFinished hW hu hU ?_⟩
      rw [h2, hC.2.2.2.2.2.2.2.2.2.1]
      refine ⟨fun z => ⟨_, _, _, rfl, rfl, ⟨fun _ => ⟨fun _ => ⟨_, _, _, rfl, rfl, ?_⟩, fun z => absurd (by rw [hkN]) z⟩, fun z => absurd rfl z⟩⟩, fun z => ⟨_, _, _, rfl, rfl, ⟨fun z => absurd z (by decide), fun _ => ⟨_, _, _, rfl, rfl, ?_⟩⟩⟩⟩
      · have hlt := (nI_ltI (by omega) (by omega)).mp z
        have := H f0 e i
        rw [show finS π win dl w N = none from findR_none (fun j hj => by
          rcases (show j < k ∨ j = k by omega) with q | q
          · exact hf j q
          · rw [q]; unfold finB; rw [show ((runS π win dl k w).1 2 == π.1 1) = false from by simp; omega, Bool.and_false])] at this
        exact this
      · have hge : ¬ (runS π win dl k w).1 2 < π.1 1 := fun q => z (nI_lt q (by omega))
        have := H f0 e i
        rw [show finS π win dl w N = some k from findR_some hf (by unfold finB; rw [show ((runS π win dl k w).1 2 == π.1 1) = true from by simp; omega, decide_eq_true h9]; rfl) (by omega)] at this
        exact this
    | succ r ih =>
      intro k f0 hk hf a b c h9 e i
      obtain ⟨m, hC, -⟩ := id a
      have h2 : f0 (A + 72) 10 = nI ((runS π win dl k w).1 2) := hC.1 2 (by unfold nset; omega)
      have hle := b.2.1.1.2.2.1
      have h8 : f0 (A + 72) 8 = nI (w.1 0 + k) := by rw [hC.t8, c]
      refine VX11_ticksToFinish_2 hs hp hn hU ?_
      refine ⟨fun z => absurd (nI_le (show k ≤ N by omega) (by omega)) (Int32.not_le.mpr z), fun _ => VX10_isFinished hW hu hU ?_⟩
      rw [h2, hC.2.2.2.2.2.2.2.2.2.1]
      refine ⟨fun z => ⟨_, _, _, rfl, rfl, ⟨fun _ => ⟨fun z => ?_, fun _ => ?_⟩, fun z => absurd rfl z⟩⟩, fun z => ⟨_, _, _, rfl, rfl, ⟨fun z => absurd z (by decide), fun _ => ⟨_, _, _, rfl, rfl, ?_⟩⟩⟩⟩
      · have := (nI_eq (by omega) (by omega)).mp z
        omega
      · have hlt := (nI_ltI (by omega) (by omega)).mp z
        have hfk : finB π win dl w k = false := by unfold finB; rw [show ((runS π win dl k w).1 2 == π.1 1) = false from by simp; omega, Bool.and_false]
        have hf' : ∀ j, j < k + 1 → finB π win dl w j = false := fun j hj => by
          rcases (show j < k ∨ j = k by omega) with q | q
          · exact hf j q
          · rw [q]; exact hfk
        rw [h8]
        refine ⟨fun z => ?_, fun z => ⟨_, _, _, rfl, rfl, ?_⟩⟩
        · have ht := (nI_ltI (by omega) (by omega)).mp z
          refine D_stepX hW hu hU (by omega) a e hπ hwin hdl hd9 b (by omega) (fun f1 a1 b1 c1 _ e1 i1 => ?_)
          rw [nI_add]
          exact ih (k + 1) f1 (by omega) hf' a1 b1 (by show (tickS π win dl false (runS π win dl k w) 0).1.1 0 = _; rw [c1, c]; omega) (by omega) e1 (i.tr i1.t)
        · have ht : ¬ w.1 0 + k < 999 := fun q => z (nI_lt q (by omega))
          have := H f0 e i
          rw [show finS π win dl w N = none from findR_none (fun j hj => by
            rcases (show j < k + 1 ∨ k + 1 ≤ j by omega) with q | q
            · exact hf' j q
            · unfold finB; rw [decide_eq_false (by omega)]; rfl)] at this
          exact this
      · have hge : ¬ (runS π win dl k w).1 2 < π.1 1 := fun q => z (nI_lt q (by omega))
        have := H f0 e i
        rw [show finS π win dl w N = some k from findR_some hf (by unfold finB; rw [show ((runS π win dl k w).1 2 == π.1 1) = true from by simp; omega, decide_eq_true h9]; rfl) (by omega)] at this
        exact this
  exact loop N 0 f rfl (fun j hj => by omega) hX hg rfl (by omega) hc FrT.rf
theorem P_finish (h : PSt sh fR f A Z) (hz : zOK Z) : Cl l G (d + 7) 0 0 mX11_finish [.ref A] (sh, f, g, fR) (RP A sh fR f g Z (finishS Z)) := by
  obtain ⟨u, v, hr, hs, hp, hn, hP, hx⟩ := h.at
  refine VX11_finish hs hp hn hP ?_
  unfold finishS
  cases ht : Z.2.2.2.2 with
  | none => exact ⟨fun c => absurd (hx.no ht) c, fun _ => .rf h⟩
  | some q =>
    obtain ⟨h4, na, -, -, t⟩ := hx.td ht
    have hq := hz.2.2.2.2 q ht
    refine ⟨fun _ => ?_, fun c => absurd c h4⟩
    refine D_try hr t hq (fun f1 a1 c1 i1 => ?_)
    exact D_ticksToFinish hr.try up2_eq hq.1 (by have := hq.1.2.2.1; omega) hq.dl hq.2.2.2.1 a1 c1 hq.2.2.2.2.1.x hq.2.2.2.2.1.1 (by decide) (fun f2 c2 i2 => FrT.rp hr hx (i1.tr i2) rfl)
theorem D_buryX {K : FI → FL → Prop} {p : Nat} (hs : StW sh fR x) (hu : fR x 7 = some u) (hU : StPl sh fR u) (h4 : π.1 6 ≤ 4) (hX : HX f x π win dl w) (hg : gX π w) (hp : p < 4) (H : ∀ f' : FI, HX f' x π win dl (dieS w p) → (∀ r k, (r < x ∨ x + 32 ≤ r) → f' r k = f r k) → K f' g) : Cl l G (d + 2) 0 0 mX10_bury [.ref x, .int (nI p)] (sh, f, g, fR) (qv sh fR K) := by
  obtain ⟨m, hC, hI⟩ := hX
  have hgd := hg.die p
  have hf : flyS w p ≤ w.2.2.1.countP (fun s => s.2.2.2.2.2.2.1) := by
    unfold flyS
    refine List.countP_mono_left (fun s _ hs => ?_)
    simp at hs
    exact hs.1
  have h3 := hI.2.2
  refine D_bury hs hu hU hC (fun s hs => by have := (hg.2.1.2.2.1 s hs).1; omega) hp (hg.qN p).2.1 hg.1 (by omega) (fun f' c e => ?_)
  refine H f' ⟨_, ?_, hI.die hg.2.1⟩ e.2
  rw [hgd.2]
  have : (dieS w p).2.2.2.2.1 = w.2.2.2.2.1 := by unfold dieS; split <;> rfl
  rw [this]
  exact c
theorem P_without {a : Int32} (h : PSt sh fR f A Z) (hz : zOK Z) : Cl l G (d + 7) 0 0 mX11_without [.ref A, .int a] (sh, f, g, fR) (RP A sh fR f g Z (withoutS Z a)) := by
  obtain ⟨u, v, hr, hs, hp, hn, hP, hx⟩ := h.at
  obtain ⟨-, -, hu1, hu2, -, -⟩ := hr.pl
  refine VX11_without hs hp hn hP ?_
  refine D_isPathP hs hp hn hP hx hz (fun q p ht hp6 hp4 e => ⟨fun _ => ?_, fun c => absurd c (by decide)⟩) (fun hno => ⟨fun c => absurd rfl c, fun _ => .is h ?_⟩)
  · subst e
    obtain ⟨h4, na, -, -, t⟩ := hx.td ht
    have hq := hz.2.2.2.2 q ht
    have h6 := hq.1.2.2.2.2.2.1
    unfold withoutS
    rw [ht]
    dsimp only
    rw [ixS_in hp6 (by omega)]
    have hr2 := hr.try
    have hg := hq.2.2.2.2.1.x
    refine D_try hr t hq (fun f1 a1 c1 i1 => ?_)
    refine D_buryX hr2.1.2.2.2.2.1 up2_eq hr2.pl.1 h6 a1 hg hp4 (fun f2 a2 e2 => ?_)
    have i2 : FrT A u f1 f2 := fun r k a _ _ _ _ _ => e2 r k (by omega)
    have c2 : CP f2 u q.1 := c1.keep (fun r k a b _ _ _ _ => e2 r k (by omega))
    exact D_ticksToFinish hr2 up2_eq hq.1 (by have := hq.1.2.2.1; omega) hq.dl hq.2.2.2.1 a2 c2 (hg.die p).1 (by rw [(hg.die p).2]; exact hq.2.2.2.2.1.1) (by decide) (fun f3 c3 i3 => FrT.rp hr hx ((i1.tr i2).tr i3) rfl)
  · unfold withoutS
    cases ht : Z.2.2.2.2 with
    | none => rfl
    | some q => dsimp only; rw [hno q ht]
theorem P_alone {a : Int32} (h : PSt sh fR f A Z) (hz : zOK Z) : Cl l G (d + 7) 0 0 mX11_alone [.ref A, .int a] (sh, f, g, fR) (RP A sh fR f g Z (aloneS Z a)) := by
  obtain ⟨u, v, hr, hs, hp, hn, hP, hx⟩ := h.at
  obtain ⟨-, -, hu1, hu2, -, -⟩ := hr.pl
  refine VX11_alone hs hp hn hP ?_
  refine D_isPathP hs hp hn hP hx hz (fun q p ht hp6 hp4 e => ⟨fun _ => ?_, fun c => absurd c (by decide)⟩) (fun hno => ⟨fun c => absurd rfl c, fun _ => .is h ?_⟩)
  · subst e
    obtain ⟨h4, na, -, -, t⟩ := hx.td ht
    have hq := hz.2.2.2.2 q ht
    have h6 := hq.1.2.2.2.2.2.1
    unfold aloneS
    rw [ht]
    dsimp only
    rw [ixS_in hp6 (by omega)]
    have hr2 := hr.try
    have hg := hq.2.2.2.2.1.x
    have h999 := hq.2.2.2.2.1.1
    have loop : ∀ r k (f0 : FI), r + k = q.1.1 6 → HX f0 (A + 72) q.1 (q.1.1 3) q.2.1 (othersS k p q.2.2.1) → gX q.1 (othersS k p q.2.2.1) → (othersS k p q.2.2.1).1 0 = q.2.2.1.1 0 → CP f0 u q.1 → FrT A u f f0 → LpX11_alone_23 l G d (RP A sh fR f g Z (oI (finS q.1 (q.1.1 3) q.2.1 (othersS (q.1.1 6) p q.2.2.1) 200))) sh (up2 fR (A + 72) 7 (some u)) A u f0 g (nI p) (nI k) := by
      intro r
      induction r with
      | zero =>
        intro k f0 hk a0 b0 d0 c0 i0
        have e : k = q.1.1 6 := by omega
        subst e
        refine VX11_alone_23 hr2.1 hr2.2.2.1 hr2.2.2.2.2.1 hr2.pl.1 ?_
        rw [c0.1 6 (by decide)]
        refine ⟨fun _ => ?_, fun c => absurd (nI_le (Nat.le_refl _) (by omega)) c⟩
        exact D_ticksToFinish hr2 up2_eq hq.1 (by have := hq.1.2.2.1; omega) hq.dl hq.2.2.2.1 a0 c0 b0 (by omega) (by decide) (fun f3 c3 i3 => FrT.rp hr hx (i0.tr i3) rfl)
      | succ r ih =>
        intro k f0 hk a0 b0 d0 c0 i0
        refine VX11_alone_23 hr2.1 hr2.2.2.1 hr2.2.2.2.2.1 hr2.pl.1 ?_
        rw [c0.1 6 (by decide)]
        have eo : othersS (k + 1) p q.2.2.1 = if k = p then othersS k p q.2.2.1 else dieS (othersS k p q.2.2.1) k := rfl
        refine ⟨fun c => absurd c (nI_ge (by omega) (by omega)), fun _ => ⟨fun c => ?_, fun c => ?_⟩⟩
        · refine VX11_alone_47 hr2.1 hr2.2.2.1 hr2.2.2.2.2.1 hr2.pl.1 ?_
          rw [if_pos ((nI_eq (by omega) (by omega)).mp c)] at eo
          rw [nI_add]
          exact ih (k + 1) f0 (by omega) (by rw [eo]; exact a0) (by rw [eo]; exact b0) (by rw [eo]; exact d0) c0 i0
        · rw [if_neg (fun z => c (by rw [z]))] at eo
          refine D_buryX hr2.1.2.2.2.2.1 up2_eq hr2.pl.1 h6 a0 b0 (by omega) (fun f2 a2 e2 => ?_)
          refine VX11_alone_47 hr2.1 hr2.2.2.1 hr2.2.2.2.2.1 hr2.pl.1 ?_
          rw [nI_add]
          have hd := b0.die k
          exact ih (k + 1) f2 (by omega) (by rw [eo]; exact a2) (by rw [eo]; exact hd.1) (by rw [eo, hd.2]; exact d0) (c0.keep (fun r k a b _ _ _ _ => e2 r k (by omega))) (i0.tr (fun r k a _ _ _ _ _ => e2 r k (by omega)))
    refine D_try hr t hq (fun f1 a1 c1 i1 => ?_)
    exact loop (q.1.1 6) 0 f1 rfl a1 hg rfl c1 i1
  · unfold aloneS
    cases ht : Z.2.2.2.2 with
    | none => rfl
    | some q => dsimp only; rw [hno q ht]
end TD
