/-! trials of the class: windows, odds; what was met; undoing -/
theorem up2_up2 {α : Type} {f : Nat → Nat → α} {r k : Nat} {a b : α} : up2 (up2 f r k a) r k b = up2 f r k b := by
  funext i j
  by_cases h : i = r ∧ j = k
  · obtain ⟨rfl, rfl⟩ := h
    rw [up2_eq, up2_eq]
  · rw [up2_ne h, up2_ne h, up2_ne h]
theorem up2_self {α : Type} {f : Nat → Nat → α} {r k : Nat} {a : α} (e : f r k = a) : up2 f r k a = f := by
  funext i j
  by_cases h : i = r ∧ j = k
  · obtain ⟨rfl, rfl⟩ := h
    rw [up2_eq, e]
  · rw [up2_ne h]
section TE
variable {l : Launch} {G : Gx} {d : Nat} {sh : Sh} {fR : FRt} {A x u win : Nat} {f : FI} {g : FL} {Z : Zs} {π : Pl} {dl : Nat → Nat} {w : Wd}
theorem HX.wn {v : Nat} (h : HX f x π win dl w) : HX (up2 f (x + 2) 3 (nI v)) x π v dl w := by
  obtain ⟨m, hC, hI⟩ := h
  refine ⟨m, hC.repo (Sx.rf.up (by decide)) ⟨?_, up2_eq⟩, hI⟩
  rw [up2_k (by decide)]
  exact hC.2.2.2.2.2.2.2.2.2.1
theorem P_window {a : Int32} (h : PSt sh fR f A Z) (hz : zOK Z) : Cl l G (d + 7) 0 0 mX11_window [.ref A, .int a] (sh, f, g, fR) (RP A sh fR f g Z (windowS Z a)) := by
  obtain ⟨u, v, hr, hs, hp, hn, hP, hx⟩ := h.at
  obtain ⟨-, -, hu1, hu2, -, -⟩ := hr.pl
  have no : (∀ q n, Z.2.2.2.2 = some q → ixS a 201 = some n → n ≠ 0 → 999 < q.2.2.1.1 0 + n) → windowS Z a = -1 := fun hno => by
    unfold windowS
    cases hq : Z.2.2.2.2 with
    | none => rfl
    | some q =>
      dsimp only
      cases hx : ixS a 201 with
      | none => rfl
      | some n =>
        dsimp only
        rw [if_pos]
        by_cases c : n = 0
        · exact Or.inl c
        · exact Or.inr (hno q n hq hx c)
  refine VX11_window hs hp hn hP ?_
  rcases pk_ix a (n := 201) (by decide) with z | z | ⟨n, hn', rfl⟩
  · rw [no (fun q n _ hx => by rw [ixS_lo z] at hx; cases hx)]
    exact ⟨fun _ => .rf h, fun c => absurd (Int32.lt_trans z (by decide)) c⟩
  · rw [no (fun q n _ hx => by rw [ixS_hi z] at hx; cases hx)]
    exact ⟨fun _ => .rf h, fun _ => ⟨fun _ => .rf h, fun c => absurd (Int32.lt_of_lt_of_le (by decide) z) c⟩⟩
  · by_cases hn0 : n = 0
    · subst hn0
      rw [no (fun q n _ hx hne => by rw [ixS_in hn' (by decide)] at hx; cases hx; exact absurd rfl hne)]
      exact ⟨fun _ => .rf h, fun c => absurd (by decide) c⟩
    refine ⟨fun c => absurd c (Int32.not_lt.mpr (nI_le (by omega) (by omega))), fun _ => ⟨fun c => absurd (nI_le (show n ≤ 200 by omega) (by decide)) (Int32.not_le.mpr c), fun _ => ?_⟩⟩
    refine D_canGo hr hx hz (by omega) (fun q na hq t h999 => ⟨fun _ w7 hw7 => ?_, fun c => absurd c (by decide)⟩) (fun hno => ⟨fun c => absurd rfl c, fun _ => .is h ?_⟩)
    · have hqo := hz.2.2.2.2 q hq
      have e : windowS Z (nI n) = oI (winS q.1 q.2.1 q.2.2.1 n) := by
        unfold windowS
        rw [hq]
        dsimp only
        rw [ixS_in hn' (by decide)]
        dsimp only
        rw [if_neg (by omega)]
      rw [e, hw7, t.1.1 2 (by decide)]
      have hu20 := hqo.1.2.1
      have loop : ∀ r k (f0 : FI) (fR0 : FRt), r + k = 100 → q.1.1 2 ≤ k → (∀ j, j < k → (decide (q.1.1 2 ≤ j) && (finS q.1 j q.2.1 q.2.2.1 n).isSome) = false) → PRs sh fR0 A u v → up2 fR0 (A + 72) 7 (some u) = up2 fR (A + 72) 7 (some u) → (∃ na, PTd fR0 f0 A u na q) → (RP A sh fR f g Z (-1) (some (.int (-1))) (sh, f0, g, fR0)) → FrT A u f f0 → LpX11_window_30 l G d (RP A sh fR f g Z (oI (winS q.1 q.2.1 q.2.2.1 n))) sh fR0 A u f0 g (nI n) (nI k) := by
        intro r
        induction r with
        | zero =>
          intro k f0 fR0 hk h2 hj hr0 eR t0 r0 i0
          refine VX11_window_30 hr0.1 hr0.2.2.1 hr0.2.2.2.2.1 hr0.pl.1 ?_
          refine ⟨fun _ => ?_, fun c => absurd (nI_lt (by omega) (by omega)) c⟩
          rw [show winS q.1 q.2.1 q.2.2.1 n = none from findR_none (fun j hj' => hj j (by omega))]
          exact r0
        | succ r ih =>
          intro k f0 fR0 hk h2 hj hr0 eR t0 r0 i0
          obtain ⟨na0, t0⟩ := t0
          refine VX11_window_30 hr0.1 hr0.2.2.1 hr0.2.2.2.2.1 hr0.pl.1 ?_
          refine ⟨fun c => absurd (nI_le (show k ≤ 99 by omega) (by decide)) (Int32.not_le.mpr c), fun _ => ?_⟩
          rw [eR]
          have hr2 := hr.try
          rw [← eR]
          refine D_try hr0 t0 hqo (fun f1 a1 c1 i1 => ?_)
          rw [eR]
          have i2 : FrT A u f1 (up2 f1 (A + 72 + 2) 3 (nI k)) := fun r k a _ _ _ _ _ => up2_r (by omega)
          refine D_ticksToFinish hr2 up2_eq hqo.1 (show k ≤ 99 by omega) hqo.dl hqo.2.2.2.1 a1.wn (c1.keep (fun r k a b _ _ _ _ => up2_r (by omega))) hqo.2.2.2.2.1.x (by omega) (by omega) (fun f3 c3 i3 => ?_)
          have i4 := ((i0.tr i1).tr i2).tr i3
          refine ⟨fun c => ?_, fun c => ?_⟩
          · rw [nI_add]
            have hnone : finS q.1 k q.2.1 q.2.2.1 n = none := by
              cases hf : finS q.1 k q.2.1 q.2.2.1 n with
              | none => rfl
              | some m =>
                rw [hf] at c
                have hm : m < n + 1 := List.mem_range.mp (List.mem_of_find?_eq_some hf)
                exact absurd c (nI_m1 (by omega))
            refine ih (k + 1) f3 _ (by omega) (by omega) (fun j hj' => ?_) hr2 up2_up2 ⟨_, (FrT.px hr2 (PSx.try hr hx) i4).td hq |>.2.choose_spec.2.2⟩ (FrT.rp hr hx i4 rfl) i4
            rcases (show j < k ∨ j = k by omega) with z | z
            · exact hj j z
            · rw [z, hnone]
              exact Bool.and_false _
          · refine FrT.rp hr hx i4 ?_
            have hsome : (finS q.1 k q.2.1 q.2.2.1 n).isSome = true := by
              cases hf : finS q.1 k q.2.1 q.2.2.1 n with
              | none => rw [hf] at c; exact absurd rfl c
              | some m => rfl
            rw [show winS q.1 q.2.1 q.2.2.1 n = some k from findR_some hj (by rw [hsome, decide_eq_true h2]; rfl) (by omega)]
            rfl
      exact loop (100 - q.1.1 2) (q.1.1 2) f fR (by omega) (Nat.le_refl _) (fun j hj => by rw [decide_eq_false (by omega)]; rfl) hr rfl ⟨na, t⟩ (.rf h) FrT.rf
    · exact (no (fun q n' hq hx hne => by rw [ixS_in hn' (by decide)] at hx; cases hx; exact hno q hq)).symm
theorem P_odds {a : Int32} (h : PSt sh fR f A Z) (hz : zOK Z) : Cl l G (d + 6) 0 0 mX11_odds [.ref A, .int a] (sh, f, g, fR) (RP A sh fR f g Z (oddsS Z a)) := by
  obtain ⟨u, v, hr, hs, hp, hn, hP, hx⟩ := h.at
  obtain ⟨-, -, hu1, hu2, -, -⟩ := hr.pl
  have no : (∀ q j, Z.2.2.2.2 = some q → ixS a 2 = some j → 999 < q.2.2.1.1 0 + 1) → oddsS Z a = -1 := fun hno => by
    unfold oddsS
    cases hq : Z.2.2.2.2 with
    | none => rfl
    | some q =>
      dsimp only
      cases hx : ixS a 2 with
      | none => rfl
      | some n =>
        dsimp only
        rw [if_pos (hno q n hq hx)]
  refine VX11_odds hs hp hn hP ?_
  rcases pk_ix a (n := 2) (by decide) with z | z | ⟨j, hj, rfl⟩
  · rw [no (fun q n _ hx => by rw [ixS_lo z] at hx; cases hx)]
    exact ⟨fun _ => .rf h, fun c => absurd z c⟩
  · rw [no (fun q n _ hx => by rw [ixS_hi z] at hx; cases hx)]
    exact ⟨fun _ => .rf h, fun _ => ⟨fun _ => .rf h, fun c => absurd (Int32.lt_of_lt_of_le (by decide) z) c⟩⟩
  · refine ⟨fun c => absurd c (nI_pos (by omega)), fun _ => ⟨fun c => absurd (nI_le (show j ≤ 1 by omega) (by decide)) (Int32.not_le.mpr c), fun _ => ?_⟩⟩
    refine D_canGo hr hx hz (by decide) (fun q na hq t h999 => ⟨fun _ => ?_, fun c => absurd c (by decide)⟩) (fun hno => ⟨fun c => absurd rfl c, fun _ => .is h ?_⟩)
    · have hqo := hz.2.2.2.2 q hq
      have hr2 := hr.try
      have h5 := hqo.1.2.2.2.2.1
      have e : oddsS Z (nI j) = if (tickS q.1 (q.1.1 3) q.2.1 false q.2.2.1 0).2.1 = 0 then -1 else if j = 1 then nI 100 else if (tickS q.1 (q.1.1 3) q.2.1 false q.2.2.1 0).2.2.2.1 then nI 0 else nI (100 - q.1.1 5) := by
        unfold oddsS
        rw [hq]
        dsimp only
        rw [ixS_in hj (by decide)]
        dsimp only
        rw [if_neg (by omega)]
      rw [e]
      refine D_try hr t hqo (fun f1 a1 c1 i1 => ?_)
      refine D_stepX hr2.1.2.2.2.2.1 up2_eq hr2.pl.1 (by omega) a1 c1 hqo.1 (by have := hqo.1.2.2.1; omega) hqo.dl hqo.2.2.2.1 hqo.2.2.2.2.1.x (by omega) (fun f2 a2 b2 t2 k2 c2 i2 => ?_)
      obtain ⟨k13, -, k15, -, -, k1000⟩ := k2
      have i3 := i1.tr i2.t
      rw [k13, k15, c2.1 5 (by decide), pk_sub h5]
      refine ⟨fun c => ⟨fun c1 => ⟨fun c2 => FrT.rp hr hx i3 ?_, fun c2 => FrT.rp hr hx i3 ?_⟩, fun c1 => FrT.rp hr hx i3 ?_⟩, fun c => FrT.rp hr hx i3 ?_⟩
      · rw [if_neg (fun z => c (by rw [z]; rfl)), if_neg (fun z => c1 (by rw [z])), if_neg (by rw [bI_0.mp c2]; decide)]
      · rw [if_neg (fun z => c (by rw [z]; rfl)), if_neg (fun z => c1 (by rw [z])), if_pos (bI_ne0 c2)]
      · rw [if_neg (fun z => c (by rw [z]; rfl)), if_pos ((nI_eq (by omega) (by decide)).mp c1)]
      · rw [if_pos ((nI_eq (b := 0) (by omega) (by decide)).mp c)]
    · exact (no (fun q n' hq hx => hno q hq)).symm
end TE
