/-! the class' stream: the call -/
def RSt (A : Nat) (sh : Sh) (fR : FRt) (f : FI) (g : FL) (Z : Zs) : Option Value → Hp → Prop := fun r h => ∃ f' fR', (∀ dl, r = some (.int (strZ Z dl).2)) ∧ h = (sh, f', g, fR') ∧ (∀ dl, dlOK Z dl → PSt sh fR' f' A (strZ Z dl).1 ∧ zOK (strZ Z dl).1) ∧ FrP A sh fR f sh fR' f'
section CSS
variable {l : Launch} {G : Gx} {d : Nat} {sh : Sh} {fR fR' : FRt} {A u v : Nat} {f f' : FI} {g : FL} {Z : Zs}
theorem PTd.keep {na : Nat} {q : Td} (hr : PRs sh fR A u v) (h : PTd fR f A u na q) (e : ∀ r k, ((r = A ∧ k ≠ 1) ∨ (u ≤ r ∧ r < u + 17) ∨ (A + 40 ≤ r ∧ r < A + 72) ∨ r = A + 105 ∨ A + 155 ≤ r) → f' r k = f r k) (eR : ∀ r k, (r = A + 104 ∨ A + 155 ≤ r) → fR' r k = fR r k) : PTd fR' f' A u na q := by
  obtain ⟨-, -, hu1, hu2, -, -⟩ := hr.pl
  obtain ⟨t1, t2, t3, t4, t5, t6, t7⟩ := h
  refine ⟨t1.keep (fun r k a b _ _ _ _ => e r k (by omega)), fun p hp => by rw [e _ _ (by omega)]; exact t2 p hp, t3.keep (fun c hc j k hj ec => e _ _ (by omega)), by rw [e _ _ (by omega)]; exact t4, fun k w hk => ?_, by rw [e _ _ (by omega)]; exact t6, fun k r hk => ?_⟩
  · obtain ⟨y, y1, y2, y3⟩ := t5 k w hk
    have hy := hr.2.2.2.2.2.2.2.2.1 _ y (Nat.mod_lt _ (by decide)) y1
    exact ⟨y, by rw [eR _ _ (by omega)]; exact y1, by rw [eR _ _ (by omega)]; exact y2, y3.keep (fun c hc j i hj ec => e _ _ (by omega))⟩
  · rw [e _ _ (by omega), e _ _ (by omega), e _ _ (by omega)]
    exact t7 k r hk
theorem PRs.chg {u' v' p' q' : Nat} (h : PRs sh fR A u v) (e : ∀ r k, ¬ (r = A + 38 ∧ (k = 6 ∨ k = 7)) → ¬ (r = A ∧ (k = 5 ∨ k = 6)) → ¬ (r = A + 40 ∧ k = 7) → fR' r k = fR r k) (huv : (u' = u ∧ v' = v) ∨ (u' = v ∧ v' = u)) (e5 : fR' A 5 = some u') (e6 : fR' A 6 = some v') (e7 : fR' (A + 40) 7 = some u') (e8 : fR' (A + 38) 6 = some p') (hp' : p' = A + 4 ∨ p' = A + 21) (e9 : fR' (A + 38) 7 = some q') (hq' : StF sh fR' q' ∧ A + 4 ≤ q' ∧ q' + 3 ≤ A + 38) : PRs sh fR' A u' v' := by
  obtain ⟨h1, h2, h3, h4, h5, h6, h7, h8, h9, h10⟩ := h
  refine ⟨h1.chg e, by omega, e5, e6, e7, ⟨p', e8, hp'⟩, ⟨q', e9, hq'⟩, h8, fun k y hk hy => ?_, fun k k' y y' hk hk' hn hy hy' => ?_⟩
  · rw [e _ _ (by omega) (by omega) (by omega)] at hy
    obtain ⟨y1, y2, y3, p, y4, y5, y6⟩ := h9 k y hk hy
    refine ⟨y1.old (fun _ _ _ z => z) (fun i k hi _ => e _ _ (by omega) (by omega) (by omega)), y2, y3, p, by rw [e _ _ (by omega) (by omega) (by omega)]; exact y4, y5.old (fun _ _ _ z => z) (fun i k hi => ?_), y6⟩
    have hne : p + i ≠ A := by
      have hl : ∃ z, lSh[i]? = some z ∧ z ≠ (11, 16) := by
        have : ∀ i, i < 17 → ∃ z, lSh[i]? = some z ∧ z ≠ (11, 16) := by
          intro i hi
          have hd : ∀ z ∈ lSh, z ≠ (11, 16) := by decide
          have hi2 : i < lSh.length := hi
          exact ⟨lSh[i], List.getElem?_eq_getElem hi2, hd _ (List.getElem_mem hi2)⟩
        exact this i hi
      obtain ⟨z, z1, z2⟩ := hl
      exact ne_sh (y5.1 i z z1) (sA_0 h1) z2
    exact e _ _ (by omega) (by omega) (by omega)
  · rw [e _ _ (by omega) (by omega) (by omega)] at hy hy'
    exact h10 k k' y y' hk hk' hn hy hy'
theorem CW.dl {x : Nat} {π : Pl} {win : Nat} {dl dl' : Nat → Nat} {t : Int} {w : Wd} {m : List (Nat × Nat)} {la : List An} (h : CW f x π win dl t w m la) (e : ∀ p, p < π.1 6 → dl' p = dl p) : CW f x π win dl' t w m la := by
  obtain ⟨h1, h2, h3, h4, h5⟩ := h
  exact ⟨h1, h2, h3, fun p a b => by rw [e p b]; exact h4 p a b, h5⟩
theorem TX.lt {p : Nat} {tp : List Nat} {x : Nat × Nat} (h : TX f A p tp (.error x)) : 0 < x.1 ∧ x.1 ≤ 6 ∧ x.2 ≤ 1600 := ⟨h.2.2.1, h.2.2.2.1, h.2.2.2.2.2⟩
theorem P_stream (hd : 56 ≤ d) (h : PSt sh fR f A Z) (hz : zOK Z) : Cl l G (d + 14) 0 0 mX11_stream [.ref A] (sh, f, g, fR) (RSt A sh fR f g Z) := by
  obtain ⟨u, v, hr, ⟨ht1, ht2⟩, hx2, hx3, hx4⟩ := h
  have hr' := hr
  obtain ⟨hPu, hPv, hu1, hu2, hv1, hv2⟩ := hr.pl
  obtain ⟨h1, h2, h3, h4, h5, ⟨p0, h6, h6'⟩, ⟨q0, h7, h7', h7'', h7'''⟩, h8, h9, h10⟩ := hr'
  obtain ⟨g1, g2, g3, na, g4, g5, g6⟩ := hx4
  have huv : u + 17 ≤ v ∨ v + 17 ≤ u := by omega
  refine VX11_stream h1 h3 h4 h5 hPu hPv ?_
  rw [ht1]
  refine K_text (d := d) hd h1 hPv h7' h7 ⟨hv1, hv2⟩ ⟨h7'', h7'''⟩ hz.1 hz.2.1 (fun k hk => ht2 k _ (bt_in hk)) g2 (fun q' f3 a1 a2 a3 a4 => ?_)
  have kz : ∀ r k, r ≠ A + 38 → ¬ (v ≤ r ∧ r < v + 17) → f3 r k = f r k := a4
  have hC := a3.1
  have e38 : (A + 38) ≠ A := by omega
  unfold RSt strZ dlOK
  cases htx : txtD Z.1 with
  | error x =>
    rw [htx] at a3
    obtain ⟨x1, x2, x3⟩ := a3.lt
    have f31 : f3 (A + 38) 1 = nI x.1 := a3.2.1
    have f32 : f3 (A + 38) 2 = nI x.2 := a3.2.2.2.2.1
    refine ⟨fun z => absurd z (by rw [f31]; exact nI_ne0 x1 (by omega)), fun _ => ?_⟩
    obtain ⟨F, hF⟩ : ∃ F : FI, F = up2 (up2 f3 A 1 (nI 0)) (A + 2) 1 (f3 (A + 2) 1 + nI 1) := ⟨_, rfl⟩
    rw [← hF]
    have kF : ∀ r k, ¬ (r = A ∧ k = 1) → ¬ (r = A + 2 ∧ k = 1) → F r k = f3 r k := fun r k z z2 => by rw [hF, up2_ne z2, up2_ne z]
    have kf : ∀ r k, ¬ (r = A ∧ k = 1) → ¬ (r = A + 2 ∧ k = 1) → r ≠ A + 38 → ¬ (v ≤ r ∧ r < v + 17) → F r k = f r k := fun r k z z2 z3 z4 => by rw [kF r k z z2, kz r k z3 z4]
    obtain ⟨FR, hFR⟩ : ∃ FR : FRt, FR = up2 (up2 fR (A + 38) 6 (some v)) (A + 38) 7 (some q') := ⟨_, rfl⟩
    rw [← hFR]
    have kR : ∀ r k, ¬ (r = A + 38 ∧ (k = 6 ∨ k = 7)) → FR r k = fR r k := fun r k z => by rw [hFR, up2_ne (by omega), up2_ne (by omega)]
    have hrn : PRs sh FR A u v := hr.chg (p' := v) (q' := q') (fun r k z _ _ => kR r k z) (Or.inl ⟨rfl, rfl⟩) (by rw [kR _ _ (by omega)]; exact h3) (by rw [kR _ _ (by omega)]; exact h4) (by rw [kR _ _ (by omega)]; exact h5) (by rw [hFR, up2_k (by decide), up2_eq]) (by omega) (by rw [hFR, up2_eq]) ⟨by rw [hFR]; exact a1.fR7 (by omega), a2⟩
    refine ⟨F, FR, fun dl => rfl, rfl, fun dl _ => ⟨⟨u, v, hrn, ⟨by rw [hF, up2_r (by omega), up2_eq]; rfl, fun k b hk => by cases hk⟩, fun i hi => ?_, by rw [kf _ _ (by omega) (by omega) (by omega) (by omega)]; exact hx3, ⟨⟨?_, ?_⟩, fun k o hk => by rw [kF _ _ (by omega) (by omega)]; exact hC.2.2.2.2 k o hk, by rw [kf _ _ (by omega) (by omega) (by omega) (by omega)]; exact g3, na, g4, by rw [kf _ _ (by omega) (by omega) (by omega) (by omega)]; exact g5, ?_⟩⟩, ?_⟩, fun r k hrk => ⟨?_, ?_⟩, fun r hr => rfl⟩
    · show F (A + 2) i = nI (fu Z.2.1 1 (Z.2.1 1 + 1) i)
      by_cases zi : i = 1
      · rw [zi, fu_eq, hF, up2_eq, kz _ _ (by omega) (by omega), hx2 1 (by decide), nI_add]
      · rw [fu_ne zi, kf _ _ (by omega) (by omega) (by omega) (by omega)]; exact hx2 i hi
    · rw [kF _ _ (by omega) (by omega)]; exact f31
    · rw [kF _ _ (by omega) (by omega)]; exact f32
    · show match Z.2.2.2.2 with
        | none => F A 12 = nI 0 ∧ F A 14 = nI 0
        | some q => PTd FR F A u na q
      cases hq : Z.2.2.2.2 with
      | none =>
        rw [hq] at g6
        exact ⟨by rw [kf _ _ (by omega) (by omega) (by omega) (by omega)]; exact g6.1, by rw [kf _ _ (by omega) (by omega) (by omega) (by omega)]; exact g6.2⟩
      | some q =>
        rw [hq] at g6
        exact PTd.keep hr g6 (fun r k z => kf r k (by omega) (by omega) (by omega) (by omega)) (fun r k z => kR r k (by omega))
    · exact ⟨Nat.zero_le _, fun b hb => (by cases hb), hz.2.2.1, fun q hq => by cases hq; exact ⟨x1, x2, x3⟩, hz.2.2.2.2⟩
    · exact kf r k (by have := h1.2.2.1; omega) (by have := h1.2.2.1; omega) (by omega) (by omega)
    · exact kR r k (by omega)
  | ok π =>
    rw [htx] at a3
    obtain ⟨-, f31, hcp⟩ := a3
    have hsπ := txtD_ok htx
    refine ⟨fun _ => ?_, fun z => absurd f31 z⟩
    obtain ⟨F0, hF0⟩ : ∃ F : FI, F = up2 (up2 f3 A 1 (nI 0)) A 4 (nI 1) := ⟨_, rfl⟩
    rw [← hF0]
    have kF0 : ∀ r k, ¬ (r = A ∧ (k = 1 ∨ k = 4)) → F0 r k = f3 r k := fun r k z => by rw [hF0, up2_ne (by omega), up2_ne (by omega)]
    obtain ⟨FR, hFR⟩ : ∃ FR : FRt, FR = up2 (up2 (up2 (up2 fR (A + 38) 6 (some v)) (A + 38) 7 (some q')) A 6 (some u)) A 5 (some v) := ⟨_, rfl⟩
    rw [← hFR]
    have kR : ∀ r k, ¬ (r = A + 38 ∧ (k = 6 ∨ k = 7)) → ¬ (r = A ∧ (k = 5 ∨ k = 6)) → FR r k = fR r k := fun r k z z2 => by rw [hFR, up2_ne (by omega), up2_ne (by omega), up2_ne (by omega), up2_ne (by omega)]
    have hsA : StA sh FR A := h1.chg (fun r k z z2 _ => kR r k z z2)
    have hcp0 : CPr F0 v π := CPr.kp hcp (fun r k x y => kF0 r k (by omega))
    have hPv' : StPl sh FR v := hPv.old (fun _ _ _ z => z) (fun i k hi => kR _ _ (by omega) (by omega))
    refine D_begin (d := d + 12) (dl := π.2.2.1) hsA.2.2.2.1 hPv' (by omega) hcp0.1 hsπ.1 (fun p hp => rfl) (fun f5 c1 c2 => ?_)
    obtain ⟨FR2, hFR2⟩ : ∃ FR2 : FRt, FR2 = up2 FR (A + 40) 7 (some v) := ⟨_, rfl⟩
    rw [← hFR2]
    obtain ⟨F, hF⟩ : ∃ F : FI, F = up2 (up2 f5 A 14 (nI 0)) A 12 (nI 0) := ⟨_, rfl⟩
    rw [← hF]
    have kF : ∀ r k, ¬ (r = A ∧ (k = 12 ∨ k = 14)) → F r k = f5 r k := fun r k z => by rw [hF, up2_ne (by omega), up2_ne (by omega)]
    have kG : ∀ r k, ¬ (r = A ∧ (k = 12 ∨ k = 14 ∨ k = 1 ∨ k = 4)) → (r < A + 40 ∨ A + 72 ≤ r) → F r k = f3 r k := fun r k z z2 => by rw [kF r k (by omega), c2 r k (by omega), kF0 r k (by omega)]
    have kf : ∀ r k, ¬ (r = A ∧ (k = 12 ∨ k = 14 ∨ k = 1 ∨ k = 4)) → (r < A + 40 ∨ A + 72 ≤ r) → r ≠ A + 38 → ¬ (v ≤ r ∧ r < v + 17) → F r k = f r k := fun r k z z2 z3 z4 => by rw [kG r k z z2, kz r k z3 z4]
    have kR2 : ∀ r k, ¬ (r = A + 38 ∧ (k = 6 ∨ k = 7)) → ¬ (r = A ∧ (k = 5 ∨ k = 6)) → ¬ (r = A + 40 ∧ k = 7) → FR2 r k = fR r k := fun r k z z2 z3 => by rw [hFR2, up2_ne z3, kR r k z z2]
    have hrn : PRs sh FR2 A v u := by
      refine hr.chg (p' := v) (q' := q') kR2 (Or.inr ⟨rfl, rfl⟩) ?_ ?_ (by rw [hFR2, up2_eq]) ?_ (by omega) ?_ ⟨a1.old (fun _ _ _ z => z) (fun i k hi => ?_), a2⟩
      · rw [hFR2, up2_r (by omega), hFR, up2_eq]
      · rw [hFR2, up2_r (by omega), hFR, up2_k (by decide), up2_eq]
      · rw [hFR2, up2_r (by omega), hFR, up2_r (by omega), up2_r (by omega), up2_k (by decide), up2_eq]
      · rw [hFR2, up2_r (by omega), hFR, up2_r (by omega), up2_r (by omega), up2_eq]
      · rw [kR2 _ _ (by omega) (by omega) (by omega), up2_ne (by omega)]
    have f50 : f5 v 0 = nI (π.1 0) := by rw [c2 _ _ (by omega)]; exact hcp0.1.1 0 (by decide)
    refine ⟨F, FR2, fun dl => by rw [f50], rfl, fun dl hdl => ?_, fun r k hrk => ⟨?_, ?_⟩, fun r hr => rfl⟩
    · obtain ⟨hd1, hd2⟩ := hdl π rfl
      refine ⟨⟨v, u, hrn, ⟨?_, fun k b hk => by cases hk⟩, fun i hi => by rw [kf _ _ (by omega) (by omega) (by omega) (by omega)]; exact hx2 i hi, by rw [kf _ _ (by omega) (by omega) (by omega) (by omega)]; exact hx3, ⟨?_, fun k o hk => by rw [kG _ _ (by omega) (by omega)]; exact hC.2.2.2.2 k o hk, ?_, na, g4, by rw [kf _ _ (by omega) (by omega) (by omega) (by omega)]; exact g5, ⟨hcp.1.keep (fun r k a b _ _ _ _ => kG r k (by omega) (by omega)), fun p hp => by rw [kG _ _ (by omega) (by omega)]; exact hcp.2.1 p hp, ⟨[], (c1.dl hd1).sm (fun c hc j k hj ec => kF _ _ (by omega)), begin_PI⟩, ?_, fun k w hk => (by cases hk), ?_, fun k r hk => by cases hk⟩⟩⟩, ?_⟩
      · rw [kF _ _ (by omega), c2 _ _ (by omega), hF0, up2_k (by decide), up2_eq]; rfl
      · show F (A + 38) 1 = nI 0
        rw [kG _ _ (by omega) (by omega)]; exact f31
      · rw [kF _ _ (by omega), c2 _ _ (by omega), hF0, up2_eq]; rfl
      · rw [hF, up2_eq]; rfl
      · rw [hF, up2_k (by decide), up2_eq]; rfl
      · refine ⟨Nat.zero_le _, fun b hb => (by cases hb), hz.2.2.1, fun q hq => (by cases hq), fun q hq => ?_⟩
        cases hq
        exact ⟨hsπ.1, hsπ.2, hd1, hd2, begin_gW hsπ.1, fun w hw => (by cases hw), Nat.zero_le _, Nat.zero_le _, fun r hr => by cases hr⟩
    · exact kf r k (by have := h1.2.2.1; omega) (by omega) (by omega) (by omega)
    · exact kR2 r k (by omega) (by have := h1.2.2.1; omega) (by omega)
end CSS
