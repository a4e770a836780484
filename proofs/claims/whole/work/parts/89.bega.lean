/-! an act begins: the class -/
theorem ap_old {sh N : Sh} {i : Nat} (h : i < sh.length) : (sh ++ N)[i]? = sh[i]? := List.getElem?_append_left h
section BA
variable {l : Launch} {G : Gx} {d : Nat} {sh sh' : Sh} {fR fR' : FRt} {A x u v : Nat} {f f' : FI} {g : FL} {Z : Zs} {q : Td}
/-- old cells stay as they were -/
theorem StW.old {y : Nat} (h : StW sh fR y) (e1 : ∀ i z, i < 32 → sh[y + i]? = some z → sh'[y + i]? = some z) (e2 : ∀ i k, i < 32 → k ≠ 7 ∨ i ≠ 0 → fR' (y + i) k = fR (y + i) k) : StW sh' fR' y := by
  refine ⟨fun i z hi => ?_, fun z hz => ?_, h.2.2⟩
  · have := (List.getElem?_eq_some_iff.mp hi).1
    exact e1 i z this (h.1 i z hi)
  · have h0 : z.1 < 32 ∧ (z.2.1 ≠ 7 ∨ z.1 ≠ 0) := (by decide : ∀ q ∈ wFR, q.1 < 32 ∧ (q.2.1 ≠ 7 ∨ q.1 ≠ 0)) z hz
    rw [e2 _ _ h0.1 h0.2]
    exact h.2.1 z hz
theorem StPl.old {y : Nat} (h : StPl sh fR y) (e1 : ∀ i z, i < 17 → sh[y + i]? = some z → sh'[y + i]? = some z) (e2 : ∀ i k, i < 17 → fR' (y + i) k = fR (y + i) k) : StPl sh' fR' y := by
  refine ⟨fun i z hi => ?_, fun z hz => ?_, h.2.2⟩
  · have := (List.getElem?_eq_some_iff.mp hi).1
    exact e1 i z this (h.1 i z hi)
  · have h0 : z.1 < 17 := (by decide : ∀ q ∈ lFR, q.1 < 17) z hz
    rw [e2 _ _ h0]
    exact h.2.1 z hz
theorem StF.old {y : Nat} (h : StF sh fR y) (e1 : ∀ i z, i < 3 → sh[y + i]? = some z → sh'[y + i]? = some z) (e2 : ∀ i k, i < 3 → fR' (y + i) k = fR (y + i) k) : StF sh' fR' y := by
  refine ⟨fun i z hi => ?_, fun z hz => ?_, h.2.2⟩
  · have := (List.getElem?_eq_some_iff.mp hi).1
    exact e1 i z this (h.1 i z hi)
  · have h0 : z.1 < 3 := (by decide : ∀ q ∈ fFR, q.1 < 3) z hz
    rw [e2 _ _ h0]
    exact h.2.1 z hz
/-- the class' references, when cells were added, a slot of what can be undone was filled, and worlds were told their plan -/
theorem PRs.grow {na y : Nat} (hn20 : na < 20) (h : PRs sh fR A u v) (hlen : sh.length ≤ sh'.length) (e1 : ∀ i, i < sh.length → sh'[i]? = sh[i]?) (hy : StW sh' fR' y ∧ A + 155 ≤ y ∧ y + 32 ≤ sh'.length ∧ fR' y 7 = some u) (hna : fR' (A + 104) na = some y) (hny : fR (A + 104) na = some y ∨ (fR (A + 104) na = none ∧ sh.length ≤ y)) (e2 : ∀ r k, r < sh.length → ¬ (r = A + 104 ∧ k = na) → ¬ (r = y ∧ k = 7) → fR' r k = fR r k) : PRs sh' fR' A u v := by
  obtain ⟨h1, h2, h3, h4, h5, h6, h7, h8, h9, h10⟩ := h
  obtain ⟨a1, a2, a3, a4, a5, a6, a7⟩ := h1
  obtain ⟨y1, y2, y3, y4⟩ := hy
  have k7 : ∀ r k, r < A + 104 → fR' r k = fR r k := fun r k hr => e2 r k (by omega) (by omega) (by omega)
  have s1 : ∀ i z, i < sh.length → sh[i]? = some z → sh'[i]? = some z := fun i z hi hz => by rw [e1 i hi]; exact hz
  have hpl : ∀ p, p + 17 ≤ A + 38 → StPl sh fR p → StPl sh' fR' p := fun p hp hP => hP.old (fun i z hi hz => s1 _ z (by omega) hz) (fun i k hi => k7 _ _ (by omega))
  refine ⟨⟨fun q hq => ?_, fun q hq => ?_, a3, a4.old (fun i z hi hz => s1 _ z (by omega) hz) (fun i k hi _ => k7 _ _ (by omega)), a5.old (fun i z hi hz => s1 _ z (by omega) hz) (fun i k hi _ => k7 _ _ (by omega)), hpl _ (by omega) a6, hpl _ (by omega) a7⟩, h2, by rw [k7 _ _ (by omega)]; exact h3, by rw [k7 _ _ (by omega)]; exact h4, by rw [k7 _ _ (by omega)]; exact h5, ?_, ?_, by omega, fun k w hk hw => ?_, fun k k' w w' hk hk' hne hw hw' => ?_⟩
  · have : q.1 < 155 := (by decide : ∀ q ∈ aSh, q.1 < 155) q hq
    rw [e1 _ (by omega)]
    exact a1 q hq
  · have : q.1 < 155 ∧ q.1 ≠ 104 := (by decide : ∀ q ∈ aFR, q.1 < 155 ∧ q.1 ≠ 104) q hq
    rw [e2 _ _ (by omega) (by omega) (by omega)]
    exact a2 q hq
  · obtain ⟨p, p1, p2⟩ := h6
    exact ⟨p, by rw [k7 _ _ (by omega)]; exact p1, p2⟩
  · obtain ⟨p, p1, p2, p3, p4⟩ := h7
    exact ⟨p, by rw [k7 _ _ (by omega)]; exact p1, p2.old (fun i z hi hz => s1 _ z (by omega) hz) (fun i k hi => k7 _ _ (by omega)), p3, p4⟩
  · by_cases ek : k = na
    · subst ek
      rw [hna] at hw
      cases hw
      have hu : u + 17 ≤ A + 38 ∧ StPl sh fR u := by
        rcases h2 with ⟨rfl, rfl⟩ | ⟨rfl, rfl⟩
        · exact ⟨by omega, a6⟩
        · exact ⟨by omega, a7⟩
      exact ⟨y1, y2, y3, u, y4, hpl u hu.1 hu.2, hu.1⟩
    · rw [e2 _ _ (by omega) (by omega) (by omega)] at hw
      obtain ⟨z1, z2, z3, p, z4, z5, z6⟩ := h9 k w hk hw
      have hdis : w + 32 ≤ y ∨ y + 32 ≤ w := by
        rcases hny with c | ⟨c, c2⟩
        · exact h10 k na w y hk hn20 ek hw c
        · omega
      refine ⟨z1.old (fun i z hi hz => s1 _ z (by omega) hz) (fun i k' hi _ => e2 _ _ (by omega) (by omega) (by omega)), z2, by omega, p, by rw [e2 _ _ (by omega) (by omega) (by omega)]; exact z4, hpl p z6 z5, z6⟩
  · have dis : ∀ j z, j < 20 → j ≠ na → fR' (A + 104) j = some z → z + 32 ≤ y ∨ y + 32 ≤ z := fun j z hj hne hz => by
      rw [e2 _ _ (by omega) (by omega) (by omega)] at hz
      rcases hny with c | ⟨c, c2⟩
      · exact h10 j na z y hj hn20 hne hz c
      · have := h9 j z hj hz
        omega
    by_cases ek : k = na
    · subst ek
      rw [hna] at hw
      cases hw
      have := dis k' w' hk' (fun z => hne z.symm) hw'
      omega
    · by_cases ek' : k' = na
      · subst ek'
        rw [hna] at hw'
        cases hw'
        exact dis k w hk ek hw
      · rw [e2 _ _ (by omega) (by omega) (by omega)] at hw hw'
        exact h10 k k' w w' hk hk' hne hw hw'
theorem StA.eqv (h : StA sh fR A) (e : ∀ r k, r < A + 155 → fR' r k = fR r k) : StA sh fR' A := by
  obtain ⟨a1, a2, a3, a4, a5, a6, a7⟩ := h
  refine ⟨a1, fun q hq => ?_, a3, a4.old (fun _ _ _ z => z) (fun i k hi _ => e _ _ (by omega)), a5.old (fun _ _ _ z => z) (fun i k hi _ => e _ _ (by omega)), a6.old (fun _ _ _ z => z) (fun i k hi => e _ _ (by omega)), a7.old (fun _ _ _ z => z) (fun i k hi => e _ _ (by omega))⟩
  have : q.1 < 155 := (by decide : ∀ q ∈ aFR, q.1 < 155) q hq
  rw [e _ _ (by omega)]
  exact a2 q hq
/-- from pc 32 on -/
theorem D_begTail {K : Sh → FI → FL → FRt → Prop} {sh1 : Sh} {f1 : FI} {g1 : FL} {fR1 : FRt} {na y kc ks : Nat} (hr : PRs sh fR A u v) (hx : PSx fR f A u Z) (ok : tdOK q) (hq : Z.2.2.2.2 = some q) (hna : na < 20) (h11 : f A 11 = nI na) (hP : PTd fR f A u na q)
    (hlen : sh.length ≤ sh1.length) (es : ∀ i, i < sh.length → sh1[i]? = sh[i]?) (ef : ∀ r k, r < sh.length → f1 r k = f r k) (eg : ∀ r k, r < sh.length → g1 r k = g r k) (eR : ∀ r k, r < sh.length → ¬ (r = A + 104 ∧ k = na) → fR1 r k = fR r k) (hy : StW sh1 fR1 y) (hy1 : A + 155 ≤ y) (hy2 : y + 32 ≤ sh1.length) (hyn : fR1 (A + 104) na = some y) (hny : fR (A + 104) na = some y ∨ (fR (A + 104) na = none ∧ sh.length ≤ y))
    (H : ∀ (f' : FI) (fR' : FRt), PRs sh1 fR' A u v → PSx fR' f' A u (actZ Z q q.2.2.1) → FrP A sh fR f sh1 fR' f' → K sh1 f' g1 fR') : Bg l G d (qg A u K) sh1 fR1 A u f1 g1 kc ks := by
  have h8 := hr.2.2.2.2.2.2.2.1
  have hU4 := hr.pl
  have hr' : PRs sh1 (up2 fR1 y 7 (some u)) A u v := hr.grow hna hlen es ⟨hy.fR7 (fun j hj => by omega), hy1, hy2, up2_eq⟩ (by rw [up2_r (by omega)]; exact hyn) hny (fun r k h1 h2 h3 => by rw [up2_ne h3]; exact eR r k h1 h2)
  have hs1 : StA sh1 fR1 A := hr'.1.eqv (fun r k z => (up2_r (by omega)).symm)
  have hp1 : fR1 A 5 = some u := by have := hr'.2.2.1; rw [up2_r (by omega)] at this; exact this
  have hn1 : fR1 (A + 40) 7 = some u := by have := hr'.2.2.2.2.1; rw [up2_r (by omega)] at this; exact this
  have hP1 : StPl sh1 fR1 u := hr'.pl.1.old (fun _ _ _ z => z) (fun i k hi => (up2_r (by omega)).symm)
  have h20 := ok.2.2.2.2.2.2.1
  obtain ⟨t1, t2, ⟨m, hC, hI⟩, t4, t5, t6, t7⟩ := hP
  have hA := hr.1.2.2.1
  have f11 : f1 A 11 = nI na := by rw [ef _ _ (by omega)]; exact h11
  have f12 : f1 A 12 = nI q.2.2.2.1.length := by rw [ef _ _ (by omega)]; exact t4
  have hC1 : CW f1 (A + 40) q.1 (q.1.1 3) q.2.1 (q.2.2.1.1 0) q.2.2.1 m q.2.2.1.2.2.2.2.1 := hC.sm (fun c _ j k hj _ => ef _ _ (by omega))
  refine VX11_beg32 hs1 hp1 hn1 hP1 ?_
  rw [f11, clN (by omega)]
  refine ⟨inbN hna (by decide), fun c => (by rw [hyn] at c; cases c), fun r2 hr2 => ?_⟩
  rw [hyn] at hr2
  cases hr2
  refine ⟨hy.1 0 _ rfl, hy.2.2, ?_⟩
  refine D_copy hy hs1.2.2.2.1 hn1 hP1 (by omega) (by omega) hC1 ok.2.2.2.2.1.x.qN (fun f2 c2 e2 => ?_)
  rw [e2 A 12 (by omega), e2 A 11 (by omega), f11, f12, nI_add, nI_add, pk_rem (by omega) (by decide) (by decide)]
  refine D_minN (by omega) (by decide) ?_
  have oth : ∀ r k, r < sh.length → (r < y ∨ y + 32 ≤ r) → ¬ (r = A ∧ (k = 11 ∨ k = 12)) → up2 (up2 f2 A 11 (nI ((na + 1) % 20))) A 12 (nI (minS (q.2.2.2.1.length + 1) 20)) r k = f r k := fun r k h1 h2 h3 => by
    rw [up2_ne (by omega), up2_ne (by omega), e2 r k h2]
    exact ef r k h1
  have inn : ∀ r k, r ≠ A → up2 (up2 f2 A 11 (nI ((na + 1) % 20))) A 12 (nI (minS (q.2.2.2.1.length + 1) 20)) r k = f2 r k := fun r k h1 => by rw [up2_r h1, up2_r h1]
  have old : ∀ k w', k < 20 → k ≠ na → ∀ z, fR (A + 104) k = some z → fR z 7 = some u → HW f z q.1 q.2.1 w' → ∃ z, up2 fR1 y 7 (some u) (A + 104) k = some z ∧ up2 fR1 y 7 (some u) z 7 = some u ∧ HW (up2 (up2 f2 A 11 (nI ((na + 1) % 20))) A 12 (nI (minS (q.2.2.2.1.length + 1) 20))) z q.1 q.2.1 w' := fun k w' hk hne z hz1 hz2 hz3 => by
    obtain ⟨-, w2, w3, -⟩ := hr.2.2.2.2.2.2.2.2.1 k z hk hz1
    have ha : up2 fR1 y 7 (some u) (A + 104) k = some z := by rw [up2_r (by omega), eR _ _ (by omega) (by omega)]; exact hz1
    have hd := hr'.2.2.2.2.2.2.2.2.2 k na z y hk hna hne ha (by rw [up2_r (by omega)]; exact hyn)
    refine ⟨z, ha, by rw [up2_ne (by omega), eR _ _ (by omega) (by omega)]; exact hz2, hz3.keep (fun c _ j i hj _ => oth _ _ (by omega) (by omega) (by omega))⟩
  have lenP : (pushS q.2.2.2.1 q.2.2.1).length = minS (q.2.2.2.1.length + 1) 20 := by
    unfold pushS minS
    rw [List.length_append, List.length_singleton]
    by_cases c : q.2.2.2.1.length = 20
    · rw [if_pos c, List.length_tail, if_neg (by omega)]; omega
    · rw [if_neg c]
      split <;> omega
  obtain ⟨x1, x2, x3, x4⟩ := hx
  rw [hq] at x4
  refine ⟨_, _, _, _, rfl, rfl, hr'.1, hr'.2.2.1, hr'.2.2.2.2.1, hr'.pl.1, H _ _ hr' ⟨x1.keep (oth _ _ (by omega) (by omega) (by omega)) (fun k => oth _ _ (by omega) (by omega) (by omega)), fun i hi => by rw [oth _ _ (by omega) (by omega) (by omega)]; exact x2 i hi, by rw [oth _ _ (by omega) (by omega) (by omega)]; exact x3, ?_⟩ ⟨fun r k z => ⟨oth r k (by omega) (by omega) (by omega), by rw [up2_r (by omega), eR _ _ (by omega) (by omega)]⟩, es⟩⟩
  refine PSr.act (na' := (na + 1) % 20) hr x4 (fun r k a b c hlt => oth r k (by omega) (by omega) c) ⟨m, hC.sm (fun c _ j k hj _ => oth _ _ (by omega) (by omega) (by omega)), hI⟩ (Nat.mod_lt _ (by decide)) (by rw [up2_k (by decide), up2_eq]) (by rw [up2_eq, lenP]) (fun k w' hk => ?_)
  have new : ∃ z, up2 fR1 y 7 (some u) (A + 104) na = some z ∧ up2 fR1 y 7 (some u) z 7 = some u ∧ HW (up2 (up2 f2 A 11 (nI ((na + 1) % 20))) A 12 (nI (minS (q.2.2.2.1.length + 1) 20))) z q.1 q.2.1 q.2.2.1 := ⟨y, by rw [up2_r (by omega)]; exact hyn, up2_eq, m, c2.sm (fun c _ j k hj _ => inn _ _ (by omega)), hI⟩
  rw [lenP]
  by_cases c20 : q.2.2.2.1.length = 20
  · have e : pushS q.2.2.2.1 q.2.2.1 = q.2.2.2.1.tail ++ [q.2.2.1] := by unfold pushS; rw [if_pos c20]
    have hl : q.2.2.2.1.tail.length = 19 := by rw [List.length_tail, c20]
    rw [e] at hk
    rw [show minS (q.2.2.2.1.length + 1) 20 = 20 from by unfold minS; rw [if_neg (by omega)]]
    rw [show minS (q.2.2.2.1.length + 1) 20 = 20 from by unfold minS; rw [if_neg (by omega)]] at new old
    have hkl := (List.getElem?_eq_some_iff.mp hk).1
    rw [List.length_append, List.length_singleton, hl] at hkl
    by_cases ek : k = 19
    · rw [ek, ← hl, at_len] at hk
      cases hk
      rw [ek, show ((na + 1) % 20 + 20 - 20 + 19) % 20 = na by omega]
      exact new
    · rw [List.getElem?_append_left (by omega), List.getElem?_tail] at hk
      obtain ⟨z, z1, z2, z3⟩ := t5 (k + 1) w' hk
      rw [show ((na + 1) % 20 + 20 - 20 + k) % 20 = (na + 20 - q.2.2.2.1.length + (k + 1)) % 20 by omega]
      exact old _ w' (Nat.mod_lt _ (by decide)) (by omega) z z1 z2 z3
  · have e : pushS q.2.2.2.1 q.2.2.1 = q.2.2.2.1 ++ [q.2.2.1] := by unfold pushS; rw [if_neg c20]
    have em : minS (q.2.2.2.1.length + 1) 20 = q.2.2.2.1.length + 1 := by unfold minS; split <;> omega
    rw [e] at hk
    rw [em]
    rw [em] at new old
    have hkl := (List.getElem?_eq_some_iff.mp hk).1
    rw [List.length_append, List.length_singleton] at hkl
    by_cases ek : k = q.2.2.2.1.length
    · rw [ek, at_len] at hk
      cases hk
      rw [ek, show ((na + 1) % 20 + 20 - (q.2.2.2.1.length + 1) + q.2.2.2.1.length) % 20 = na by omega]
      exact new
    · rw [List.getElem?_append_left (by omega)] at hk
      obtain ⟨z, z1, z2, z3⟩ := t5 k w' hk
      rw [show ((na + 1) % 20 + 20 - (q.2.2.2.1.length + 1) + k) % 20 = (na + 20 - q.2.2.2.1.length + k) % 20 by omega]
      exact old _ w' (Nat.mod_lt _ (by decide)) (by omega) z z1 z2 z3
/-- the references of a new World -/
theorem RW_st {p : Nat} (hx : sh.length = x) (hx0 : 0 < x) : StW (sh ++ wSh) (rf fR x 32 (RW x p)) x ∧ rf fR x 32 (RW x p) x 7 = some p := by
  have rd : ∀ i k, i < 32 → rf fR x 32 (RW x p) (x + i) k = (fnd (RW x p) i k).map (fun e => e.2.2) := fun i k hi => by
    unfold rf
    rw [if_pos ⟨by omega, by omega⟩, Nat.add_sub_cancel_left]
  refine ⟨⟨fun i z hi => ?_, fun z hz => ?_, hx0⟩, ?_⟩
  · rw [List.getElem?_append_right (by omega), hx, Nat.add_sub_cancel_left]
    exact hi
  · have h0 : z.1 < 32 := (by decide : ∀ q ∈ wFR, q.1 < 32) z hz
    rw [rd _ _ h0]
    unfold wFR at hz
    simp only [List.mem_cons, List.not_mem_nil, or_false] at hz
    rcases hz with rfl | rfl | rfl | rfl | rfl | rfl | rfl | rfl | rfl | rfl | rfl | rfl | rfl | rfl | rfl | rfl | rfl | rfl | rfl | rfl | rfl | rfl | rfl | rfl | rfl | rfl | rfl | rfl | rfl | rfl | rfl <;> rfl
  · have := rd 0 7 (by decide)
    rw [Nat.add_zero] at this
    rw [this]
    rfl
end BA
