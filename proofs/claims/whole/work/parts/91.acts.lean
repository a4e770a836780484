/-! the class: ticks, chance, join, kill, spoil -/
section BC
variable {l : Launch} {G : Gx} {d : Nat} {sh : Sh} {fR : FRt} {A u v : Nat} {f f' : FI} {g : FL} {Z : Zs} {q : Td}
theorem RG.ref {i : Nat} {y : Int32} (hr : PRs sh fR A u v) (hx : PSx fR f A u Z) (hz : zOK Z) (hi : i < 6) : RG A sh fR f g (zRef Z i) y (some (.int y)) (sh, up2 f (A + 2) i (f (A + 2) i + nI 1), g, fR) := ⟨_, _, _, _, rfl, rfl, ⟨u, v, hr, hx.ref hr hi⟩, hz, ⟨fun r k z => ⟨up2_r (by omega), rfl⟩, fun _ _ => rfl⟩, fun _ _ _ => rfl, Nat.le_refl _⟩
theorem FrP.go {sh1 : Sh} {fR1 : FRt} {f1 f2 : FI} (h : FrP A sh fR f sh1 fR1 f1) (e : ∀ r k, (r = 0 ∨ (A + 117 ≤ r ∧ r < A + 155)) → f2 r k = f1 r k) : FrP A sh fR f sh1 fR1 f2 := ⟨fun r k z => ⟨(e r k z).trans (h.1 r k z).1, (h.1 r k z).2⟩, h.2⟩
def qU (q : Td) : Td := (q.1, q.2.1, q.2.2.1, pushS q.2.2.2.1 q.2.2.1, q.2.2.2.2)
theorem tdOK.act (ok : tdOK q) {w' : Wd} (hw : gW q.1 w') : tdOK (q.1, q.2.1, w', pushS q.2.2.2.1 q.2.2.1, q.2.2.2.2) := by
  obtain ⟨o1, o2, o3, o4, o5, o6, o7, o8, o9⟩ := ok
  refine ⟨o1, o2, o3, o4, hw, fun w hm => ?_, ?_, o8, o9⟩
  · have hm' : w ∈ (if q.2.2.2.1.length = 20 then q.2.2.2.1.tail else q.2.2.2.1) ++ [q.2.2.1] := hm
    rcases List.mem_append.mp hm' with z | z
    · split at z
      · exact o6 w (List.mem_of_mem_tail z)
      · exact o6 w z
    · rw [List.mem_singleton.mp z]
      exact o5
  · show ((if q.2.2.2.1.length = 20 then q.2.2.2.1.tail else q.2.2.2.1) ++ [q.2.2.1]).length ≤ 20
    rw [List.length_append, List.length_singleton]
    split
    · rw [List.length_tail]; omega
    · omega
theorem zOK.act (hz : zOK Z) (hq : Z.2.2.2.2 = some q) {w' : Wd} {x : Nat} (hw : gW q.1 w') (hx : x < 2147483648) : zOK (tdW (actZ Z q q.2.2.1) (qU q) x w') := ⟨hz.1, hz.2.1, hx, hz.2.2.2.1, fun q' e => by cases e; exact (hz.2.2.2.2 q hq).act hw⟩
/-- the world alone is changed -/
theorem PSx.wd {w' : Wd} {x : Nat} (hr : PRs sh fR A u v) (h : PSx fR f A u Z) (hq : Z.2.2.2.2 = some q) (e : ∀ r k, (r < A + 40 ∨ A + 72 ≤ r) → r ≠ u + 7 → r ≠ u + 10 → r ≠ u + 13 → r ≠ u + 16 → r ≠ A + 3 → f' r k = f r k) (h3 : f' (A + 3) 0 = nI x) (hM : HW f' (A + 40) q.1 q.2.1 w') : PSx fR f' A u (tdW Z q x w') := by
  obtain ⟨-, -, hu1, hu2, -, -⟩ := hr.pl
  obtain ⟨-, na, hna, h11, t⟩ := h.td hq
  obtain ⟨x1, x2, x3, x4⟩ := h
  rw [hq] at x4
  refine ⟨x1.keep (e _ _ (by omega) (by omega) (by omega) (by omega) (by omega) (by omega)) (fun k => e _ _ (by omega) (by omega) (by omega) (by omega) (by omega) (by omega)), fun i hi => by rw [e _ _ (by omega) (by omega) (by omega) (by omega) (by omega) (by omega)]; exact x2 i hi, h3, PSr.act (na' := na) hr x4 (fun r k a b c hlt => e r k (by omega) (by unfold kpP at a; omega) (by unfold kpP at a; omega) (by unfold kpP at a; omega) (by unfold kpP at a; omega) (by unfold kpP at a; omega)) hM hna (by rw [e _ _ (by omega) (by omega) (by omega) (by omega) (by omega) (by omega)]; exact h11) (by rw [e _ _ (by omega) (by omega) (by omega) (by omega) (by omega) (by omega)]; exact t.2.2.2.1) (fun k w hk => ?_)⟩
  obtain ⟨y, y1, y2, y3⟩ := t.2.2.2.2.1 k w hk
  have hy := hr.2.2.2.2.2.2.2.2.1 _ y (Nat.mod_lt _ (by decide)) y1
  exact ⟨y, y1, y2, y3.keep (fun c hc j i hj ec => e _ _ (by omega) (by omega) (by omega) (by omega) (by omega) (by omega))⟩
theorem P_ticks {a : Int32} (h : PSt sh fR f A Z) (hz : zOK Z) : Cl l G (d + 6) 32 8095 mX11_ticks [.ref A, .int a] (sh, f, g, fR) (RG A sh fR f g (ticksS Z a).1 (ticksS Z a).2) := by
  obtain ⟨u, v, hr, hs, hp, hn, hP, hx⟩ := h.at
  have no : (∀ q n, Z.2.2.2.2 = some q → ixS a 101 = some n → n ≠ 0 → 999 < q.2.2.1.1 0 + n) → ticksS Z a = (zRef Z 2, -1) := fun hno => by
    unfold ticksS
    cases hq : Z.2.2.2.2 with
    | none => rfl
    | some q =>
      dsimp only
      cases hx : ixS a 101 with
      | none => rfl
      | some n =>
        dsimp only
        rw [if_pos]
        by_cases c : n = 0
        · exact Or.inl c
        · exact Or.inr (hno q n hq hx c)
  have rf : ∀ {y : Int32}, RG A sh fR f g (zRef Z 2) y (some (.int y)) (sh, up2 f (A + 2) 2 (f (A + 2) 2 + nI 1), g, fR) := .ref hr hx hz (by decide)
  refine VGX11_ticks hs hp hn hP ?_
  rcases pk_ix a (n := 101) (by decide) with z | z | ⟨n, hn', rfl⟩
  · rw [no (fun q n _ hx => by rw [ixS_lo z] at hx; cases hx)]
    exact ⟨fun _ => rf, fun c => absurd (Int32.lt_trans z (by decide)) c⟩
  · rw [no (fun q n _ hx => by rw [ixS_hi z] at hx; cases hx)]
    exact ⟨fun _ => rf, fun _ => ⟨fun _ => rf, fun c => absurd (Int32.lt_of_lt_of_le (by decide) z) c⟩⟩
  · by_cases hn0 : n = 0
    · subst hn0
      rw [no (fun q n _ hx hne => by rw [ixS_in hn' (by decide)] at hx; cases hx; exact absurd rfl hne)]
      exact ⟨fun _ => rf, fun c => absurd (by decide) c⟩
    refine ⟨fun c => absurd c (Int32.not_lt.mpr (nI_le (by omega) (by omega))), fun _ => ⟨fun c => absurd (nI_le (show n ≤ 100 by omega) (by decide)) (Int32.not_le.mpr c), fun _ => ?_⟩⟩
    refine D_canGo hr hx hz (by omega) (fun q na hq t h999 => ⟨fun _ => ?_, fun c => absurd c (by decide)⟩) (fun hno => ⟨fun c => absurd rfl c, fun _ => ?_⟩)
    · have ok := hz.2.2.2.2 q hq
      have e : ticksS Z (nI n) = (tdW (actZ Z q q.2.2.1) (qU q) Z.2.2.1 (actsS q.1 q.2.1 false n (q.2.2.1, 0, 0, 0)).1, nI (actsS q.1 q.2.1 false n (q.2.2.1, 0, 0, 0)).2.1) := by
        unfold ticksS
        rw [hq]
        dsimp only
        rw [ixS_in hn' (by decide)]
        dsimp only
        rw [if_neg (by omega)]
        rfl
      rw [e]
      refine D_beginAct (d := d + 2) hr hx hz hq (fun sh1 f1 g1 fR1 r1 x1 i1 j1 l1 => ?_)
      obtain ⟨-, -, hu1, hu2, -, -⟩ := r1.pl
      have hwin : q.1.1 3 ≤ 99 := by have := ok.1.2.2.1; omega
      have hA := r1.1.2.2.1
      have loop : ∀ r k (f0 : FI), r + k = n → PSx fR1 f0 A u (tdW (actZ Z q q.2.2.1) (qU q) Z.2.2.1 (actsS q.1 q.2.1 false k (q.2.2.1, 0, 0, 0)).1) → gX q.1 (actsS q.1 q.2.1 false k (q.2.2.1, 0, 0, 0)).1 → (actsS q.1 q.2.1 false k (q.2.2.1, 0, 0, 0)).1.1 0 = q.2.2.1.1 0 + k → FrP A sh fR f sh1 fR1 f0 → LgX11_ticks_33 l G d (RG A sh fR f g (tdW (actZ Z q q.2.2.1) (qU q) Z.2.2.1 (actsS q.1 q.2.1 false n (q.2.2.1, 0, 0, 0)).1) (nI (actsS q.1 q.2.1 false n (q.2.2.1, 0, 0, 0)).2.1)) sh1 fR1 A u f0 g1 (nI n) (nI (actsS q.1 q.2.1 false k (q.2.2.1, 0, 0, 0)).2.1) (nI k) := by
        intro r
        induction r with
        | zero =>
          intro k f0 hk a0 b0 t0 i0
          have : k = n := by omega
          subst this
          exact VGX11_ticks_33 r1.1 r1.2.2.1 r1.2.2.2.2.1 r1.pl.1 ⟨fun _ => ⟨_, _, _, _, rfl, rfl, ⟨u, v, r1, a0⟩, hz.act hq ⟨by omega, b0.2⟩ hz.2.2.1, i0, j1, l1⟩, fun c => absurd (nI_le (Nat.le_refl _) (by omega)) c⟩
        | succ r ih =>
          intro k f0 hk a0 b0 t0 i0
          obtain ⟨-, na0, -, -, t0'⟩ := a0.td rfl
          refine VGX11_ticks_33 r1.1 r1.2.2.1 r1.2.2.2.2.1 r1.pl.1 ⟨fun c => absurd c (nI_ge (by omega) (by omega)), fun _ => ?_⟩
          refine D_stepX r1.1.2.2.2.1 r1.2.2.2.2.1 r1.pl.1 (by omega) t0'.2.2.1 t0'.1 ok.1 hwin ok.dl ok.2.2.2.1 b0 (by show (actsS q.1 q.2.1 false k (q.2.2.1, 0, 0, 0)).1.1 0 < 1000; omega) (fun f2 a2 b2 t2 k2 c2 i2 w16 hw => ?_)
          obtain ⟨y1, y2, y3⟩ := tick_any (π := q.1) (win := q.1.1 3) (dl := q.2.1) (actsS q.1 q.2.1 false k (q.2.2.1, 0, 0, 0)).1 0 (actsS q.1 q.2.1 false k (q.2.2.1, 0, 0, 0)).2.2.2
          have z1 : (actsS q.1 q.2.1 false (k + 1) (q.2.2.1, 0, 0, 0)).1 = (tickS q.1 (q.1.1 3) q.2.1 false (actsS q.1 q.2.1 false k (q.2.2.1, 0, 0, 0)).1 0).1 := by rw [acts_succ, y1]
          have z2 : (actsS q.1 q.2.1 false (k + 1) (q.2.2.1, 0, 0, 0)).2.1 = (actsS q.1 q.2.1 false k (q.2.2.1, 0, 0, 0)).2.1 + (tickS q.1 (q.1.1 3) q.2.1 false (actsS q.1 q.2.1 false k (q.2.2.1, 0, 0, 0)).1 0).2.1 := by rw [acts_succ, y2]
          have k13 : f2 (A + 40) 13 = nI (tickS q.1 (q.1.1 3) q.2.1 false (actsS q.1 q.2.1 false k (q.2.2.1, 0, 0, 0)).1 0).2.1 := k2.1
          rw [hw, k13, nI_add, nI_add, ← z2]
          have x2 : PSx fR1 f2 A u (tdW (tdW (actZ Z q q.2.2.1) (qU q) Z.2.2.1 (actsS q.1 q.2.1 false k (q.2.2.1, 0, 0, 0)).1) (q.1, q.2.1, (actsS q.1 q.2.1 false k (q.2.2.1, 0, 0, 0)).1, pushS q.2.2.2.1 q.2.2.1, q.2.2.2.2) Z.2.2.1 (tickS q.1 (q.1.1 3) q.2.1 false (actsS q.1 q.2.1 false k (q.2.2.1, 0, 0, 0)).1 0).1) := a0.wd r1 rfl (fun r k a b c d e i => i2 r k (by omega) b c d e) (by rw [i2 _ _ (by omega) (by omega) (by omega) (by omega) (by omega)]; exact a0.2.2.1) a2
          refine ih (k + 1) f2 (by omega) (by rw [z1]; exact x2) (by rw [z1]; exact b2) (by rw [z1]; refine Eq.trans t2 ?_; show (actsS q.1 q.2.1 false k (q.2.2.1, 0, 0, 0)).1.1 0 + 1 = _; omega) (i0.go (fun r k z => i2 r k (by omega) (by omega) (by omega) (by omega) (by omega)))
      exact loop n 0 f1 rfl x1 ok.2.2.2.2.1.x rfl i1
    · rw [no (fun q n' hq hx hne => by rw [ixS_in hn' (by decide)] at hx; cases hx; exact hno q hq)]
      exact rf
end BC
