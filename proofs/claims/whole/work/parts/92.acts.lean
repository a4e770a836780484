/-! the class: chance, kill, spoil, join -/
section BD
variable {l : Launch} {G : Gx} {d : Nat} {sh : Sh} {fR : FRt} {A u v : Nat} {f f' : FI} {g : FL} {Z : Zs} {q : Td}
theorem P_chance {a : Int32} (h : PSt sh fR f A Z) (hz : zOK Z) : Cl l G (d + 6) 32 8095 mX11_chance [.ref A, .int a] (sh, f, g, fR) (RG A sh fR f g (chanceS Z a).1 (chanceS Z a).2) := by
  obtain ⟨u, v, hr, hs, hp, hn, hP, hx⟩ := h.at
  have no : (∀ q n, Z.2.2.2.2 = some q → ixS a 101 = some n → n ≠ 0 → 999 < q.2.2.1.1 0 + n) → chanceS Z a = (zRef Z 2, -1) := fun hno => by
    unfold chanceS
    cases hq : Z.2.2.2.2 with
    | none => rfl
    | some q =>
      dsimp only
      cases hx : ixS a 101 with
      | none => rfl
      | some n =>
        dsimp only
        rw [if_pos]
        by_cases c : n = 0
        · exact Or.inl c
        · exact Or.inr (hno q n hq hx c)
  have rf : ∀ {y : Int32}, RG A sh fR f g (zRef Z 2) y (some (.int y)) (sh, up2 f (A + 2) 2 (f (A + 2) 2 + nI 1), g, fR) := .ref hr hx hz (by decide)
  refine VGX11_chance hs hp hn hP ?_
  rcases pk_ix a (n := 101) (by decide) with z | z | ⟨n, hn', rfl⟩
  · rw [no (fun q n _ hx => by rw [ixS_lo z] at hx; cases hx)]
    exact ⟨fun _ => rf, fun c => absurd (Int32.lt_trans z (by decide)) c⟩
  · rw [no (fun q n _ hx => by rw [ixS_hi z] at hx; cases hx)]
    exact ⟨fun _ => rf, fun _ => ⟨fun _ => rf, fun c => absurd (Int32.lt_of_lt_of_le (by decide) z) c⟩⟩
  · by_cases hn0 : n = 0
    · subst hn0
      rw [no (fun q n _ hx hne => by rw [ixS_in hn' (by decide)] at hx; cases hx; exact absurd rfl hne)]
      exact ⟨fun _ => rf, fun c => absurd (by decide) c⟩
    refine ⟨fun c => absurd c (Int32.not_lt.mpr (nI_le (by omega) (by omega))), fun _ => ⟨fun c => absurd (nI_le (show n ≤ 100 by omega) (by decide)) (Int32.not_le.mpr c), fun _ => ?_⟩⟩
    refine D_canGo hr hx hz (by omega) (fun q na hq t h999 => ⟨fun _ => ?_, fun c => absurd c (by decide)⟩) (fun hno => ⟨fun c => absurd rfl c, fun _ => ?_⟩)
    · have ok := hz.2.2.2.2 q hq
      have e : chanceS Z (nI n) = (tdW (actZ Z q q.2.2.1) (qU q) (actsS q.1 q.2.1 true n (q.2.2.1, 0, 0, Z.2.2.1)).2.2.2 (actsS q.1 q.2.1 true n (q.2.2.1, 0, 0, Z.2.2.1)).1, nI (actsS q.1 q.2.1 true n (q.2.2.1, 0, 0, Z.2.2.1)).2.2.1) := by
        unfold chanceS
        rw [hq]
        dsimp only
        rw [ixS_in hn' (by decide)]
        dsimp only
        rw [if_neg (by omega)]
        rfl
      rw [e]
      refine D_beginAct (d := d + 2) hr hx hz hq (fun sh1 f1 g1 fR1 r1 x1 i1 j1 l1 => ?_)
      obtain ⟨-, -, hu1, hu2, -, -⟩ := r1.pl
      have hwin : q.1.1 3 ≤ 99 := by have := ok.1.2.2.1; omega
      have hA := r1.1.2.2.1
      have loop : ∀ r k (f0 : FI), r + k = n → PSx fR1 f0 A u (tdW (actZ Z q q.2.2.1) (qU q) (actsS q.1 q.2.1 true k (q.2.2.1, 0, 0, Z.2.2.1)).2.2.2 (actsS q.1 q.2.1 true k (q.2.2.1, 0, 0, Z.2.2.1)).1) → gX q.1 (actsS q.1 q.2.1 true k (q.2.2.1, 0, 0, Z.2.2.1)).1 → (actsS q.1 q.2.1 true k (q.2.2.1, 0, 0, Z.2.2.1)).1.1 0 = q.2.2.1.1 0 + k → (actsS q.1 q.2.1 true k (q.2.2.1, 0, 0, Z.2.2.1)).2.2.2 < 2147483648 → FrP A sh fR f sh1 fR1 f0 → LgX11_chance_33 l G d (RG A sh fR f g (tdW (actZ Z q q.2.2.1) (qU q) (actsS q.1 q.2.1 true n (q.2.2.1, 0, 0, Z.2.2.1)).2.2.2 (actsS q.1 q.2.1 true n (q.2.2.1, 0, 0, Z.2.2.1)).1) (nI (actsS q.1 q.2.1 true n (q.2.2.1, 0, 0, Z.2.2.1)).2.2.1)) sh1 fR1 A u f0 g1 (nI n) (nI (actsS q.1 q.2.1 true k (q.2.2.1, 0, 0, Z.2.2.1)).2.2.1) (nI k) := by
        intro r
        induction r with
        | zero =>
          intro k f0 hk a0 b0 t0 s0 i0
          have : k = n := by omega
          subst this
          exact VGX11_chance_33 r1.1 r1.2.2.1 r1.2.2.2.2.1 r1.pl.1 ⟨fun _ => ⟨_, _, _, _, rfl, rfl, ⟨u, v, r1, a0⟩, hz.act hq ⟨by omega, b0.2⟩ s0, i0, j1, l1⟩, fun c => absurd (nI_le (Nat.le_refl _) (by omega)) c⟩
        | succ r ih =>
          intro k f0 hk a0 b0 t0 s0 i0
          obtain ⟨-, na0, -, -, t0'⟩ := a0.td rfl
          obtain ⟨m, hC, hI⟩ := t0'.2.2.1
          refine VGX11_chance_33 r1.1 r1.2.2.1 r1.2.2.2.2.1 r1.pl.1 ⟨fun c => absurd c (nI_ge (by omega) (by omega)), fun _ => ?_⟩
          refine D_stepD (wd := A + 3) (T0 := (actsS q.1 q.2.1 true k (q.2.2.1, 0, 0, Z.2.2.1)).1.1 0) (s := (actsS q.1 q.2.1 true k (q.2.2.1, 0, 0, Z.2.2.1)).2.2.2) r1.1.2.2.2.1 r1.2.2.2.2.1 r1.pl.1 (by omega) (by omega) ⟨sA_3 r1.1, by omega⟩ hC t0'.1 (fun _ => a0.2.2.1) s0 ok.1 hwin ok.dl ok.2.2.2.1 rfl (by omega) b0.2.1 hI b0.2.2 (fun f2 m2 c1 c2 c3 c4 c5 c6 c7 => ?_)
          intro w16 hw
          obtain ⟨-, k14, -, kseed, k31, -⟩ := c2
          have hc6 : (actsS q.1 q.2.1 true (k + 1) (q.2.2.1, 0, 0, Z.2.2.1)).1.1 0 = (actsS q.1 q.2.1 true k (q.2.2.1, 0, 0, Z.2.2.1)).1.1 0 + 1 := c6
          have hM : HW f2 (A + 40) q.1 q.2.1 (actsS q.1 q.2.1 true (k + 1) (q.2.2.1, 0, 0, Z.2.2.1)).1 := ⟨m2, by rw [hc6]; exact c1, c4⟩
          have x2 : PSx fR1 f2 A u (tdW (tdW (actZ Z q q.2.2.1) (qU q) (actsS q.1 q.2.1 true k (q.2.2.1, 0, 0, Z.2.2.1)).2.2.2 (actsS q.1 q.2.1 true k (q.2.2.1, 0, 0, Z.2.2.1)).1) (q.1, q.2.1, (actsS q.1 q.2.1 true k (q.2.2.1, 0, 0, Z.2.2.1)).1, pushS q.2.2.2.1 q.2.2.1, q.2.2.2.2) (actsS q.1 q.2.1 true (k + 1) (q.2.2.1, 0, 0, Z.2.2.1)).2.2.2 (actsS q.1 q.2.1 true (k + 1) (q.2.2.1, 0, 0, Z.2.2.1)).1) := a0.wd r1 rfl (fun r k a b c d e i => c7.2 r k (by omega) b c d e (fun _ => i)) (kseed rfl) hM
          rw [hw, k14, nI_add, nI_add]
          exact ih (k + 1) f2 (by omega) x2 ⟨by rw [hc6]; omega, by rw [hc6]; exact c3, c5⟩ (by rw [hc6]; omega) k31 (i0.go (fun r k z => c7.2 r k (by omega) (by omega) (by omega) (by omega) (by omega) (fun _ => by omega)))
      exact loop n 0 f1 rfl x1 ok.2.2.2.2.1.x rfl hz.2.2.1 i1
    · rw [no (fun q n' hq hx hne => by rw [ixS_in hn' (by decide)] at hx; cases hx; exact hno q hq)]
      exact rf
theorem P_kill {a : Int32} (h : PSt sh fR f A Z) (hz : zOK Z) : Cl l G (d + 4) 32 8095 mX11_kill [.ref A, .int a] (sh, f, g, fR) (RG A sh fR f g (killS Z a).1 (killS Z a).2) := by
  obtain ⟨u, v, hr, hs, hp, hn, hP, hx⟩ := h.at
  have rf : ∀ {y : Int32}, RG A sh fR f g (zRef Z 3) y (some (.int y)) (sh, up2 f (A + 2) 3 (f (A + 2) 3 + nI 1), g, fR) := .ref hr hx hz (by decide)
  refine VGX11_kill hs hp hn hP ?_
  refine D_isPathP hs hp hn hP hx hz (fun q p hq hp6 hp4 e => ⟨fun c => absurd c (by decide), fun _ => ?_⟩) (fun hno => ⟨fun _ => ?_, fun c => absurd rfl c⟩)
  · subst e
    obtain ⟨h4, na, -, -, t⟩ := hx.td hq
    have ok := hz.2.2.2.2 q hq
    have h64 := ok.1.2.2.2.2.2.1
    have hg := ok.2.2.2.2.1
    have hW : StW sh fR (A + 40) := hs.2.2.2.1
    obtain ⟨s1, s2, s3⟩ := rt_ok hW hp4
    obtain ⟨m, hC, hI⟩ := t.2.2.1
    have e : killS Z (nI p) = if freS q.2.2.1 p then (actZ Z q (dieS q.2.2.1 p), nI 1) else (zRef Z 3, nI 0) := by
      unfold killS
      rw [hq]
      dsimp only
      rw [ixS_in hp6 (by omega)]
    rw [e, clN (by omega)]
    refine ⟨inbN hp4 (by decide), _, s1, s2, s3, D_isAlive hW hC hg.x.qN hp4 ⟨fun c => ?_, fun c => ?_⟩⟩
    · rw [if_pos (bI_ne0 c)]
      refine D_beginAct hr hx hz hq (fun sh1 f1 g1 fR1 r1 x1 i1 j1 l1 => ?_)
      obtain ⟨-, -, hu1, hu2, -, -⟩ := r1.pl
      have hA := r1.1.2.2.1
      obtain ⟨-, na1, -, -, t1⟩ := x1.td rfl
      refine D_buryX (d := d + 1) r1.1.2.2.2.1 r1.2.2.2.2.1 r1.pl.1 h64 t1.2.2.1 hg.x hp4 (fun f2 a2 e2 => ?_)
      have hd := hg.x.die p
      have x2 : PSx fR1 f2 A u (tdW (actZ Z q q.2.2.1) (qU q) Z.2.2.1 (dieS q.2.2.1 p)) := x1.wd r1 rfl (fun r k a _ _ _ _ _ => e2 r k (by omega)) (by rw [e2 _ _ (by omega)]; exact x1.2.2.1) a2
      exact ⟨_, _, _, _, rfl, rfl, ⟨u, v, r1, x2⟩, hz.act hq ⟨by rw [hd.2]; exact hg.1, hd.1.2⟩ hz.2.2.1, i1.go (fun r k z => e2 r k (by omega)), j1, l1⟩
    · rw [if_neg (by rw [bI_0.mp c]; decide)]
      exact rf
  · have e : killS Z a = (zRef Z 3, nI 0) := by
      unfold killS
      cases ht : Z.2.2.2.2 with
      | none => rfl
      | some q => dsimp only; rw [hno q ht]
    rw [e]
    exact rf
end BD
