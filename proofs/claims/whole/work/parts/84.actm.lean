/-! the reference: acts -/
section NA
variable {l : Launch} {G : Gx} {d : Nat} {sh : Sh} {fR : FRt} {B b x : Nat} {f f' : FI} {g g' : FL} {Z : Zs} {q : Td} {dr : Bool}
def FrB (B : Nat) (f f' : FI) : Prop := ∀ r k, (r < B ∨ B + 38 ≤ r) → f' r k = f r k
theorem FrB.tr {f'' : FI} (h : FrB B f f') (h' : FrB B f' f'') : FrB B f f'' := fun r k a => (h' r k a).trans (h r k a)
theorem C_keeps {K : FI → FL → Prop} (hs : StM sh fR B) (h : MSt f g B Z) (hz : zOK Z) (hq : Z.2.2.2.2 = some q) (H : ∀ f' : FI, MSt f' g B (actZ Z q q.2.2.1) → FrB B f f' → K f' g) : Cl l G (d + 2) 0 0 mX12_keeps [.ref B] (sh, f, g, fR) (qv sh fR K) := by
  obtain ⟨b, hb, h13, t⟩ := h.td hq
  have ok := hz.2.2.2.2 q hq
  have h20 := ok.2.2.2.2.2.2.1
  obtain ⟨uf, u1, u2, u3⟩ := t.2.2.2.1
  have h50 := t.2.2.2.2.1
  obtain ⟨m0, hR0, hI0⟩ := t.2.2.1
  obtain ⟨x1, x2, x3, x4⟩ := id h
  rw [hq] at x4
  have go : ∀ (f1 : FI) (uf1 : Nat) (us1 : List Wd), uf1 < 20 → us1.length < 20 → f1 B 49 = nI uf1 → f1 B 50 = nI us1.length → (∀ r k, ¬ (r = B ∧ (k = 49 ∨ k = 50)) → f1 r k = f r k) → (∀ (k : Nat) (w : Wd), us1[k]? = some w → HM f B (2 + (uf1 + k) % 20) q.1 w) → pushS q.2.2.2.1 q.2.2.1 = us1 ++ [q.2.2.1] → LpX12_keeps_32 l G d (qv sh fR K) sh fR B f1 g := by
    intro f1 uf1 us1 hu hl e49 e50 ef hun ep
    refine VX12_keeps_32 hs ?_
    rw [e49, e50, nI_add, pk_rem (by omega) (by decide) (by decide), nI_add]
    have hmod : (uf1 + us1.length) % 20 < 20 := Nat.mod_lt _ (by decide)
    refine C_copies hs (by decide) (by omega) (by omega) (hR0.congr (fun j _ _ i => ef _ _ (by omega))) (fun f2 c2 e2 => ⟨_, _, rfl, rfl, ?_⟩)
    rw [e2 _ _ (by unfold lyr; omega), e50, nI_add]
    have oth : ∀ r k, ¬ lyr B (2 + (uf1 + us1.length) % 20) r k → ¬ (r = B ∧ (k = 49 ∨ k = 50)) → up2 f2 B 50 (nI (us1.length + 1)) r k = f r k := fun r k h1 h2 => by
      rw [up2_ne (by omega), e2 r k h1]
      exact ef r k h2
    refine H _ ⟨x1.keep (oth _ _ (by unfold lyr; omega) (by omega)) (fun k => oth _ _ (by unfold lyr; omega) (by omega)), fun i hi => by rw [oth _ _ (by unfold lyr; omega) (by omega)]; exact x2 i hi, x3, ?_⟩ (fun r k z => oth r k (by unfold lyr; omega) (by omega))
    show MSr _ g B Z.2.2.2.1 (some (q.1, q.2.1, q.2.2.1, pushS q.2.2.2.1 q.2.2.1, q.2.2.2.2))
    refine MSr.act (uf' := uf1) x4 (fun r k a b c => oth r k (by unfold lyr; omega) c) (fun _ => rfl) ⟨m0, hR0.oly (u := 2 + (uf1 + us1.length) % 20) (by omega) (fun j k a b c => oth _ _ c (by omega)), hI0⟩ hu (by rw [up2_k (by decide), e2 _ _ (by unfold lyr; omega)]; exact e49) (by rw [up2_eq, ep, List.length_append, List.length_singleton]) (fun k w hk => ?_)
    rw [ep] at hk
    by_cases ek : k = us1.length
    · subst ek
      rw [at_len] at hk
      cases hk
      exact ⟨m0, c2.congr (fun j _ _ i => up2_r (by omega)), hI0⟩
    · have hkl : k < us1.length := by
        have := (List.getElem?_eq_some_iff.mp hk).1
        rw [List.length_append, List.length_singleton] at this
        omega
      rw [List.getElem?_append_left hkl] at hk
      obtain ⟨m, v1, v2⟩ := hun k w hk
      exact ⟨m, v1.oly (u := 2 + (uf1 + us1.length) % 20) (by omega) (fun j i a b c => oth _ _ c (by omega)), v2⟩
  refine VX12_keeps hs ?_
  rw [h50, u2]
  refine ⟨fun c => go f uf q.2.2.2.1 u1 (by
      have : q.2.2.2.1.length ≠ 20 := fun z => c (by rw [z])
      omega) u2 h50 (fun _ _ _ => rfl) u3 (by unfold pushS; rw [if_neg (fun z => c (by rw [z]))]), fun c => ?_⟩
  have h20' : q.2.2.2.1.length = 20 := (nI_eq (by omega) (by decide)).mp c
  rw [nI_add, pk_rem (by omega) (by decide) (by decide), h20', pk_sub (by decide)]
  refine go _ ((uf + 1) % 20) q.2.2.2.1.tail (Nat.mod_lt _ (by decide)) (by rw [List.length_tail]; omega) (by rw [up2_k (by decide), up2_eq]) (by rw [up2_eq, List.length_tail, h20']) (fun r k z => by rw [up2_ne (by omega), up2_ne (by omega)]) (fun k w hk => ?_) (by unfold pushS; rw [if_pos h20'])
  rw [List.getElem?_tail] at hk
  have := u3 (k + 1) w hk
  rw [show ((uf + 1) % 20 + k) % 20 = (uf + (k + 1)) % 20 by omega]
  exact this
def tdW (Z : Zs) (q : Td) (x : Nat) (w : Wd) : Zs := (Z.1, Z.2.1, x, Z.2.2.2.1, some (q.1, q.2.1, w, q.2.2.2.1, q.2.2.2.2))
theorem C_tick0 {K : FI → FL → Prop} (hs : StM sh fR B) (h : MSt (up2 f B 60 (nI 0)) g B Z) (h60 : f B 60 = bI dr) (hq : Z.2.2.2.2 = some q) (hπ : πOK q.1) (hdl : ∀ p, p < q.1.1 6 → 1 ≤ q.2.1 p ∧ q.2.1 p ≤ 9) (hg : gY q.1 q.2.2.1) (ht : q.2.2.1.1 0 < 1000) (hx : Z.2.2.1 < 2147483648) (H : ∀ (f' : FI) (g' : FL), MSt (up2 f' B 60 (nI 0)) g' B (tdW Z q (tickS q.1 (q.1.1 3) q.2.1 dr q.2.2.1 Z.2.2.1).2.2.2.2 (tickS q.1 (q.1.1 3) q.2.1 dr q.2.2.1 Z.2.2.1).1) → f' B 60 = bI dr → gY q.1 (tickS q.1 (q.1.1 3) q.2.1 dr q.2.2.1 Z.2.2.1).1 → (tickS q.1 (q.1.1 3) q.2.1 dr q.2.2.1 Z.2.2.1).1.1 0 = q.2.2.1.1 0 + 1 → f' B 61 = nI (tickS q.1 (q.1.1 3) q.2.1 dr q.2.2.1 Z.2.2.1).2.1 → f' B 62 = nI (tickS q.1 (q.1.1 3) q.2.1 dr q.2.2.1 Z.2.2.1).2.2.1 → (tickS q.1 (q.1.1 3) q.2.1 dr q.2.2.1 Z.2.2.1).2.2.2.2 < 2147483648 → FrB B f f' → K f' g') : Cl l G (d + 6) 0 0 mX12_ticksOn [.ref B, .int (nI 0)] (sh, f, g, fR) (qv sh fR K) := by
  obtain ⟨b, hb, h13, t⟩ := h.td hq
  obtain ⟨m, hR, hI⟩ := t.2.2.1
  have hR' : RM f B 0 q.2.2.1 m := hR.congr (fun j _ _ i => (up2_r (by omega)).symm)
  have hT' : TM f B b q.1 (q.1.1 3) q.2.1 := by
    obtain ⟨a1, a2, a3, a4⟩ := t.1
    exact ⟨a1.congr (fun j _ _ i => (up2_r (by omega)).symm) (up2_k (by decide)).symm, by rw [up2_k (by decide)] at a2; exact a2, fun p hp => by have := a3 p hp; rw [up2_r (by omega)] at this; exact this, a4⟩
  refine C_ticksOn hs (by decide) hπ hdl hR' hT' hg.2 hI ht h60 h.2.2.1 hx (fun f1 g1 m1 c1 c2 c3 c4 c5 c6 c7 => ?_)
  generalize hTk : tickS q.1 (q.1.1 3) q.2.1 dr q.2.2.1 Z.2.2.1 = T at *
  obtain ⟨k1, k2, k3, k4, k5, k6, k7⟩ := c2
  have ev : ∀ r k, ¬ tchS B 0 r k → up2 f1 B 60 (nI 0) r k = up2 f B 60 (nI 0) r k := fun r k z => by
    by_cases y : r = B ∧ k = 60
    · rw [y.1, y.2, up2_eq, up2_eq]
    · rw [up2_ne y, up2_ne y]
      exact c6 r k z
  obtain ⟨x1, x2, x3, x4⟩ := h
  rw [hq] at x4
  obtain ⟨uf, u1, u2, u3⟩ := t.2.2.2.1
  refine H f1 g1 ⟨x1.keep (ev _ _ (by unfold tchS tchQ tch; omega)) (fun k => ev _ _ (by unfold tchS tchQ tch; omega)), fun i hi => by rw [ev _ _ (by unfold tchS tchQ tch; omega)]; exact x2 i hi, k5, ?_⟩ k1 ⟨by rw [c5]; omega, by rw [c5]; exact c3⟩ c5 k2 k3 k6 (fun r k z => c6 r k (by unfold tchS tchQ tch; omega))
  refine MSr.act (uf' := uf) x4 (fun r k a bb c => ev r k (by unfold kpM at a; unfold tchS tchQ tch; omega)) (fun k => c7 _ _ (by omega) (by omega)) ⟨m1, c1.oth (fun j a b => by omega), c4⟩ u1 (by rw [ev _ _ (by unfold tchS tchQ tch; omega)]; exact u2) (by rw [ev _ _ (by unfold tchS tchQ tch; omega)]; exact t.2.2.2.2.1) (fun k w hk => ?_)
  obtain ⟨m2, v1, v2⟩ := u3 k w hk
  exact ⟨m2, v1.oly (u := 0) (by omega) (fun j i a b c => ev _ _ (by unfold lyr at c; unfold tchS tchQ tch; omega)), v2⟩
theorem acts_succ {π : Pl} {dl : Nat → Nat} {n : Nat} {r : Wd × Nat × Nat × Nat} : actsS π dl dr (n + 1) r = ((tickS π (π.1 3) dl dr (actsS π dl dr n r).1 (actsS π dl dr n r).2.2.2).1, (actsS π dl dr n r).2.1 + (tickS π (π.1 3) dl dr (actsS π dl dr n r).1 (actsS π dl dr n r).2.2.2).2.1, (actsS π dl dr n r).2.2.1 + (tickS π (π.1 3) dl dr (actsS π dl dr n r).1 (actsS π dl dr n r).2.2.2).2.2.1, (tickS π (π.1 3) dl dr (actsS π dl dr n r).1 (actsS π dl dr n r).2.2.2).2.2.2.2) := rfl
theorem tick_any {π : Pl} {win : Nat} {dl : Nat → Nat} (w : Wd) (x y : Nat) : (tickS π win dl false w x).1 = (tickS π win dl false w y).1 ∧ (tickS π win dl false w x).2.1 = (tickS π win dl false w y).2.1 ∧ (tickS π win dl false w x).2.2.2.2 = x := by
  rw [tickS_sx w x, tickS_sx w y]
  exact ⟨rfl, rfl, rfl⟩
theorem M_ticks {a : Int32} (hs : StM sh fR B) (h : MSt f g B Z) (hz : zOK Z) : Cl l G (d + 7) 0 0 mX12_ticks [.ref B, .int a] (sh, f, g, fR) (RQ B sh fR f g (ticksS Z a).1 (ticksS Z a).2) := by
  refine VX12_ticks hs ?_
  refine C_ahead hs h hz (by decide) (by decide) (fun q n hq h1 hn ea h9 => ⟨fun _ => ?_, fun c => absurd c (by decide)⟩) (fun hno => ⟨fun c => absurd rfl c, fun _ => ?_⟩)
  · subst ea
    have ok := hz.2.2.2.2 q hq
    have e : ticksS Z (nI n) = (tdW (actZ Z q q.2.2.1) (q.1, q.2.1, q.2.2.1, pushS q.2.2.2.1 q.2.2.1, q.2.2.2.2) Z.2.2.1 (actsS q.1 q.2.1 false n (q.2.2.1, 0, 0, 0)).1, nI (actsS q.1 q.2.1 false n (q.2.2.1, 0, 0, 0)).2.1) := by
      unfold ticksS
      rw [hq]
      dsimp only
      rw [ixS_in (show n < 101 by omega) (by decide)]
      dsimp only
      rw [if_neg (by omega)]
      rfl
    rw [e]
    refine C_keeps hs h hz hq (fun f1 m1 i1 => ?_)
    have loop : ∀ r k (f0 : FI) (g0 : FL), r + k = n → MSt (up2 f0 B 60 (nI 0)) g0 B (tdW (actZ Z q q.2.2.1) (q.1, q.2.1, q.2.2.1, pushS q.2.2.2.1 q.2.2.1, q.2.2.2.2) Z.2.2.1 (actsS q.1 q.2.1 false k (q.2.2.1, 0, 0, 0)).1) → f0 B 60 = bI false → gY q.1 (actsS q.1 q.2.1 false k (q.2.2.1, 0, 0, 0)).1 → (actsS q.1 q.2.1 false k (q.2.2.1, 0, 0, 0)).1.1 0 = q.2.2.1.1 0 + k → FrB B f f0 → LpX12_ticks_25 l G d (RQ B sh fR f g (tdW (actZ Z q q.2.2.1) (q.1, q.2.1, q.2.2.1, pushS q.2.2.2.1 q.2.2.1, q.2.2.2.2) Z.2.2.1 (actsS q.1 q.2.1 false n (q.2.2.1, 0, 0, 0)).1) (nI (actsS q.1 q.2.1 false n (q.2.2.1, 0, 0, 0)).2.1)) sh fR B f0 g0 (nI n) (nI (actsS q.1 q.2.1 false k (q.2.2.1, 0, 0, 0)).2.1) (nI k) := by
      intro r
      induction r with
      | zero =>
        intro k f0 g0 hk a0 b0 c0 t0 i0
        have : k = n := by omega
        subst this
        have e0 : up2 f0 B 60 (nI 0) = f0 := up2_self b0
        rw [e0] at a0
        exact VX12_ticks_25 hs ⟨fun _ => ⟨_, _, rfl, rfl, a0, i0⟩, fun c => absurd (nI_le (Nat.le_refl _) (by omega)) c⟩
      | succ r ih =>
        intro k f0 g0 hk a0 b0 c0 t0 i0
        refine VX12_ticks_25 hs ⟨fun c => absurd c (nI_ge (by omega) (by omega)), fun _ => ?_⟩
        refine C_tick0 (dr := false) hs a0 b0 rfl ok.1 ok.dl c0 (by show (actsS q.1 q.2.1 false k (q.2.2.1, 0, 0, 0)).1.1 0 < 1000; omega) hz.2.2.1 (fun f2 g2 a2 b2 c2 t2 k61 k62 _ i2 w10 hw => ?_)
        obtain ⟨y1, y2, y3⟩ := tick_any (π := q.1) (win := q.1.1 3) (dl := q.2.1) (actsS q.1 q.2.1 false k (q.2.2.1, 0, 0, 0)).1 Z.2.2.1 (actsS q.1 q.2.1 false k (q.2.2.1, 0, 0, 0)).2.2.2
        have z1 : (actsS q.1 q.2.1 false (k + 1) (q.2.2.1, 0, 0, 0)).1 = (tickS q.1 (q.1.1 3) q.2.1 false (actsS q.1 q.2.1 false k (q.2.2.1, 0, 0, 0)).1 Z.2.2.1).1 := by rw [acts_succ, y1]
        have z2 : (actsS q.1 q.2.1 false (k + 1) (q.2.2.1, 0, 0, 0)).2.1 = (actsS q.1 q.2.1 false k (q.2.2.1, 0, 0, 0)).2.1 + (tickS q.1 (q.1.1 3) q.2.1 false (actsS q.1 q.2.1 false k (q.2.2.1, 0, 0, 0)).1 Z.2.2.1).2.1 := by rw [acts_succ, y2]
        have k61' : f2 B 61 = nI (tickS q.1 (q.1.1 3) q.2.1 false (actsS q.1 q.2.1 false k (q.2.2.1, 0, 0, 0)).1 Z.2.2.1).2.1 := k61
        rw [hw, k61', nI_add, nI_add, ← z2]
        have a2' : MSt (up2 f2 B 60 (nI 0)) g2 B (tdW (actZ Z q q.2.2.1) (q.1, q.2.1, q.2.2.1, pushS q.2.2.2.1 q.2.2.1, q.2.2.2.2) (tickS q.1 (q.1.1 3) q.2.1 false (actsS q.1 q.2.1 false k (q.2.2.1, 0, 0, 0)).1 Z.2.2.1).2.2.2.2 (tickS q.1 (q.1.1 3) q.2.1 false (actsS q.1 q.2.1 false k (q.2.2.1, 0, 0, 0)).1 Z.2.2.1).1) := a2
        rw [y3, ← z1] at a2'
        refine ih (k + 1) f2 g2 (by omega) a2' b2 (by rw [z1]; exact c2) (by rw [z1]; refine Eq.trans t2 ?_; show (actsS q.1 q.2.1 false k (q.2.2.1, 0, 0, 0)).1.1 0 + 1 = _; omega) (i0.tr i2)
    have b1 : f1 B 60 = bI false := m1.2.2.2.2.2.1
    refine loop n 0 f1 g rfl ?_ b1 ok.2.2.2.2.1.y rfl i1
    have e1 : up2 f1 B 60 (nI 0) = f1 := up2_self b1
    rw [e1]
    exact m1
  · have e : ticksS Z a = (zRef Z 2, -1) := by
      unfold ticksS
      cases hq : Z.2.2.2.2 with
      | none => rfl
      | some q =>
        dsimp only
        cases hx : ixS a 101 with
        | none => rfl
        | some n =>
          obtain ⟨hn, ea⟩ := ixS_some (by decide) hx
          dsimp only
          rw [if_pos]
          by_cases c : n = 0
          · exact Or.inl c
          · exact Or.inr (hno q n hq ea (by omega) (by omega) (by omega))
    rw [e]
    exact .ref h (by decide)
theorem M_chance {a : Int32} (hs : StM sh fR B) (h : MSt f g B Z) (hz : zOK Z) : Cl l G (d + 7) 0 0 mX12_chance [.ref B, .int a] (sh, f, g, fR) (RQ B sh fR f g (chanceS Z a).1 (chanceS Z a).2) := by
  refine VX12_chance hs ?_
  refine C_ahead hs h hz (by decide) (by decide) (fun q n hq h1 hn ea h9 => ⟨fun _ => ?_, fun c => absurd c (by decide)⟩) (fun hno => ⟨fun c => absurd rfl c, fun _ => ?_⟩)
  · subst ea
    have ok := hz.2.2.2.2 q hq
    have e : chanceS Z (nI n) = (tdW (actZ Z q q.2.2.1) (q.1, q.2.1, q.2.2.1, pushS q.2.2.2.1 q.2.2.1, q.2.2.2.2) (actsS q.1 q.2.1 true n (q.2.2.1, 0, 0, Z.2.2.1)).2.2.2 (actsS q.1 q.2.1 true n (q.2.2.1, 0, 0, Z.2.2.1)).1, nI (actsS q.1 q.2.1 true n (q.2.2.1, 0, 0, Z.2.2.1)).2.2.1) := by
      unfold chanceS
      rw [hq]
      dsimp only
      rw [ixS_in (show n < 101 by omega) (by decide)]
      dsimp only
      rw [if_neg (by omega)]
      rfl
    rw [e]
    refine C_keeps hs h hz hq (fun f1 m1 i1 => ?_)
    have loop : ∀ r k (f0 : FI) (g0 : FL), r + k = n → MSt (up2 f0 B 60 (nI 0)) g0 B (tdW (actZ Z q q.2.2.1) (q.1, q.2.1, q.2.2.1, pushS q.2.2.2.1 q.2.2.1, q.2.2.2.2) (actsS q.1 q.2.1 true k (q.2.2.1, 0, 0, Z.2.2.1)).2.2.2 (actsS q.1 q.2.1 true k (q.2.2.1, 0, 0, Z.2.2.1)).1) → f0 B 60 = bI true → gY q.1 (actsS q.1 q.2.1 true k (q.2.2.1, 0, 0, Z.2.2.1)).1 → (actsS q.1 q.2.1 true k (q.2.2.1, 0, 0, Z.2.2.1)).1.1 0 = q.2.2.1.1 0 + k → (actsS q.1 q.2.1 true k (q.2.2.1, 0, 0, Z.2.2.1)).2.2.2 < 2147483648 → FrB B f f0 → LpX12_chance_30 l G d (RQ B sh fR f g (tdW (actZ Z q q.2.2.1) (q.1, q.2.1, q.2.2.1, pushS q.2.2.2.1 q.2.2.1, q.2.2.2.2) (actsS q.1 q.2.1 true n (q.2.2.1, 0, 0, Z.2.2.1)).2.2.2 (actsS q.1 q.2.1 true n (q.2.2.1, 0, 0, Z.2.2.1)).1) (nI (actsS q.1 q.2.1 true n (q.2.2.1, 0, 0, Z.2.2.1)).2.2.1)) sh fR B f0 g0 (nI n) (nI (actsS q.1 q.2.1 true k (q.2.2.1, 0, 0, Z.2.2.1)).2.2.1) (nI k) := by
      intro r
      induction r with
      | zero =>
        intro k f0 g0 hk a0 b0 c0 t0 s0 i0
        have : k = n := by omega
        subst this
        exact VX12_chance_30 hs ⟨fun _ => ⟨_, _, rfl, rfl, a0, fun r k z => by rw [up2_r (by omega)]; exact i0 r k z⟩, fun c => absurd (nI_le (Nat.le_refl _) (by omega)) c⟩
      | succ r ih =>
        intro k f0 g0 hk a0 b0 c0 t0 s0 i0
        refine VX12_chance_30 hs ⟨fun c => absurd c (nI_ge (by omega) (by omega)), fun _ => ?_⟩
        refine C_tick0 (dr := true) hs a0 b0 rfl ok.1 ok.dl c0 (by show (actsS q.1 q.2.1 true k (q.2.2.1, 0, 0, Z.2.2.1)).1.1 0 < 1000; omega) s0 (fun f2 g2 a2 b2 c2 t2 k61 k62 s2 i2 w10 hw => ?_)
        have k62' : f2 B 62 = nI (tickS q.1 (q.1.1 3) q.2.1 true (actsS q.1 q.2.1 true k (q.2.2.1, 0, 0, Z.2.2.1)).1 (actsS q.1 q.2.1 true k (q.2.2.1, 0, 0, Z.2.2.1)).2.2.2).2.2.1 := k62
        rw [hw, k62', nI_add, nI_add]
        exact ih (k + 1) f2 g2 (by omega) a2 b2 c2 (by refine Eq.trans t2 ?_; show (actsS q.1 q.2.1 true k (q.2.2.1, 0, 0, Z.2.2.1)).1.1 0 + 1 = _; omega) s2 (i0.tr i2)
    have b1 : f1 B 60 = bI false := m1.2.2.2.2.2.1
    refine loop n 0 (up2 f1 B 60 (nI 1)) g rfl ?_ up2_eq ok.2.2.2.2.1.y rfl hz.2.2.1 (fun r k z => by rw [up2_r (by omega)]; exact i1 r k z)
    rw [up2_up2]
    have e1 : up2 f1 B 60 (nI 0) = f1 := up2_self b1
    rw [e1]
    exact m1
  · have e : chanceS Z a = (zRef Z 2, -1) := by
      unfold chanceS
      cases hq : Z.2.2.2.2 with
      | none => rfl
      | some q =>
        dsimp only
        cases hx : ixS a 101 with
        | none => rfl
        | some n =>
          obtain ⟨hn, ea⟩ := ixS_some (by decide) hx
          dsimp only
          rw [if_pos]
          by_cases c : n = 0
          · exact Or.inl c
          · exact Or.inr (hno q n hq ea (by omega) (by omega) (by omega))
    rw [e]
    exact .ref h (by decide)
/-- the world alone is changed -/
theorem MSt.wd {w' : Wd} (h : MSt f g B Z) (hq : Z.2.2.2.2 = some q) (e : Fr B 0 f f') (hM : HM f' B 0 q.1 w') : MSt f' g B (Z.1, Z.2.1, Z.2.2.1, Z.2.2.2.1, some (q.1, q.2.1, w', q.2.2.2.1, q.2.2.2.2)) := by
  obtain ⟨b, hb, h13, t⟩ := h.td hq
  obtain ⟨uf, u1, u2, u3⟩ := t.2.2.2.1
  obtain ⟨x1, x2, x3, x4⟩ := h
  rw [hq] at x4
  refine ⟨x1.keep (e _ _ (by unfold tch; omega)) (fun k => e _ _ (by unfold tch; omega)), fun i hi => by rw [e _ _ (by unfold tch; omega)]; exact x2 i hi, x3, MSr.act (uf' := uf) x4 (fun r k a bb c => e r k (by unfold kpM at a; unfold tch; omega)) (fun _ => rfl) hM u1 (by rw [e _ _ (by unfold tch; omega)]; exact u2) (by rw [e _ _ (by unfold tch; omega)]; exact t.2.2.2.2.1) (fun k w hk => ?_)⟩
  obtain ⟨m2, v1, v2⟩ := u3 k w hk
  exact ⟨m2, v1.oly (u := 0) (by omega) (fun j i a b c => e _ _ (by unfold lyr at c; unfold tch; omega)), v2⟩
theorem M_kill {a : Int32} (hs : StM sh fR B) (h : MSt f g B Z) (hz : zOK Z) : Cl l G (d + 3) 0 0 mX12_kill [.ref B, .int a] (sh, f, g, fR) (RQ B sh fR f g (killS Z a).1 (killS Z a).2) := by
  refine VX12_kill hs ?_
  refine D_isPathM hs h hz (fun q p hq hp6 hp4 e => ⟨fun c => absurd c (by decide), fun _ => ?_⟩) (fun hno => ⟨fun _ => ?_, fun c => absurd rfl c⟩)
  · subst e
    have ok := hz.2.2.2.2 q hq
    have h64 := ok.1.2.2.2.2.2.1
    have hg := ok.2.2.2.2.1
    have hg1 := hg.1
    obtain ⟨b, hb, h13, t⟩ := h.td hq
    obtain ⟨m, hR, hI⟩ := t.2.2.1
    have e : killS Z (nI p) = if freS q.2.2.1 p then (actZ Z q (dieS q.2.2.1 p), nI 1) else (zRef Z 3, nI 0) := by
      unfold killS
      rw [hq]
      dsimp only
      rw [ixS_in hp6 (by omega)]
    rw [e]
    refine C_isFree hs (by decide) hR (hg.2.1.wN ok.1 (by omega)) hp4 ⟨fun c => ?_, fun c => ?_⟩
    · rw [if_pos (bI_ne0 c)]
      refine C_keeps hs h hz hq (fun f1 m1 i1 => ?_)
      obtain ⟨b1, -, -, t1⟩ := m1.td rfl
      refine C_diesX hs (by decide) h64 t1.2.2.1 hg.y hp4 (fun f2 a2 e2 => ⟨_, _, rfl, rfl, m1.wd rfl e2 a2, fun r k z => by rw [e2 r k (by unfold tch; omega)]; exact i1 r k z⟩)
    · rw [if_neg (by rw [bI_0.mp c]; decide)]
      exact .ref h (by decide)
  · have e : killS Z a = (zRef Z 3, nI 0) := by
      unfold killS
      cases ht : Z.2.2.2.2 with
      | none => rfl
      | some q => dsimp only; rw [hno q ht]
    rw [e]
    exact .ref h (by decide)
theorem M_spoil {a : Int32} (hs : StM sh fR B) (h : MSt f g B Z) (hz : zOK Z) : Cl l G (d + 3) 0 0 mX12_spoil [.ref B, .int a] (sh, f, g, fR) (RQ B sh fR f g (spoilS Z a).1 (spoilS Z a).2) := by
  refine VX12_spoil hs ?_
  refine D_isPathM hs h hz (fun q p hq hp6 hp4 e => ⟨fun c => absurd c (by decide), fun _ => ?_⟩) (fun hno => ⟨fun _ => ?_, fun c => absurd rfl c⟩)
  · subst e
    have ok := hz.2.2.2.2 q hq
    have h64 := ok.1.2.2.2.2.2.1
    have hg := ok.2.2.2.2.1
    have hg1 := hg.1
    obtain ⟨b, hb, h13, t⟩ := h.td hq
    obtain ⟨m, hR, hI⟩ := t.2.2.1
    have b5 := (hg.x.qN p).2.2.2.2.2
    have e : spoilS Z (nI p) = if freS q.2.2.1 p ∧ q.2.2.1.2.1 p 5 = 0 then (actZ Z q (wpt q.2.2.1 p 5 1), nI 1) else (zRef Z 3, nI 0) := by
      unfold spoilS
      rw [hq]
      dsimp only
      rw [ixS_in hp6 (by omega)]
    rw [e]
    refine C_isFree hs (by decide) hR (hg.2.1.wN ok.1 (by omega)) hp4 ⟨fun c => ?_, fun c => ?_⟩
    · rw [if_neg (by rw [bI_0.mp c]; exact fun z => by cases z.1)]
      exact .ref h (by decide)
    · simp (disch := omega) only [pk_mul, nI_add, clN]
      rw [hR.2.1 p 5 hp4 (by decide)]
      refine ⟨inbN (by omega) (by decide), fun c5 => ?_, fun c5 => ?_⟩
      · have h0 : q.2.2.1.2.1 p 5 = 0 := by
          rcases (show q.2.2.1.2.1 p 5 = 0 ∨ q.2.2.1.2.1 p 5 = 1 by omega) with z | z
          · exact z
          · exact absurd (by rw [z]) c5
        rw [if_pos ⟨bI_ne0 c, h0⟩]
        refine C_keeps hs h hz hq (fun f1 m1 i1 => ?_)
        obtain ⟨b1, -, -, t1⟩ := m1.td rfl
        obtain ⟨m2, hR2, hI2⟩ := t1.2.2.1
        have hR3 := hR2.setp (p := p) (i := 5) (x := 1) hp4 (by decide)
        have fr : Fr B 0 f1 (up2 f1 (B + 23) (40 * 0 + 14 + 6 * p + 5) (nI 1)) := Fr.rf.up (by unfold tch; omega)
        refine ⟨inbN (by omega) (by decide), _, _, rfl, rfl, m1.wd rfl fr ⟨m2, hR3, hI2⟩, fun r k z => by rw [up2_r (by omega)]; exact i1 r k z⟩
      · have h1 : q.2.2.1.2.1 p 5 = 1 := (nI_eq (by omega) (by decide)).mp c5
        rw [if_neg (fun z => by omega)]
        exact .ref h (by decide)
  · have e : spoilS Z a = (zRef Z 3, nI 0) := by
      unfold spoilS
      cases ht : Z.2.2.2.2 with
      | none => rfl
      | some q => dsimp only; rw [hno q ht]
    rw [e]
    exact .ref h (by decide)
theorem M_join {a c : Int32} (hs : StM sh fR B) (h : MSt f g B Z) (hz : zOK Z) : Cl l G (d + 3) 0 0 mX12_join [.ref B, .int a, .int c] (sh, f, g, fR) (RQ B sh fR f g (joinZ Z a c).1 (joinZ Z a c).2) := by
  refine VX12_join hs ?_
  refine D_isPathM hs h hz (fun q p hq hp6 hp4 e => ⟨fun c => absurd c (by decide), fun _ => ?_⟩) (fun hno => ⟨fun _ => ?_, fun c => absurd rfl c⟩)
  · subst e
    have ok := hz.2.2.2.2 q hq
    have h64 := ok.1.2.2.2.2.2.1
    have hg := ok.2.2.2.2.1
    have hg1 := hg.1
    obtain ⟨b, hb, h13, t⟩ := h.td hq
    obtain ⟨m, hR, hI⟩ := t.2.2.1
    obtain ⟨b0, b1, -⟩ := hg.x.qN p
    have e : joinZ Z (nI p) c = match ixS c 1000 with | none => (zRef Z 3, nI 0) | some k => if q.2.2.1.2.1 p 0 = 1 ∨ q.2.2.1.2.1 p 1 = 1 then (zRef Z 3, nI 0) else (actZ Z q (joinS q.1 q.2.2.1 p k).1, bI (joinS q.1 q.2.2.1 p k).2) := by
      unfold joinZ
      rw [hq]
      dsimp only
      rw [ixS_in hp6 (by omega)]
      dsimp only
      cases ixS c 1000 <;> rfl
    have ref : q.2.2.1.2.1 p 0 = 1 ∨ q.2.2.1.2.1 p 1 = 1 ∨ ixS c 1000 = none → joinZ Z (nI p) c = (zRef Z 3, nI 0) := fun z => by
      rw [e]
      cases hx : ixS c 1000 with
      | none => rfl
      | some k =>
        dsimp only
        rw [if_pos]
        rcases z with z | z | z
        · exact Or.inl z
        · exact Or.inr z
        · rw [hx] at z; cases z
    simp (disch := omega) only [pk_mul, nI_add, clN]
    rw [hR.2.1 p 0 hp4 (by decide), hR.2.1 p 1 hp4 (by decide)]
    refine ⟨inbN (by omega) (by decide), fun c0 => ?_, fun c0 => ⟨inbN (by omega) (by decide), fun c1 => ?_, fun c1 => ?_⟩⟩
    · rw [ref (Or.inl ((nI_eq (by omega) (by decide)).mp c0))]
      exact .ref h (by decide)
    · rw [ref (Or.inr (Or.inl ((nI_eq (by omega) (by decide)).mp c1)))]
      exact .ref h (by decide)
    · refine D_is (n := 1000) hs (by decide) (by decide) (fun k hk ek => ⟨fun _ => ?_, fun c => absurd c (by decide)⟩) (fun z => ⟨fun c => absurd rfl c, fun _ => ?_⟩)
      · subst ek
        rw [e, ixS_in hk (by decide)]
        dsimp only
        rw [if_neg (fun z => by rcases z with z | z; exact c0 (by rw [z]); exact c1 (by rw [z]))]
        refine C_keeps hs h hz hq (fun f1 m1 i1 => ?_)
        obtain ⟨b1', -, -, t1⟩ := m1.td rfl
        obtain ⟨m2, hR2, hI2⟩ := t1.2.2.1
        refine C_isJoining hs (by decide) hR2 (hg.2.1.wN ok.1 (by omega)) t1.1.1 ok.1 hp4 (by omega) (fun f2 c2 e2 => ⟨bI_01 _, _, _, rfl, rfl, m1.wd rfl e2 ⟨m2, c2, ?_⟩, fun r k z => by rw [e2 r k (by unfold tch; omega)]; exact i1 r k z⟩)
        obtain ⟨p1, p2, p3⟩ := hI2
        have ej : (joinS q.1 q.2.2.1 p k).1.2.2 = q.2.2.1.2.2 ∧ (joinS q.1 q.2.2.1 p k).1.1 2 = q.2.2.1.1 2 := by
          refine ⟨?_, joinS_2 _ _ _⟩
          unfold joinS
          split <;> rfl
        refine ⟨p1, ?_, ?_⟩
        · show m2.filter (fun r => decide ((joinS q.1 q.2.2.1 p k).1.1 2 < r.1 + r.2)) = (joinS q.1 q.2.2.1 p k).1.2.2.2.1
          rw [ej.1, ej.2]
          exact p2
        · show _ + ((joinS q.1 q.2.2.1 p k).1.2.2.1.countP _) ≤ 396
          rw [ej.1]
          exact p3
      · rw [ref (Or.inr (Or.inr z))]
        exact .ref h (by decide)
  · have e : joinZ Z a c = (zRef Z 3, nI 0) := by
      unfold joinZ
      cases ht : Z.2.2.2.2 with
      | none => rfl
      | some q => dsimp only; rw [hno q ht]
    rw [e]
    exact .ref h (by decide)
end NA
