/-! the reference: later, finish, without, alone, window, odds -/
def RX (f : FI) (g : FL) (B b : Nat) (π : Pl) (win : Nat) (dl : Nat → Nat) (w : Wd) (x : Nat) : Prop := HM f B 1 π w ∧ gY π w ∧ TM f B b π win dl ∧ f B 60 = bI false ∧ g B 51 = lN x
section MU
variable {l : Launch} {G : Gx} {d : Nat} {sh : Sh} {fR : FRt} {B b win x : Nat} {f f1 : FI} {g g1 : FL} {Z : Zs} {π : Pl} {dl : Nat → Nat} {w : Wd} {q : Td}
theorem C_step1 {K : FI → FL → Prop} (hs : StM sh fR B) (hπ : πOK π) (hdl : ∀ p, p < π.1 6 → 1 ≤ dl p ∧ dl p ≤ 9) (hX : RX f g B b π win dl w x) (hx : x < 2147483648) (ht : w.1 0 < 1000) (H : ∀ (f' : FI) (g' : FL), RX f' g' B b π win dl (tickS π win dl false w 0).1 x → (tickS π win dl false w 0).1.1 0 = w.1 0 + 1 → f' B 61 = nI (tickS π win dl false w 0).2.1 → (tickS π win dl false w 0).2.1 ≤ 1000 → f' B 63 = bI (tickS π win dl false w 0).2.2.2.1 → FrU B f f' → FrG B g g' → (∀ k, f' (B + 37) k = f (B + 37) k) → K f' g') : Cl l G (d + 6) 0 0 mX12_ticksOn [.ref B, .int (nI 1)] (sh, f, g, fR) (qv sh fR K) := by
  obtain ⟨a1, a2, a3, a4, a5⟩ := hX
  refine C_stepX hs (by decide) hπ hdl a1 a3 a2 ht a4 a5 hx (fun f' g' c1 c2 c3 c4 c5 c6 c7 c8 c9 c10 c11 => ?_)
  exact H f' g' ⟨c1, c2, c7, c8, c9⟩ c3 c4 c5 c6 c10.u (c11.u (by rw [c9, a5])) (fun k => c10 _ _ (by unfold tchS tchQ tch; omega))
theorem MSt.rx (h : MSt f g B Z) (hq : Z.2.2.2.2 = some q) (hz : zOK Z) : ∃ b, b < 2 ∧ f B 13 = nI b ∧ f (B + 2) b = nI (q.1.1 1) ∧ f (B + 6) b = nI (q.1.1 6) ∧ HM f B 0 q.1 q.2.2.1 ∧ TM f B b q.1 (q.1.1 3) q.2.1 ∧ f B 60 = bI false ∧ g B 51 = lN Z.2.2.1 ∧ gY q.1 q.2.2.1 := by
  obtain ⟨b, hb, h13, t⟩ := h.td hq
  exact ⟨b, hb, h13, t.1.1.2.2.1, t.1.1.2.2.2.2.2.2.2.1, t.2.2.1, t.1, h.2.2.2.2.2.1, h.2.2.1, (hz.2.2.2.2 q hq).2.2.2.2.1.y⟩
theorem M_later {a c : Int32} (hs : StM sh fR B) (h : MSt f g B Z) (hz : zOK Z) : Cl l G (d + 7) 0 0 mX12_later [.ref B, .int a, .int c] (sh, f, g, fR) (RQ B sh fR f g Z (laterS Z a c)) := by
  refine VX12_later hs ?_
  refine C_ahead hs h hz (by decide) (by decide) (fun q n hq _ hn ea h9 => ⟨fun _ => ?_, fun c => absurd c (by decide)⟩) (fun hno => ⟨fun c => absurd rfl c, fun _ => .is h ?_⟩)
  · subst ea
    obtain ⟨b, hb, h13, h2, h6, hX, hT, h60, h51, hg⟩ := h.rx hq hz
    have ok := hz.2.2.2.2 q hq
    have e : laterS Z (nI n) c = match ixS c 5 with | none => -1 | some j => nI (laterN (runS q.1 (q.1.1 3) q.2.1 n q.2.2.1) j) := by
      unfold laterS
      rw [hq]
      dsimp only
      rw [ixS_in (show n < 201 by omega) (by decide)]
      dsimp only
      rw [if_neg (by omega)]
      cases ixS c 5 <;> rfl
    rw [e]
    have loop : ∀ r k (f0 : FI) (g0 : FL), r + k = n → RX f0 g0 B b q.1 (q.1.1 3) q.2.1 (runS q.1 (q.1.1 3) q.2.1 k q.2.2.1) Z.2.2.1 → (runS q.1 (q.1.1 3) q.2.1 k q.2.2.1).1 0 = q.2.2.1.1 0 + k → FrU B f f0 → FrG B g g0 → LpX12_later_22 l G d (RQ B sh fR f g Z (match ixS c 5 with | none => -1 | some j => nI (laterN (runS q.1 (q.1.1 3) q.2.1 n q.2.2.1) j))) sh fR B f0 g0 (nI n) c (nI k) := by
      intro r
      induction r with
      | zero =>
        intro k f0 g0 hk a0 t0 i0 j0
        have : k = n := by omega
        subst this
        obtain ⟨m, hR, -⟩ := a0.1
        have rd : ∀ i, nset i → f0 (B + 23) (40 * 1 + i) = nI ((runS q.1 (q.1.1 3) q.2.1 k q.2.2.1).1 i) := hR.1
        have ex : ∀ (j : Nat) (y : Int32), j < 5 → c = nI j → y = nI (laterN (runS q.1 (q.1.1 3) q.2.1 k q.2.2.1) j) → RQ B sh fR f g Z (match ixS c 5 with | none => -1 | some j => nI (laterN (runS q.1 (q.1.1 3) q.2.1 k q.2.2.1) j)) (some (.int y)) (sh, f0, g0, fR) := fun j y hj ec ey => FrU.rq h i0 j0 (by rw [ec, ixS_in hj (by decide)]; exact ey)
        refine VX12_later_22 hs ?_
        simp (disch := omega) only [pk_mul, nI_add, clN]
        refine ⟨fun _ => ⟨fun z => ⟨inbN (by omega) (by decide), ex 0 _ (by decide) z (rd 1 (by unfold nset; omega))⟩, fun z => ⟨inbN (by omega) (by decide), ex 1 _ (by decide) z (rd 2 (by unfold nset; omega))⟩, fun z => ⟨inbN (by omega) (by decide), ex 2 _ (by decide) z (rd 4 (by unfold nset; omega))⟩, fun z => C_flying hs (by decide) hR (ex 3 _ (by decide) z rfl), fun z => ⟨inbN (by omega) (by decide), ex 4 _ (by decide) z (rd 5 (by unfold nset; omega))⟩, fun z => FrU.rq h i0 j0 ?_⟩, fun c => absurd (nI_le (Nat.le_refl _) (by omega)) c⟩
        cases hx : ixS c 5 with
        | none => rfl
        | some j =>
          obtain ⟨hj, rfl⟩ := ixS_some (by decide) hx
          exfalso
          obtain ⟨z0, z1, z2, z3, z4⟩ := z
          have nn : ∀ k, ¬ nI j = nI k → j ≠ k := fun k z e => z (by rw [e])
          have := nn _ z0; have := nn _ z1; have := nn _ z2; have := nn _ z3; have := nn _ z4
          omega
      | succ r ih =>
        intro k f0 g0 hk a0 t0 i0 j0
        refine VX12_later_22 hs ?_
        refine ⟨fun c => absurd c (nI_ge (by omega) (by omega)), fun _ => C_step1 hs ok.1 ok.dl a0 hz.2.2.1 (by omega) (fun f2 g2 a2 t2 _ _ _ i2 j2 _ => ?_)⟩
        rw [nI_add]
        exact ih (k + 1) f2 g2 (by omega) a2 (by show (tickS q.1 (q.1.1 3) q.2.1 false (runS q.1 (q.1.1 3) q.2.1 k q.2.2.1) 0).1.1 0 = _; rw [t2, t0]; omega) (i0.tr i2) (j0.tr j2)
    refine C_try hs hX (fun f1 a1 i1 e1 => ?_)
    exact loop n 0 f1 g rfl ⟨a1, hg, hT.u i1, by rw [e1 _ _ (by unfold lyr; omega)]; exact h60, h51⟩ rfl i1 FrG.rf
  · unfold laterS
    cases hq : Z.2.2.2.2 with
    | none => rfl
    | some q =>
      dsimp only
      cases hx : ixS a 201 with
      | none => rfl
      | some n =>
        obtain ⟨hn, ea⟩ := ixS_some (by decide) hx
        dsimp only
        rw [if_pos (hno q n hq ea (by omega) (by omega) (by omega))]
theorem C_finished {K : Int32 → FI → FL → Prop} (hs : StM sh fR B) (h : MSt f g B Z) (hz : zOK Z) (hq : Z.2.2.2.2 = some q) (hX : RX f1 g1 B b q.1 (q.1.1 3) q.2.1 w Z.2.2.1) (i1 : FrU B f f1) (j1 : FrG B g g1) (hw : w.1 0 = q.2.2.1.1 0) (H : ∀ (f' : FI) (g' : FL), FrU B f f' → FrG B g g' → K (oI (finS q.1 (q.1.1 3) q.2.1 w 200)) f' g') : Cl l G (d + 7) 0 0 mX12_finished [.ref B] (sh, f1, g1, fR) (qi sh fR K) := by
  have ok := hz.2.2.2.2 q hq
  have hl := ok.1.1
  have h0 := ok.2.2.2.2.1.1
  refine VX12_finished hs ?_
  have loop : ∀ r k (f0 : FI) (g0 : FL), r + k = 201 → (∀ j, j < k → finB q.1 (q.1.1 3) q.2.1 w j = false) → RX f0 g0 B b q.1 (q.1.1 3) q.2.1 (runS q.1 (q.1.1 3) q.2.1 k w) Z.2.2.1 → (runS q.1 (q.1.1 3) q.2.1 k w).1 0 = w.1 0 + k → FrU B f f0 → FrG B g g0 → LpX12_finished_2 l G d (qi sh fR K) sh fR B f0 g0 (nI k) := by
    intro r
    induction r with
    | zero =>
      intro k f0 g0 hk hf a0 t0 i0 j0
      refine VX12_finished_2 hs (C_ahead hs (i0.m h j0) hz (by decide) (by decide) (fun q' n hq' _ hn ea h9 => ?_) (fun hno => ⟨fun _ => ⟨_, _, _, rfl, rfl, ?_⟩, fun c => absurd rfl c⟩))
      · have := (nI_eq (by omega) (by omega)).mp ea
        omega
      · have := H f0 g0 i0 j0
        rw [show finS q.1 (q.1.1 3) q.2.1 w 200 = none from findR_none (fun j hj => hf j (by omega))] at this
        exact this
    | succ r ih =>
      intro k f0 g0 hk hf a0 t0 i0 j0
      refine VX12_finished_2 hs (C_ahead hs (i0.m h j0) hz (by decide) (by decide) (fun q' n hq' _ hn ea h9 => ?_) (fun hno => ⟨fun _ => ⟨_, _, _, rfl, rfl, ?_⟩, fun c => absurd rfl c⟩))
      · have en : n = k := ((nI_eq (by omega) (by omega)).mp ea).symm
        subst en
        have eq : q' = q := by rw [hq] at hq'; cases hq'; rfl
        subst eq
        obtain ⟨m, hR, -⟩ := a0.1
        have hTM := a0.2.2.1
        have hle := a0.2.1.2.1.2.2.1
        have hb := hTM.1.2.1
        refine ⟨fun c => absurd c (by decide), fun _ => ?_⟩
        rw [hTM.1.1, clN (show b < 2 ^ 31 by omega), hTM.1.2.2.1]
        simp (disch := omega) only [pk_mul, nI_add, clN]
        rw [show f0 (B + 23) (40 * 1 + 2) = nI ((runS q'.1 (q'.1.1 3) q'.2.1 n w).1 2) from hR.1 2 (by unfold nset; omega)]
        refine ⟨inbN (by omega) (by decide), inbN hb (by decide), fun c => ?_, fun c => ⟨_, _, _, rfl, rfl, ?_⟩⟩
        · have hne : (runS q'.1 (q'.1.1 3) q'.2.1 n w).1 2 ≠ q'.1.1 1 := fun z => c (by rw [z])
          refine C_step1 hs ok.1 ok.dl a0 hz.2.2.1 (by omega) (fun f2 g2 a2 t2 _ _ _ i2 j2 _ => ?_)
          refine ih (n + 1) f2 g2 (by omega) (fun j hj => ?_) a2 (by show (tickS q'.1 (q'.1.1 3) q'.2.1 false (runS q'.1 (q'.1.1 3) q'.2.1 n w) 0).1.1 0 = _; rw [t2, t0]; omega) (i0.tr i2) (j0.tr j2)
          rcases (show j < n ∨ j = n by omega) with z | z
          · exact hf j z
          · rw [z]; unfold finB; rw [show ((runS q'.1 (q'.1.1 3) q'.2.1 n w).1 2 == q'.1.1 1) = false from by simp; exact hne, Bool.and_false]
        · have heq := (nI_eq (by omega) (by omega)).mp c
          have := H f0 g0 i0 j0
          rw [show finS q'.1 (q'.1.1 3) q'.2.1 w 200 = some n from findR_some hf (by unfold finB; rw [show ((runS q'.1 (q'.1.1 3) q'.2.1 n w).1 2 == q'.1.1 1) = true from by simp; exact heq, decide_eq_true (by omega)]; rfl) (by omega)] at this
          exact this
      · have hgt := hno q k hq rfl (by omega) (by omega) (by omega)
        have := H f0 g0 i0 j0
        rw [show finS q.1 (q.1.1 3) q.2.1 w 200 = none from findR_none (fun j hj => by
          rcases (show j < k ∨ k ≤ j by omega) with z | z
          · exact hf j z
          · unfold finB; rw [decide_eq_false (by omega)]; rfl)] at this
        exact this
  exact loop 201 0 f1 g1 rfl (fun j hj => by omega) hX rfl i1 j1
theorem M_finish (hs : StM sh fR B) (h : MSt f g B Z) (hz : zOK Z) : Cl l G (d + 8) 0 0 mX12_finish [.ref B] (sh, f, g, fR) (RQ B sh fR f g Z (finishS Z)) := by
  obtain ⟨b0, m, -, -, -, -, hR, hI, -⟩ := h.q hz
  refine VX12_finish hs ?_
  refine C_try hs ⟨m, hR, hI⟩ (fun f1 a1 i1 e1 => ?_)
  cases hq : Z.2.2.2.2 with
  | none =>
    unfold finishS
    rw [hq]
    refine VX12_finished hs (VX12_finished_2 hs (C_ahead hs (i1.m h FrG.rf) hz (by decide) (by decide) (fun q n e => by rw [hq] at e; cases e) (fun _ => ⟨fun _ => ⟨_, _, _, rfl, rfl, FrU.rq h i1 FrG.rf rfl⟩, fun c => absurd rfl c⟩)))
  | some q =>
    obtain ⟨b, hb, h13, h2, h6, hX, hT, h60, h51, hg⟩ := h.rx hq hz
    have eq : qZ Z = q := by unfold qZ; rw [hq]; rfl
    rw [eq] at a1
    refine C_finished hs h hz hq ⟨a1, hg, hT.u i1, by rw [e1 _ _ (by unfold lyr; omega)]; exact h60, h51⟩ i1 FrG.rf rfl (fun f' g' i j => FrU.rq h i j ?_)
    unfold finishS
    rw [hq]
theorem gY.die (h : gY π w) (p : Nat) : gY π (dieS w p) ∧ (dieS w p).1 0 = w.1 0 := by
  have e : (dieS w p).1 0 = w.1 0 := by rw [dieS_1]
  refine ⟨⟨by rw [e]; exact h.1, ?_⟩, e⟩
  rw [e]
  exact h.2.die (Nat.le_refl _)
theorem C_diesX {K : FI → FL → Prop} {p v : Nat} (hs : StM sh fR B) (hv : v < 22) (h4 : π.1 6 ≤ 4) (hX : HM f B v π w) (hg : gY π w) (hp : p < 4) (H : ∀ f' : FI, HM f' B v π (dieS w p) → Fr B v f f' → K f' g) : Cl l G (d + 2) 0 0 mX12_dies [.ref B, .int (nI v), .int (nI p)] (sh, f, g, fR) (qv sh fR K) := by
  obtain ⟨m, hR, hI⟩ := hX
  have hf : flyS w p ≤ w.2.2.1.countP (fun s => s.2.2.2.2.2.2.1) := by
    unfold flyS
    refine List.countP_mono_left (fun s _ hs => ?_)
    simp at hs
    exact hs.1
  have h3 := hI.2.2
  have h1 := (hg.2.2.1 p).2.1
  exact C_dies hs hv hR (fun s hs => by have := (hg.2.2.2.1 s hs).1; omega) hp (by omega) (by omega) (fun f' c e => H f' ⟨_, c, hI.die hg.2⟩ e)
theorem Fr.u {f' : FI} (e : Fr B 1 f f') : FrU B f f' := e.s.u
theorem RX.die {f' : FI} (h : RX f g B b π win dl w x) (p : Nat) (hM : HM f' B 1 π (dieS w p)) (e : Fr B 1 f f') : RX f' g B b π win dl (dieS w p) x := ⟨hM, (h.2.1.die p).1, h.2.2.1.u e.u, by rw [e _ _ (by unfold tch; omega)]; exact h.2.2.2.1, h.2.2.2.2⟩
theorem M_without {a : Int32} (hs : StM sh fR B) (h : MSt f g B Z) (hz : zOK Z) : Cl l G (d + 8) 0 0 mX12_without [.ref B, .int a] (sh, f, g, fR) (RQ B sh fR f g Z (withoutS Z a)) := by
  refine VX12_without hs ?_
  refine D_isPathM hs h hz (fun q p hq hp6 hp4 e => ⟨fun _ => ?_, fun c => absurd c (by decide)⟩) (fun hno => ⟨fun c => absurd rfl c, fun _ => .is h ?_⟩)
  · subst e
    obtain ⟨b, hb, h13, h2, h6, hX, hT, h60, h51, hg⟩ := h.rx hq hz
    have ok := hz.2.2.2.2 q hq
    have h64 := ok.1.2.2.2.2.2.1
    refine C_try hs hX (fun f1 a1 i1 e1 => ?_)
    have r1 : RX f1 g B b q.1 (q.1.1 3) q.2.1 q.2.2.1 Z.2.2.1 := ⟨a1, hg, hT.u i1, by rw [e1 _ _ (by unfold lyr; omega)]; exact h60, h51⟩
    refine C_diesX hs (by decide) h64 a1 hg hp4 (fun f2 a2 e2 => ?_)
    refine C_finished hs h hz hq (r1.die p a2 e2) (i1.tr e2.u) FrG.rf (hg.die p).2 (fun f' g' i j => FrU.rq h i j ?_)
    unfold withoutS
    rw [hq]
    dsimp only
    rw [ixS_in hp6 (by omega)]
  · unfold withoutS
    cases ht : Z.2.2.2.2 with
    | none => rfl
    | some q => dsimp only; rw [hno q ht]
theorem M_alone {a : Int32} (hs : StM sh fR B) (h : MSt f g B Z) (hz : zOK Z) : Cl l G (d + 8) 0 0 mX12_alone [.ref B, .int a] (sh, f, g, fR) (RQ B sh fR f g Z (aloneS Z a)) := by
  refine VX12_alone hs ?_
  refine D_isPathM hs h hz (fun q p hq hp6 hp4 e => ⟨fun _ => ?_, fun c => absurd c (by decide)⟩) (fun hno => ⟨fun c => absurd rfl c, fun _ => .is h ?_⟩)
  · subst e
    obtain ⟨b, hb, h13, h2, h6, hX, hT, h60, h51, hg⟩ := h.rx hq hz
    have ok := hz.2.2.2.2 q hq
    have h64 := ok.1.2.2.2.2.2.1
    have loop : ∀ r k (f0 : FI), r + k = q.1.1 6 → RX f0 g B b q.1 (q.1.1 3) q.2.1 (othersS k p q.2.2.1) Z.2.2.1 → (othersS k p q.2.2.1).1 0 = q.2.2.1.1 0 → FrU B f f0 → LpX12_alone_18 l G d (RQ B sh fR f g Z (aloneS Z (nI p))) sh fR B f0 g (nI p) (nI k) := by
      intro r
      induction r with
      | zero =>
        intro k f0 hk a0 t0 i0
        have e : k = q.1.1 6 := by omega
        subst e
        refine VX12_alone_18 hs ?_
        rw [a0.2.2.1.1.1, clN (by omega), a0.2.2.1.1.2.2.2.2.2.2.2.1]
        refine ⟨inbN hb (by decide), fun _ => C_finished hs h hz hq a0 i0 FrG.rf t0 (fun f' g' i j => FrU.rq h i j ?_), fun c => absurd (nI_le (Nat.le_refl _) (by omega)) c⟩
        unfold aloneS
        rw [hq]
        dsimp only
        rw [ixS_in hp6 (by omega)]
      | succ r ih =>
        intro k f0 hk a0 t0 i0
        have eo : othersS (k + 1) p q.2.2.1 = if k = p then othersS k p q.2.2.1 else dieS (othersS k p q.2.2.1) k := rfl
        refine VX12_alone_18 hs ?_
        rw [a0.2.2.1.1.1, clN (by omega), a0.2.2.1.1.2.2.2.2.2.2.2.1]
        refine ⟨inbN hb (by decide), fun c => absurd c (nI_ge (by omega) (by omega)), fun _ => ⟨fun c => VX12_alone_42 hs ?_, fun c => ?_⟩⟩
        · rw [if_pos ((nI_eq (by omega) (by omega)).mp c)] at eo
          rw [nI_add]
          exact ih (k + 1) f0 (by omega) (by rw [eo]; exact a0) (by rw [eo]; exact t0) i0
        · rw [if_neg (fun z => c (by rw [z]))] at eo
          refine C_diesX hs (by decide) h64 a0.1 a0.2.1 (by omega) (fun f2 a2 e2 => VX12_alone_42 hs ?_)
          rw [nI_add]
          exact ih (k + 1) f2 (by omega) (by rw [eo]; exact a0.die k a2 e2) (by rw [eo, (a0.2.1.die k).2]; exact t0) (i0.tr e2.u)
    refine C_try hs hX (fun f1 a1 i1 e1 => ?_)
    exact loop (q.1.1 6) 0 f1 rfl ⟨a1, hg, hT.u i1, by rw [e1 _ _ (by unfold lyr; omega)]; exact h60, h51⟩ rfl i1
  · unfold aloneS
    cases ht : Z.2.2.2.2 with
    | none => rfl
    | some q => dsimp only; rw [hno q ht]
end MU
