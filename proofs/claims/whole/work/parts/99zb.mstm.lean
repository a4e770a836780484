/-! the reference's stream: the call -/
def RQs (B : Nat) (sh : Sh) (fR : FRt) (f : FI) (g : FL) (Z : Zs) : Option Value → Hp → Prop := fun r h => ∃ dl, dlOK Z dl ∧ RQ B sh fR f g (strZ Z dl).1 (strZ Z dl).2 r h
section MSC
variable {l : Launch} {G : Gx} {d : Nat} {sh : Sh} {fR : FRt} {B : Nat} {f f' : FI} {g g' : FL} {Z : Zs}
def kpB (B b r k : Nat) : Prop := (B + 23 ≤ r ∧ r ≤ B + 29) ∨ (B + 34 ≤ r ∧ r ≤ B + 36) ∨ (r = B ∧ (k = 13 ∨ k = 49 ∨ k = 50 ∨ k = 52 ∨ k = 64)) ∨ bkR B b r k
theorem MTd.bk {b : Nat} {q : Td} (h : MTd f g B b q) (h64 : q.1.1 6 ≤ 4) (e : ∀ r k, kpB B b r k → f' r k = f r k) (eg : ∀ k, 4 * b ≤ k → k < 4 * b + 4 → g' (B + 15) k = g (B + 15) k) : MTd f' g' B b q := by
  obtain ⟨⟨⟨p1, p2, p3, p4, p5, p6, p7, p8, p9, p10, p11⟩, t2, t3, t4⟩, n1, n2, ⟨uf, u1, u2, u3⟩, n4, n5, n6⟩ := h
  have b1 : ∀ j, ((2 ≤ j ∧ j ≤ 6) ∨ j = 10) → f' (B + j) b = f (B + j) b := fun j hj => e _ _ (Or.inr (Or.inr (Or.inr (Or.inl ⟨by omega, rfl⟩))))
  have b4 : ∀ j i, ((7 ≤ j ∧ j ≤ 9) ∨ j = 11 ∨ j = 12) → i < 4 → f' (B + j) (4 * b + i) = f (B + j) (4 * b + i) := fun j i hj hi => e _ _ (Or.inr (Or.inr (Or.inr (Or.inr (Or.inl ⟨by omega, by omega, by omega⟩)))))
  have b16 : ∀ j i, (j = 13 ∨ j = 14) → i < 1600 → f' (B + j) (1600 * b + i) = f (B + j) (1600 * b + i) := fun j i hj hi => e _ _ (Or.inr (Or.inr (Or.inr (Or.inr (Or.inr ⟨by omega, by omega, by omega⟩)))))
  have b0 : ∀ k, (k = 13 ∨ k = 49 ∨ k = 50 ∨ k = 52 ∨ k = 64) → f' B k = f B k := fun k hk => e _ _ (Or.inr (Or.inr (Or.inl ⟨rfl, hk⟩)))
  have hm : ∀ v w, v ≠ 1 → HM f B v q.1 w → HM f' B v q.1 w := fun v w hv hh => by
    obtain ⟨m, h1, h2⟩ := hh
    exact ⟨m, h1.oly (u := 1) (fun z => hv z.symm) (fun j k a b c => e _ _ (Or.inl ⟨by omega, by omega⟩)), h2⟩
  refine ⟨⟨⟨by rw [b0 _ (by omega)]; exact p1, p2, by rw [b1 _ (by omega)]; exact p3, by rw [b1 _ (by omega)]; exact p4, by rw [b1 _ (by omega)]; exact p5, by rw [b1 _ (by omega)]; exact p6, by rw [b1 _ (by omega)]; exact p7, by rw [b1 _ (by omega)]; exact p8, fun p hp => by rw [b4 _ _ (by omega) (by omega)]; exact p9 p hp, fun p hp => ?_, fun i hi => ?_⟩, by rw [b0 _ (by omega)]; exact t2, fun p hp => by rw [e _ _ (Or.inl ⟨by omega, by omega⟩)]; exact t3 p hp, t4⟩, fun p hp => by rw [eg _ (by omega) (by omega)]; exact n1 p hp, hm 0 _ (by decide) n2, ⟨uf, u1, by rw [b0 _ (by omega)]; exact u2, fun k w hk => hm _ _ (by omega) (u3 k w hk)⟩, by rw [b0 _ (by omega)]; exact n4, by rw [b0 _ (by omega)]; exact n5, fun k r hk => ?_⟩
  · have := p10 p hp
    unfold PMj at this ⊢
    rw [b4 _ _ (by omega) (by omega), b4 _ _ (by omega) (by omega)]
    exact this
  · have := p11 i hi
    unfold PMf at this ⊢
    cases hf : q.1.2.2.2.2 i with
    | none =>
      rw [hf] at this
      show f' (B + 11) (4 * b + i) = -1
      rw [b4 _ _ (by omega) (by omega)]; exact this
    | some ops =>
      rw [hf] at this
      obtain ⟨q1, q2, c0, q3, q4, q5, q6⟩ := this
      refine ⟨by rw [b0 _ (by omega)]; exact q1, q2, c0, by rw [b4 _ _ (by omega) (by omega)]; exact q3, by rw [b4 _ _ (by omega) (by omega)]; exact q4, q5, fun j o hj => ?_⟩
      have hj2 := (List.getElem?_eq_some_iff.mp hj).1
      rw [Nat.add_assoc, b16 13 _ (by omega) (by omega), b16 14 _ (by omega) (by omega), ← Nat.add_assoc]
      exact q6 j o hj
  · have := n6 k r hk
    rw [e _ _ (Or.inr (Or.inl ⟨by omega, by omega⟩)), e _ _ (Or.inr (Or.inl ⟨by omega, by omega⟩)), e _ _ (Or.inr (Or.inl ⟨by omega, by omega⟩))]
    exact this
theorem M_stream (hs : StM sh fR B) (h : MSt f g B Z) (hz : zOK Z) : Cl l G (d + 7) 0 0 mX12_stream [.ref B] (sh, f, g, fR) (RQs B sh fR f g Z) := by
  obtain ⟨⟨t1, t2⟩, m2, m3, ⟨⟨m4, m4'⟩, m5, m6, m7, b0, hb0, m8, m9⟩⟩ := h
  obtain ⟨b, hbb⟩ : ∃ b, b = 1 - b0 := ⟨_, rfl⟩
  have hb : b < 2 := by omega
  have h16 := hz.1
  refine VX12_stream hs ?_
  rw [m8, pk_sub (by omega), ← hbb, clN (k := b) (by omega), t1]
  refine ⟨inbN hb (by decide), inbN hb (by decide), fun w3 hw3 => ?_⟩
  rw [pk_mul] at hw3
  rw [hw3]
  obtain ⟨F0, hF0⟩ : ∃ F : FI, F = up2 (up2 (up2 (up2 (up2 (up2 (up2 (up2 f B 2 (nI Z.1.length)) B 1 (nI 0)) B 5 (nI 0)) B 8 (nI 0)) B 9 (-1)) B 29 (nI b)) (B + 6) b (nI 0)) (B + 10) b (nI 0) := ⟨_, rfl⟩
  rw [← hF0]
  have k0 : ∀ r k, ¬ (r = B ∧ (k = 2 ∨ k = 1 ∨ k = 5 ∨ k = 8 ∨ k = 9 ∨ k = 29)) → ¬ ((r = B + 6 ∨ r = B + 10) ∧ k = b) → F0 r k = f r k := fun r k z z2 => by
    rw [hF0, up2_ne (by omega), up2_ne (by omega), up2_ne (by omega), up2_ne (by omega), up2_ne (by omega), up2_ne (by omega), up2_ne (by omega), up2_ne (by omega)]
  have v2 : F0 B 2 = nI Z.1.length := by rw [hF0, up2_r (by omega), up2_r (by omega), up2_k (by decide), up2_k (by decide), up2_k (by decide), up2_k (by decide), up2_k (by decide), up2_eq]
  have v1 : F0 B 1 = nI 0 := by rw [hF0, up2_r (by omega), up2_r (by omega), up2_k (by decide), up2_k (by decide), up2_k (by decide), up2_k (by decide), up2_eq]
  have v5 : F0 B 5 = nI 0 := by rw [hF0, up2_r (by omega), up2_r (by omega), up2_k (by decide), up2_k (by decide), up2_k (by decide), up2_eq]
  have v8 : F0 B 8 = nI 0 := by rw [hF0, up2_r (by omega), up2_r (by omega), up2_k (by decide), up2_k (by decide), up2_eq]
  have v9 : F0 B 9 = -1 := by rw [hF0, up2_r (by omega), up2_r (by omega), up2_k (by decide), up2_eq]
  have v29 : F0 B 29 = nI b := by rw [hF0, up2_r (by omega), up2_r (by omega), up2_eq]
  have v6 : F0 (B + 6) b = nI 0 := by rw [hF0, up2_r (by omega), up2_eq]
  have v10 : F0 (B + 10) b = nI 0 := by rw [hF0, up2_eq]
  -- the end
  have L139 : ∀ (F : FI) (f' : FI) (g' : FL) (n' : Nat), (∀ r k, ¬ (r = B + 11 ∧ 4 * b ≤ k ∧ k < 4 * b + 4) → ¬ (r = B ∧ k = 28) → F r k = F0 r k) → n' ≤ 40 → FTx f' g' B Z.1 b n' (txtD Z.1) → FB B b F f' → GB B b g g' → LpX12_stream_139 l G d (RQs B sh fR f g Z) sh fR B f' g' (nI n') := by
    intro F f' g' n' hFF hn' hX hF hG
    have kf : ∀ r k, ¬ scR B r k → ¬ bkR B b r k → ¬ (r = B ∧ (k = 1 ∨ k = 2 ∨ k = 29)) → f' r k = f r k := fun r k z z2 z3 => by
      rw [hF r k z z2, hFF r k (fun y => z2 (Or.inr (Or.inl ⟨Or.inr (Or.inl y.1), y.2⟩))) (fun y => z (Or.inl ⟨y.1, by omega⟩)), k0 r k (fun y => ?_) (fun y => z2 (Or.inl ⟨by omega, y.2⟩))]
      rcases y with ⟨y1, y2⟩
      have : k = 5 ∨ k = 8 ∨ k = 9 := by omega
      exact z (Or.inl ⟨y1, by omega⟩)
    have nsc : ∀ r k, (r < B ∨ B + 22 ≤ r ∨ (B + 1 ≤ r ∧ r ≤ B + 15) ∨ (r = B ∧ (k = 1 ∨ k = 10 ∨ k = 11 ∨ k = 13 ∨ k = 41 ∨ k = 49 ∨ k = 50 ∨ k = 52 ∨ k = 60 ∨ k = 64))) → ¬ scR B r k := fun r k z y => by unfold scR at y; omega
    have nbk : ∀ r k, (r ≤ B + 1 ∨ B + 15 ≤ r) → ¬ bkR B b r k := fun r k z y => by unfold bkR at y; omega
    have nb0 : ∀ r k, bkR B b0 r k → ¬ bkR B b r k := fun r k z y => by unfold bkR at y z; omega
    have f1 : f' B 1 = nI 0 := by
      rw [hF _ _ (nsc _ _ (by omega)) (nbk _ _ (by omega)), hFF _ _ (by omega) (by omega)]; exact v1
    unfold FTx at hX
    refine VX12_stream_139 hs ?_
    cases htx : txtD Z.1 with
    | error x =>
      rw [htx] at hX
      obtain ⟨x1, x2, x3⟩ := hX
      have e8 := x1.2.1
      have e9 := x1.2.2.2.2.1
      refine ⟨fun z => absurd z x1.er8.2, fun _ => ?_⟩
      obtain ⟨F2, hF2⟩ : ∃ F2 : FI, F2 = up2 (up2 (up2 f' B 10 (f' B 8)) B 11 (f' B 9)) (B + 22) 1 (f' (B + 22) 1 + nI 1) := ⟨_, rfl⟩
      rw [← hF2]
      have kF2 : ∀ r k, ¬ (r = B ∧ (k = 10 ∨ k = 11)) → ¬ (r = B + 22 ∧ k = 1) → F2 r k = f' r k := fun r k z z2 => by rw [hF2, up2_ne z2, up2_ne (by omega), up2_ne (by omega)]
      refine ⟨fun _ => 0, fun π hπ => (by rw [htx] at hπ; cases hπ), ?_⟩
      unfold strZ
      rw [htx]
      refine ⟨F2, g', rfl, rfl, ⟨⟨?_, fun k b hk => (by cases hk)⟩, fun i hi => ?_, ?_, ⟨⟨?_, ?_⟩, ?_, ?_, ?_, b0, hb0, ?_, ?_⟩⟩, fun r k hr => ?_⟩
      · rw [kF2 _ _ (by omega) (by omega)]; exact f1
      · show F2 (B + 22) i = nI (fu Z.2.1 1 (Z.2.1 1 + 1) i)
        by_cases zi : i = 1
        · rw [zi, fu_eq, hF2, up2_eq, kf _ _ (nsc _ _ (by omega)) (nbk _ _ (by omega)) (by omega), m2 1 (by decide), nI_add]
        · rw [fu_ne zi, kF2 _ _ (by omega) (by omega), kf _ _ (nsc _ _ (by omega)) (nbk _ _ (by omega)) (by omega)]; exact m2 i hi
      · rw [hG _ _ (by omega) (by omega)]; exact m3
      · rw [hF2, up2_r (by omega), up2_k (by decide), up2_eq]; exact e8
      · rw [hF2, up2_r (by omega), up2_eq]; exact e9
      · rw [kF2 _ _ (by omega) (by omega), kf _ _ (nsc _ _ (by omega)) (nbk _ _ (by omega)) (by omega)]; exact m5
      · rw [kF2 _ _ (by omega) (by omega), kf _ _ (nsc _ _ (by omega)) (nbk _ _ (by omega)) (by omega)]; exact m6
      · exact x3.kp (fun k => kF2 _ _ (by omega) (by omega))
      · rw [kF2 _ _ (by omega) (by omega), kf _ _ (nsc _ _ (by omega)) (nbk _ _ (by omega)) (by omega)]; exact m8
      · show match Z.2.2.2.2 with
          | none => MTn F2 B b0
          | some q => MTd F2 g' B b0 q
        cases hq : Z.2.2.2.2 with
        | none =>
          rw [hq] at m9
          obtain ⟨n1, n2, n3, n4, n5, n6, uf, n7, n8⟩ := m9
          have kk : ∀ r k, ¬ (r = B ∧ (k = 10 ∨ k = 11)) → ¬ (r = B + 22 ∧ k = 1) → ¬ scR B r k → ¬ bkR B b r k → ¬ (r = B ∧ (k = 1 ∨ k = 2 ∨ k = 29)) → F2 r k = f r k := fun r k y1 y2 y3 y4 y5 => by rw [kF2 r k y1 y2, kf r k y3 y4 y5]
          subst n1
          refine ⟨rfl, ?_, ?_, n4.oly (u := 1) (by decide) (fun j k a b c => kk _ _ (by omega) (by omega) (nsc _ _ (by omega)) (nbk _ _ (by omega)) (by omega)), ?_, ?_, uf, n7, ?_⟩
          · rw [kk _ _ (by omega) (by omega) (nsc _ _ (by omega)) (fun y => by unfold bkR at y; omega) (by omega)]; exact n2
          · rw [kk _ _ (by omega) (by omega) (nsc _ _ (by omega)) (fun y => by unfold bkR at y; omega) (by omega)]; exact n3
          · rw [kk _ _ (by omega) (by omega) (nsc _ _ (by omega)) (nbk _ _ (by omega)) (by omega)]; exact n5
          · rw [kk _ _ (by omega) (by omega) (nsc _ _ (by omega)) (nbk _ _ (by omega)) (by omega)]; exact n6
          · rw [kk _ _ (by omega) (by omega) (nsc _ _ (by omega)) (nbk _ _ (by omega)) (by omega)]; exact n8
        | some q =>
          rw [hq] at m9
          have h64 : q.1.1 6 ≤ 4 := (hz.2.2.2.2 q hq).1.2.2.2.2.2.1
          refine MTd.bk m9 h64 (fun r k z => ?_) (fun k z z2 => hG _ _ (by omega) (by omega))
          have hn : (¬ bkR B b r k ∧ ¬ scR B r k) ∧ ¬ (r = B ∧ (k = 10 ∨ k = 11)) ∧ ¬ (r = B + 22 ∧ k = 1) ∧ ¬ (r = B ∧ (k = 1 ∨ k = 2 ∨ k = 29)) := by
            rcases z with z | z | z | z
            · exact ⟨⟨nbk _ _ (by omega), nsc _ _ (by omega)⟩, by omega, by omega, by omega⟩
            · exact ⟨⟨nbk _ _ (by omega), nsc _ _ (by omega)⟩, by omega, by omega, by omega⟩
            · exact ⟨⟨nbk _ _ (by omega), nsc _ _ (by omega)⟩, by omega, by omega, by omega⟩
            · refine ⟨⟨nb0 r k z, nsc _ _ ?_⟩, ?_⟩ <;> (unfold bkR at z; omega)
          rw [kF2 r k hn.2.1 hn.2.2.1, kf r k hn.1.2 hn.1.1 hn.2.2.2]
      · rw [kF2 _ _ (by omega) (by omega), kf _ _ (nsc _ _ (by omega)) (nbk _ _ (by omega)) (by omega)]
    | ok π =>
      rw [htx] at hX
      obtain ⟨⟨e, hS⟩, x1, x2⟩ := hX
      obtain ⟨hM, h29, -, h8, c, h28, hc, hP⟩ := hS
      have e9 := hM.2.2.2.2.2.2.2.2
      have e1600 : e ≤ 1600 := Nat.le_trans hM.2.2.1 hM.len
      have h64 : π.1 6 ≤ 4 := x2.1.2.2.2.2.2.1
      obtain ⟨⟨p1, p2, p3, p4, p5, p6⟩, p7, p8, p9, p10⟩ := hP
      refine ⟨fun _ => ?_, fun z => absurd hM.ok8.2 z⟩
      obtain ⟨F2, hF2⟩ : ∃ F2 : FI, F2 = up2 (up2 (up2 (up2 f' B 10 (f' B 8)) B 11 (f' B 9)) B 13 (f' B 29)) B 41 (nI 1) := ⟨_, rfl⟩
      rw [← hF2]
      have kF2 : ∀ r k, ¬ (r = B ∧ (k = 10 ∨ k = 11 ∨ k = 13 ∨ k = 41)) → F2 r k = f' r k := fun r k z => by rw [hF2, up2_ne (by omega), up2_ne (by omega), up2_ne (by omega), up2_ne (by omega)]
      have w13 : F2 B 13 = nI b := by rw [hF2, up2_k (by decide), up2_eq]; exact h29
      have w10 : F2 B 10 = nI 0 := by rw [hF2, up2_k (by decide), up2_k (by decide), up2_k (by decide), up2_eq]; exact hM.ok8.1
      have w11 : F2 B 11 = -1 := by rw [hF2, up2_k (by decide), up2_k (by decide), up2_eq]; exact e9
      have w41 : F2 B 41 = nI 1 := by rw [hF2, up2_eq]
      refine C_begin (d := d + 4) (b := b) (π := π) hs w13 hb (by rw [kF2 _ _ (by omega)]; exact p3) (by rw [kF2 _ _ (by omega)]; exact p6) h64 (fun f3 c1 c2 c3 c4 c5 c6 => ?_)
      have k3 : ∀ r k, ¬ (r = B + 23 ∧ k < 40) → ¬ (r = B + 27 ∧ k < 200) → r ≠ B + 29 → ¬ (r = B ∧ (k = 50 ∨ k = 52 ∨ k = 64 ∨ k = 10 ∨ k = 11 ∨ k = 13 ∨ k = 41)) → f3 r k = f' r k := fun r k y1 y2 y3 y4 => by rw [c6 r k y1 y2 y3 (by omega), kF2 r k (by omega)]
      have kr : ∀ r k, B + 1 ≤ r → r ≤ B + 22 → f3 r k = f' r k := fun r k y1 y2 => k3 r k (by omega) (by omega) (by omega) (by omega)
      have k0' : ∀ k, (k = 1 ∨ k = 49 ∨ k = 60) → f3 B k = f' B k := fun k hk => k3 B k (by omega) (by omega) (by omega) (by omega)
      obtain ⟨dl, hdl⟩ : ∃ dl : Nat → Nat, dl = fun p => if p < 4 then (f' (B + 7) (4 * b + p)).toNatClampNeg else 0 := ⟨_, rfl⟩
      have hd4 : ∀ p, p < 4 → f' (B + 7) (4 * b + p) = nI (dl p) ∧ dl p ≤ 9999 := fun p hp => by
        obtain ⟨n, n1, n2⟩ := h8 (4 * b + p) (by omega)
        have : dl p = n := by rw [hdl]; show (if p < 4 then _ else _) = n; rw [if_pos hp, n2, clN (by omega)]
        rw [this]; exact ⟨n2, n1⟩
      have hd9 : ∀ p, dl p ≤ 9999 := fun p => by
        by_cases z : p < 4
        · exact (hd4 p z).2
        · rw [hdl]; show (if p < 4 then _ else _) ≤ 9999; rw [if_neg z]; omega
      have hdp : ∀ p, p < π.1 6 → dl p = π.2.2.1 p := fun p hp => by
        have q1 := (hd4 p (by omega)).1
        have q2 := (hd4 p (by omega)).2
        rw [p7 p hp] at q1
        have q3 := (x2.1.2.2.2.2.2.2.1 p hp).2
        exact ((nI_eq (by omega) (by omega)).mp q1).symm
      have hw99 := x2.1.2.2.1.2
      refine ⟨dl, fun π' hπ' => (by rw [htx] at hπ'; cases hπ'; exact ⟨hdp, hd9⟩), ?_⟩
      unfold strZ
      rw [htx]
      refine ⟨f3, g', by show some (Value.int (nI n')) = some (Value.int (nI (π.1 0))); rw [x1], rfl, ⟨⟨?_, fun k b hk => (by cases hk)⟩, fun i hi => ?_, ?_, ⟨⟨?_, ?_⟩, ?_, ?_, ?_, b, hb, ?_, ?_⟩⟩, fun r k hr => ?_⟩
      · rw [k0' _ (by omega)]; exact f1
      · rw [kr _ _ (by omega) (by omega), kf _ _ (nsc _ _ (by omega)) (nbk _ _ (by omega)) (by omega)]; exact m2 i hi
      · rw [hG _ _ (by omega) (by omega)]; exact m3
      · rw [c6 _ _ (by omega) (by omega) (by omega) (by omega)]; exact w10
      · rw [c6 _ _ (by omega) (by omega) (by omega) (by omega)]; exact w11
      · rw [c6 _ _ (by omega) (by omega) (by omega) (by omega)]; exact w41
      · rw [k0' _ (by omega), kf _ _ (nsc _ _ (by omega)) (nbk _ _ (by omega)) (by omega)]; exact m6
      · exact h8.kp (fun k => kr _ _ (by omega) (by omega))
      · rw [c6 _ _ (by omega) (by omega) (by omega) (by omega)]; exact w13
      · refine ⟨⟨⟨?_, hb, ?_, ?_, ?_, ?_, ?_, ?_, fun p hp => ?_, fun p hp => ?_, fun i hi => ?_⟩, c2, fun p hp => ?_, hw99, hd9⟩, p10, ⟨[], c1, begin_PI⟩, ?_, c4, c5, fun k r hk => (by cases hk)⟩
        · rw [c6 _ _ (by omega) (by omega) (by omega) (by omega)]; exact w13
        · rw [kr _ _ (by omega) (by omega)]; exact p1
        · rw [kr _ _ (by omega) (by omega)]; exact p2
        · rw [kr _ _ (by omega) (by omega)]; exact p3
        · rw [kr _ _ (by omega) (by omega)]; exact p4
        · rw [kr _ _ (by omega) (by omega)]; exact p5
        · rw [kr _ _ (by omega) (by omega)]; exact p6
        · rw [kr _ _ (by omega) (by omega)]; exact p7 p hp
        · have := p8 p hp
          show PMj f3 B b p (π.2.2.2.1 p)
          unfold PMj at this ⊢
          rw [kr _ _ (by omega) (by omega), kr _ _ (by omega) (by omega)]
          exact this
        · have := p9 i hi
          show PMf f3 B b i (π.2.2.2.2 i)
          unfold PIf at this
          unfold PMf
          cases hf : π.2.2.2.2 i with
          | none =>
            rw [hf] at this
            show f3 (B + 11) (4 * b + i) = -1
            rw [kr _ _ (by omega) (by omega)]; exact this
          | some ops =>
            rw [hf] at this
            obtain ⟨c0, q3, q4, q5, q6⟩ := this
            exact ⟨by rw [c6 _ _ (by omega) (by omega) (by omega) (by omega)]; exact w13, hb, c0, by rw [kr _ _ (by omega) (by omega)]; exact q3, by rw [kr _ _ (by omega) (by omega)]; exact q4, by omega, fun j o hj => by rw [kr _ _ (by omega) (by omega), kr _ _ (by omega) (by omega)]; exact q6 j o hj⟩
        · rw [c3 p hp, kF2 _ _ (by omega)]; exact (hd4 p hp).1
        · have hu : ∃ uf, uf < 20 ∧ f B 49 = nI uf := by
            cases hq : Z.2.2.2.2 with
            | none => rw [hq] at m9; exact m9.2.2.2.2.2.2
            | some q => rw [hq] at m9; obtain ⟨uf, u1, u2, -⟩ := m9.2.2.2.1; exact ⟨uf, u1, u2⟩
          obtain ⟨uf, u1, u2⟩ := hu
          exact ⟨uf, u1, by rw [k0' _ (by omega), kf _ _ (nsc _ _ (by omega)) (nbk _ _ (by omega)) (by omega)]; exact u2, fun k w hk => (by cases hk)⟩
      · rw [k3 _ _ (by omega) (by omega) (by omega) (by omega), kf _ _ (nsc _ _ (by omega)) (nbk _ _ (by omega)) (by omega)]
  -- the way there
  have loop : ∀ j k (F : FI), j + k = 4 → (∀ i, i < k → F (B + 11) (4 * b + i) = -1) → (∀ r i, ¬ (r = B + 11 ∧ 4 * b ≤ i ∧ i < 4 * b + 4) → F r i = F0 r i) → LpX12_stream_65 l G d (RQs B sh fR f g Z) sh fR B F g (nI (4 * b + k)) := by
    intro j
    induction j with
    | zero =>
      intro k F hk h11 hFF
      have hk4 : k = 4 := by omega
      subst hk4
      refine VX12_stream_65 hs ?_
      rw [hFF B 29 (by omega), v29, pk_mul, nI_add, nI_leI (by omega) (by omega)]
      refine ⟨fun _ => ?_, fun z => by omega⟩
      obtain ⟨F1, hF1⟩ : ∃ F1 : FI, F1 = up2 F B 28 (nI 0) := ⟨_, rfl⟩
      rw [← hF1]
      have k1 : ∀ r k, ¬ (r = B ∧ k = 28) → F1 r k = F r k := fun r k z => by rw [hF1, up2_ne z]
      have k2 : ∀ r k, ¬ (r = B + 11 ∧ 4 * b ≤ k ∧ k < 4 * b + 4) → ¬ (r = B ∧ k = 28) → F1 r k = F0 r k := fun r k z z2 => by rw [k1 r k z2, hFF r k z]
      have hMK : MK F1 B Z.1 := by
        refine ⟨by rw [k2 _ _ (by omega) (by omega)]; exact v2, h16, fun k hk => ?_, hz.2.1⟩
        rw [k2 _ _ (by omega) (by omega), k0 _ _ (by omega) (by omega)]
        exact t2 k _ (bt_in hk)
      refine M_ahead (d := d + 5) (b := 0) hs hMK (by rw [k2 _ _ (by omega) (by omega)]; exact v5) (Nat.zero_le _) (fun z => by omega) (by rw [k2 _ _ (by omega) (by omega)]; exact v9) (fun f2 g2 a1 a2 a3 => ?_)
      have hM2 : MS f2 g2 B Z.1 (.ok 0) := ⟨hMK.fh a1, by rw [a1 _ _ (by omega), k2 _ _ (by omega) (by omega)]; exact v8, Nat.zero_le _, a3⟩
      have D81 : D8 f2 B := fun j hj => by
        rw [a1 _ _ (by omega), k2 _ _ (by omega) (by omega), k0 _ _ (by omega) (by omega)]; exact m7 j hj
      refine R_str (d := d + 3) (b := b) hs hM2 (by rw [a1 _ _ (by omega), k2 _ _ (by omega) (by omega)]; exact v29) hb D81 (by rw [a1 _ _ (by omega), hF1, up2_eq]) (by rw [a1 _ _ (by omega), k2 _ _ (by omega) (by omega)]; exact v6) (by rw [a1 _ _ (by omega), k2 _ _ (by omega) (by omega)]; exact v10) (fun i hi => by rw [a1 _ _ (by omega), k1 _ _ (by omega)]; exact h11 i hi) (fun f3 g3 b1 b2 b3 => ?_)
      refine R_fin (d := d + 3) (n := 1) hs (by decide) b1 (fun f4 g4 c1 c2 c3 => ?_)
      have fb4 : FB B b F1 f4 := (a1.fm.fb.tr b2).tr c2
      have gb4 : GB B b g g4 := (a2.gb.tr b3).tr c3
      have H139 : ∀ f' g' n', n' ≤ 40 → FTx f' g' B Z.1 b n' (txtD Z.1) → FB B b F1 f' → GB B b g g' → LpX12_stream_139 l G d (RQs B sh fR f g Z) sh fR B f' g' (nI n') := fun f' g' n' q1 q2 q3 q4 => L139 F1 f' g' n' k2 q1 q2 q3 q4
      have erc : ∀ x, finD Z.1 1 (strD Z.1 0) = .error x → txtD Z.1 = .error x → LpX12_stream_110 l G d (RQs B sh fR f g Z) sh fR B f4 g4 (nI 1) := fun x h1 h2 => by
        rw [h1] at c1
        rw [h2] at H139
        exact L_er hs c1.1 (H139 f4 g4 1 (by decide) c1.er fb4 gb4)
      cases hy : strD Z.1 0 with
      | error x =>
        refine erc x (by rw [hy]; rfl) (by unfold txtD; rw [hy]; rfl)
      | ok y =>
        obtain ⟨y1, y2, y3, y4⟩ := strD_ok (Nat.zero_le _) hy
        cases hz' : exS Z.1 59 y.1 with
        | error x =>
          refine erc x ?_ ?_
          · unfold finD; rw [hy, bd_ok, hz']; rfl
          · unfold txtD; rw [hy, bd_ok, hz']; rfl
        | ok e' =>
          have hfd : finD Z.1 1 (.ok y) = .ok (e', y.2) := by unfold finD; rw [bd_ok, hz', bd_ok, if_neg (by omega)]
          rw [hy, hfd] at c1
          have htx : txtD Z.1 = lpT Z.1 39 (pNum y.2 0 (y.2.1 0 + 1)) e' := by unfold txtD; rw [hy, bd_ok, hz', bd_ok]
          rw [htx] at H139
          obtain ⟨q1, q2, q3, q4⟩ := c1
          refine R_lpT hs hb 39 1 f4 g4 e' (pNum y.2 0 (y.2.1 0 + 1)) rfl (by decide) (fun z => by omega) ⟨q1, q2, hb, q3, q4 (e', y.2) rfl⟩ y1.num0 ?_ fb4 gb4 H139
          show fu y.2.1 0 (y.2.1 0 + 1) 0 = 1
          rw [fu_eq, y4]
    | succ j ih =>
      intro k F hk h11 hFF
      refine VX12_stream_65 hs ?_
      rw [hFF B 29 (by omega), v29, pk_mul, nI_add, nI_leI (by omega) (by omega)]
      refine ⟨fun z => by omega, fun _ => ⟨inbN (by omega) (by decide), ?_⟩⟩
      rw [clN (by omega), nI_add, Nat.add_assoc]
      refine ih (k + 1) _ (by omega) (fun i hi => ?_) (fun r i z => ?_)
      · by_cases zi : i = k
        · rw [zi, up2_eq]
        · rw [up2_k (by omega)]; exact h11 i (by omega)
      · rw [up2_ne (by omega)]; exact hFF r i z
  exact loop 4 0 F0 rfl (fun i hi => absurd hi (Nat.not_lt_zero _)) (fun r i z => rfl)
end MSC
