/-! the reference: joins, loss, a statement, its end -/
section MJN
variable {l : Launch} {G : Gx} {d : Nat} {sh : Sh} {fR : FRt} {B : Nat} {f : FI} {g : FL} {tp : List Nat} {b e : Nat} {π : Pl}
theorem R_join {K : FI → FL → Prop} (hs : StM sh fR B) (hS : SMo f g B tp b e π) (hx : xOK π) (hW : tkK tp e = 1) (H : ∀ f' g', SMr f' g' B tp b (jonD tp π e) → FB B b f f' → GB B b g g' → K f' g') : Cl l G (d + 3) 0 0 mX12_joinIs [.ref B] (sh, f, g, fR) (qv sh fR K) := by
  obtain ⟨hM, h29, hb, h8, c, h28, hc, hP⟩ := hS
  have h16 := hM.len
  have he := hM.2.2.1
  have hE := tkE_gte (tp := tp) (e := e) (by omega)
  have hEl := tkE_le he
  have h64 : π.1 6 ≤ 4 := hx.1.2.2.2.2.2.1
  refine VX12_joinIs hs ?_
  unfold jonD at H
  refine M_cnt hs hM (by omega) (by omega) (fun _ f1 g1 a1 a2 a3 => ⟨fun _ => ?_, fun z => absurd z (by decide)⟩) (fun z => absurd rfl z)
  have hP1 : PIn f1 g1 B b c π := hP.kp (fun r k x y => a1 _ _ (by omega)) (fun k => a2 _ _ (by omega))
  have h291 : f1 B 29 = nI b := by rw [a1 _ _ (by omega)]; exact h29
  have h281 : f1 B 28 = nI c := by rw [a1 _ _ (by omega)]; exact h28
  have h81 : D8 f1 B := h8.kp (fun k => a1 _ _ (by omega))
  refine M_lex hs a3 (fun f2 b1 b2 => ?_)
  have hF2 : FB B b f f2 := a1.fb.tr b1.fb
  have hP2 : PIn f2 g1 B b c π := hP1.kp (fun r k x y => b1 _ _ (by omega)) (fun k => rfl)
  have h292 : f2 B 29 = nI b := by rw [b1 _ _ (by omega)]; exact h291
  have h282 : f2 B 28 = nI c := by rw [b1 _ _ (by omega)]; exact h281
  have h82 : D8 f2 B := h81.kp (fun k => b1 _ _ (by omega))
  have hse := tkS_le hEl
  by_cases k4 : tkK tp (tkE tp e) = 4
  · have e4 : bd (.ok (tkE tp e) : Rr Nat) (lexD tp) = .error (bad tp (tkE tp e)) := by rw [bd_ok]; unfold lexD; rw [if_pos k4]
    rw [e4] at b2
    have ex : exN tp (tkE tp e) = .error (bad tp (tkE tp e)) := by unfold exN isNm; simp [k4]
    rw [ex] at H
    exact ⟨fun z => absurd z b2.er8.2, fun _ => ⟨_, _, rfl, rfl, H f2 g1 ⟨_, rfl, b2, h292, h82, fun x hx => (by cases hx)⟩ hF2 a2.gb⟩⟩
  rw [lexD_o k4] at b2
  have bad4 : bad tp (tkE tp e) = (1, tkS tp (tkE tp e)) := by unfold bad; rw [if_neg k4]
  have hT := b2.2.2.2
  obtain ⟨s1, s2, s3, s4⟩ := hT.2.2.1 k4
  have hkk := @tkK_le tp (tkE tp e)
  have L107e : ∀ f3 x a, FB B b f f3 → f3 B 29 = nI b → D8 f3 B → MS f3 g1 B tp (.error x) → (∀ f' g', SMr f' g' B tp b (.error x) → FB B b f f' → GB B b g g' → K f' g') → LpX12_joinIs_107 l G d (qv sh fR K) sh fR B f3 g1 a := by
    intro f3 x a d1 d2 d3 d4 H
    exact VX12_joinIs_107 hs ⟨fun z => absurd z d4.er8.2, fun _ => ⟨_, _, rfl, rfl, H f3 g1 ⟨_, rfl, d4, d2, d3, fun x hx => (by cases hx)⟩ d1 a2.gb⟩⟩
  have L40 : exN tp (tkE tp e) = .error (bad tp (tkE tp e)) → LpX12_joinIs_40 l G d (qv sh fR K) sh fR B f2 g1 := by
    intro ex
    rw [ex] at H
    refine VX12_joinIs_40 hs (M_blame (k := 1) (pl := tkS tp (tkE tp e)) hs b2 (by decide) (fun _ _ => ⟨hT.1, by omega⟩) (fun f3 d1 d2 => ?_))
    have d2 : MS f3 g1 B tp (.error (bad tp (tkE tp e))) := by rw [bad4]; exact d2
    exact VX12_joinIs_49 hs ⟨fun z => absurd z d2.er8.2, fun _ => ⟨fun _ => L107e f3 _ _ (hF2.tr d1.fm.fb) (by rw [d1 _ _ (by omega)]; exact h292) (h82.kp (fun k => d1 _ _ (by omega))) d2 H, fun z => absurd z d2.er8.1⟩⟩
  refine ⟨fun _ => ?_, fun z => absurd b2.ok8.2 z⟩
  rw [s1, nI_eq (by omega) (by decide)]
  refine ⟨fun k1 => L40 (by unfold exN isNm; simp [k1]), fun k1 => ?_⟩
  rw [(s3 k1).1]
  refine M_isOwn hs tkW_len tkW_mem (bI_cs (fun z => ?_) (fun z => L40 (by
    unfold exN isNm
    cases hq : ownI (tkW tp (tkE tp e)) with
    | none => rw [hq] at z; cases z
    | some v => simp)))
  have hnm : isNm tp (tkE tp e) = true := by
    unfold isNm
    cases hq : ownI (tkW tp (tkE tp e)) with
    | none => simp [k1]
    | some v => rw [hq] at z; cases z
  have ex : exN tp (tkE tp e) = .ok (tkE tp (tkE tp e)) := by unfold exN; rw [if_pos hnm]
  rw [ex, bd_ok] at H
  refine VX12_joinIs_49 hs ⟨fun _ => ?_, fun z => absurd b2.ok8.2 z⟩
  rw [(s3 k1).1]
  have L98 : ∀ a, jonP π (tkW tp (tkE tp e)) = none → LpX12_joinIs_98 l G d (qv sh fR K) sh fR B f2 g1 a := by
    intro a hj
    rw [hj] at H
    exact VX12_joinIs_98 hs (M_blame (k := 3) (pl := tkS tp (tkE tp e)) hs b2 (by decide) (fun _ _ => ⟨hT.1, by omega⟩) (fun f3 d1 d2 => L107e f3 _ _ (hF2.tr d1.fm.fb) (by rw [d1 _ _ (by omega)]; exact h292) (h82.kp (fun k => d1 _ _ (by omega))) d2 H))
  refine M_pn hs h292 hb hP2 hx tkW_mem tkW_len ⟨fun z => absurd b2.ok8.1 z, fun _ => ?_⟩
  cases hq : pnS π (tkW tp (tkE tp e)) with
  | none =>
    have hj : jonP π (tkW tp (tkE tp e)) = none := by unfold jonP; rw [hq]; rfl
    exact ⟨fun _ => L98 _ hj, fun z => absurd (by decide) z⟩
  | some p =>
    obtain ⟨p1, p2⟩ := pnS_in hq
    rw [show oI (some p) = nI p from rfl, nI_ltI (by omega) (by decide)]
    refine ⟨fun z => L98 _ ?_, fun z => ?_⟩
    · have : p = 0 := by omega
      unfold jonP; rw [hq, this]; rfl
    · rw [h292]
      obtain ⟨i1, i2⟩ := rI_lo hb (p := p) (by omega)
      rw [i1]
      have hcj := hP2.2.2.1 p p1
      refine ⟨i2, fun cj => ?_, fun cj => L98 _ ?_⟩
      · have hjn : π.2.2.2.1 p = none := by
          cases hj : π.2.2.2.1 p with
          | none => rfl
          | some v =>
            unfold PMj at hcj
            rw [hj] at hcj
            have hv := (hx.1.2.2.2.2.2.2.2.1 p v.1 v.2 hj).1
            obtain ⟨v1, v2⟩ := v
            have hcj1 : f2 (B + 8) (4 * b + p) = nI v1 := hcj.1
            exact absurd (hcj1.symm.trans cj) (nI_m1 (by dsimp only at hv; omega))
        have hj : jonP π (tkW tp (tkE tp e)) = some p := by
          unfold jonP; rw [hq]
          show (if p = 0 ∨ (π.2.2.2.1 p).isSome then none else some p) = some p
          rw [if_neg]
          rintro (y | y)
          · omega
          · rw [hjn] at y; cases y
        rw [hj] at H
        dsimp only at H
        refine VX12_joinIs_107 hs ⟨fun _ => ?_, fun z => absurd b2.ok8.2 z⟩
        refine M_adv hs b2 k4 (by omega) (fun f3 g3 d1 d2 d3 => ?_)
        have hE2 := tkE_gte (tp := tp) (e := tkE tp e) (by omega)
        refine M_mustW (k := 7) hs d3 (by decide) (by decide +kernel) (fun f4 g4 d4 d5 d6 => ?_)
        refine M_num hs d6 (by decide) (by decide) (fun e0 he0 => ?_) (fun f5 g5 v1 d7 d8 d9 d10 d11 => ?_)
        · have := (exW_ok he0 (tkE_le hEl)).2.2.1
          omega
        obtain ⟨n1, hn1⟩ : ∃ n, n = bd (bd (.ok (tkE tp (tkE tp e))) (exW tp 7)) (numD tp 0 99) := ⟨_, rfl⟩
        rw [← hn1] at d9 d11
        have hpos : ∀ y, n1 = .ok y → tkE tp (tkE tp e) < y.1 ∧ y.1 ≤ tp.length := fun y hy => by
          rw [hy] at hn1
          obtain ⟨e3, q1, q2⟩ := bd_in hn1.symm
          rw [bd_ok] at q1
          obtain ⟨-, -, q3, q4⟩ := exW_ok q1 (tkE_le hEl)
          obtain ⟨-, q5, q6⟩ := numD_ok q2 q4
          exact ⟨by omega, q6⟩
        refine M_mustW (k := 8) hs d9 (by decide) (by decide +kernel) (fun f6 g6 e1 e2 e3 => ?_)
        refine M_num hs e3 (by decide) (by decide) (fun e0 he0 => ?_) (fun f7 g7 v2 e4 e5 e6 e7 e8 => ?_)
        · cases n1 with
          | error x => cases he0
          | ok y =>
            obtain ⟨q1, q2⟩ := hpos y rfl
            have := (exW_ok he0 q2).2.2.1
            omega
        obtain ⟨n2, hn2⟩ : ∃ n, n = bd (bd (rF n1) (exW tp 8)) (numD tp 0 999) := ⟨_, rfl⟩
        rw [← hn2] at e6 e8
        have fm7 : Fm B f2 f7 := (((d1.tr d4).tr d7).tr e1).tr e4
        have fg7 : Fg B g1 g7 := (((d2.tr d5).tr d8).tr e2).tr e5
        have eq : (bd (exW tp 7 (tkE tp (tkE tp e))) (fun e3 => bd (numD tp 0 99 e3) (fun n1 => bd (exW tp 8 n1.1) (fun e4 => bd (numD tp 0 999 e4) (fun n2 => .ok (n2.1, pJon π p (n1.2, n2.2)))))) : Rr (Nat × Pl)) = bd n2 (fun y => .ok (y.1, pJon π p (vOf n1, y.2))) := by
          refine (bd_as (r := exW tp 7 (tkE tp (tkE tp e))) (k := numD tp 0 99)).symm.trans ?_
          rw [show bd (exW tp 7 (tkE tp (tkE tp e))) (numD tp 0 99) = n1 from hn1.symm]
          cases n1 with
          | error x => subst hn2; rfl
          | ok y1 =>
            rw [bd_ok]
            refine (bd_as (r := exW tp 8 y1.1) (k := numD tp 0 999)).symm.trans ?_
            rw [show bd (exW tp 8 y1.1) (numD tp 0 999) = n2 from hn2.symm]
            rfl
        rw [eq] at H
        have h297 : f7 B 29 = nI b := by rw [fm7 _ _ (by omega)]; exact h292
        have h87 : D8 f7 B := h82.kp (fun k => fm7 _ _ (by omega))
        have fb7 : FB B b f f7 := hF2.tr fm7.fb
        have gb7 : GB B b g g7 := a2.gb.tr fg7.gb
        cases n2 with
        | error x =>
          exact ⟨fun z => absurd z (MS.er8 e6).2, fun _ => ⟨_, _, rfl, rfl, H f7 g7 ⟨_, rfl, e6, h297, h87, fun x hx => (by cases hx)⟩ fb7 gb7⟩⟩
        | ok y =>
          refine ⟨fun _ => ?_, fun z => absurd (MS.ok8 e6).2 z⟩
          rw [h297, i1]
          refine ⟨i2, i2, ⟨_, _, rfl, rfl, ?_⟩⟩
          obtain ⟨y1, hy1⟩ : ∃ y1, n1 = .ok y1 := by
            cases n1 with
            | error x => cases hn2
            | ok y1 => exact ⟨y1, rfl⟩
          have hv1 : v1 = vOf n1 := by rw [hy1]; exact d11 y1 hy1
          have hv2 : v2 = y.2 := e8 y rfl
          obtain ⟨q1, q2⟩ := hpos y1 hy1
          have hyl : y1.1 < y.1 := by
            rw [hy1] at hn2
            obtain ⟨e3, q1', q2'⟩ := bd_in hn2.symm
            have q1'' : exW tp 8 y1.1 = .ok e3 := q1'
            obtain ⟨-, -, q3, q4⟩ := exW_ok q1'' q2
            obtain ⟨-, q5, q6⟩ := numD_ok q2' q4
            omega
          obtain ⟨F, hF⟩ : ∃ F : FI, F = up2 (up2 f7 (B + 8) (4 * b + p) (nI v1)) (B + 9) (4 * b + p) (nI v2) := ⟨_, rfl⟩
          rw [← hF]
          have kF : ∀ r k, ¬ ((r = B + 8 ∨ r = B + 9) ∧ k = 4 * b + p) → F r k = f7 r k := fun r k z => by rw [hF, up2_ne (fun y => z ⟨Or.inr y.1, y.2⟩), up2_ne (fun y => z ⟨Or.inl y.1, y.2⟩)]
          have fbF : FB B b f F := by
            rw [hF]
            exact (fb7.up (Or.inr (Or.inr (Or.inl ⟨Or.inl ⟨by omega, by omega⟩, by omega, by omega⟩)))).up (Or.inr (Or.inr (Or.inl ⟨Or.inl ⟨by omega, by omega⟩, by omega, by omega⟩)))
          have old : ∀ r k, B + 2 ≤ r → r ≤ B + 14 → ¬ ((r = B + 8 ∨ r = B + 9) ∧ k = 4 * b + p) → F r k = f2 r k := fun r k x y z => by rw [kF r k z, fm7 _ _ (by omega)]
          refine H F g7 ⟨.ok y.1, rfl, MS.kp e6 (fun k hk => kF _ _ (by omega)) (fun k => kF _ _ (by omega)), by rw [kF _ _ (by omega)]; exact h297, h87.kp (fun k => kF _ _ (by omega)), fun x hx _ => ?_⟩ fbF gb7
          cases hx
          obtain ⟨⟨r1, r2, r3, r4, r5, r6⟩, r7, r8, r9, r10⟩ := hP2
          refine ⟨c, by rw [kF _ _ (by omega), fm7 _ _ (by omega)]; exact h282, by dsimp only; omega, ⟨⟨?_, ?_, ?_, ?_, ?_, ?_⟩, fun i hi => ?_, fun i hi => ?_, fun i hi => ?_, fun i hi => ?_⟩⟩
          · rw [old _ _ (by omega) (by omega) (by omega)]; exact r1
          · rw [old _ _ (by omega) (by omega) (by omega)]; exact r2
          · rw [old _ _ (by omega) (by omega) (by omega)]; exact r3
          · rw [old _ _ (by omega) (by omega) (by omega)]; exact r4
          · rw [old _ _ (by omega) (by omega) (by omega)]; exact r5
          · rw [old _ _ (by omega) (by omega) (by omega)]; exact r6
          · rw [old _ _ (by omega) (by omega) (by omega)]; exact r7 i hi
          · show PMj F B b i (fu π.2.2.2.1 p (some (vOf n1, y.2)) i)
            by_cases zi : i = p
            · rw [zi, fu_eq]
              exact ⟨by rw [hF, up2_r (by omega), up2_eq, hv1], by rw [hF, up2_eq, hv2]⟩
            · rw [fu_ne zi]
              have := r8 i hi
              unfold PMj at this ⊢
              rw [old _ _ (by omega) (by omega) (by omega), old _ _ (by omega) (by omega) (by omega)]
              exact this
          · have := r9 i hi
            show PIf F B b c i (π.2.2.2.2 i)
            unfold PIf at this ⊢
            cases hf : π.2.2.2.2 i with
            | none =>
              rw [hf] at this
              show F (B + 11) (4 * b + i) = -1
              rw [old _ _ (by omega) (by omega) (by omega)]; exact this
            | some ops =>
              rw [hf] at this
              obtain ⟨c1, q1, q2, q3, q4⟩ := this
              exact ⟨c1, by rw [old _ _ (by omega) (by omega) (by omega)]; exact q1, by rw [old _ _ (by omega) (by omega) (by omega)]; exact q2, q3, fun j o hj => by rw [old _ _ (by omega) (by omega) (by omega), old _ _ (by omega) (by omega) (by omega)]; exact q4 j o hj⟩
          · rw [fg7 _ _ (by omega)]; exact r10 i hi
      · unfold jonP; rw [hq]
        show (if p = 0 ∨ (π.2.2.2.1 p).isSome then none else some p) = none
        rw [if_pos]
        right
        cases hj : π.2.2.2.1 p with
        | some v => rfl
        | none =>
          unfold PMj at hcj
          rw [hj] at hcj
          exact absurd hcj cj
theorem R_loss {K : FI → FL → Prop} (hs : StM sh fR B) (hS : SMo f g B tp b e π) (hW : tkK tp e = 1) (H : ∀ f' g', SMr f' g' B tp b (losD tp π e) → FB B b f f' → GB B b g g' → K f' g') : Cl l G (d + 3) 0 0 mX12_lossIs [.ref B] (sh, f, g, fR) (qv sh fR K) := by
  obtain ⟨hM, h29, hb, h8, c, h28, hc, hP⟩ := hS
  have he := hM.2.2.1
  have hE := tkE_gte (tp := tp) (e := e) (by omega)
  have hEl := tkE_le he
  refine VX12_lossIs hs ?_
  unfold losD at H
  refine M_cnt hs hM (by omega) (by omega) (fun _ f1 g1 a1 a2 a3 => ⟨fun _ => ?_, fun z => absurd z (by decide)⟩) (fun z => absurd rfl z)
  have h291 : f1 B 29 = nI b := by rw [a1 _ _ (by omega)]; exact h29
  rw [h291, clN (k := b) (by omega)]
  refine M_num hs a3 (by decide) (by decide) (fun e0 he0 => by cases he0; omega) (fun f2 g2 v d7 d8 d9 d10 d11 => ⟨inbN hb (by decide), ⟨_, _, rfl, rfl, ?_⟩⟩)
  rw [bd_ok] at d9 d11
  have fm2 : Fm B f f2 := a1.tr d7
  have fg2 : Fg B g g2 := a2.tr d8
  obtain ⟨F, hF⟩ : ∃ F : FI, F = up2 f2 (B + 10) b (nI v) := ⟨_, rfl⟩
  rw [← hF]
  have kF : ∀ r k, ¬ (r = B + 10 ∧ k = b) → F r k = f2 r k := fun r k z => by rw [hF, up2_ne z]
  have fbF : FB B b f F := by
    rw [hF]
    exact fm2.fb.up (Or.inr (Or.inl ⟨Or.inr rfl, rfl⟩))
  have hMF : MS F g2 B tp (rF (numD tp 0 100 (tkE tp e))) := d9.kp (fun k hk => kF _ _ (by omega)) (fun k => kF _ _ (by omega))
  have old : ∀ r k, B + 2 ≤ r → r ≤ B + 14 → ¬ (r = B + 10 ∧ k = b) → F r k = f r k := fun r k x y z => by rw [kF r k z, fm2 _ _ (by omega)]
  refine H F g2 ?_ fbF fg2.gb
  cases hy : numD tp 0 100 (tkE tp e) with
  | error x =>
    rw [hy] at hMF
    exact ⟨_, rfl, hMF, by rw [kF _ _ (by omega), fm2 _ _ (by omega)]; exact h29, h8.kp (fun k => old _ _ (by omega) (by omega) (by omega)), fun x hx => (by cases hx)⟩
  | ok y =>
    rw [hy] at hMF
    have hyl := (numD_ok hy hEl).2.1
    have hv : v = y.2 := d11 y hy
    refine ⟨.ok y.1, rfl, hMF, by rw [kF _ _ (by omega), fm2 _ _ (by omega)]; exact h29, h8.kp (fun k => old _ _ (by omega) (by omega) (by omega)), fun x hx _ => ?_⟩
    cases hx
    obtain ⟨⟨r1, r2, r3, r4, r5, r6⟩, r7, r8, r9, r10⟩ := hP
    refine ⟨c, by rw [kF _ _ (by omega), fm2 _ _ (by omega)]; exact h28, by dsimp only; omega, ⟨⟨?_, ?_, ?_, ?_, ?_, ?_⟩, fun i hi => ?_, fun i hi => ?_, fun i hi => ?_, fun i hi => ?_⟩⟩
    · rw [old _ _ (by omega) (by omega) (by omega)]; exact r1
    · rw [old _ _ (by omega) (by omega) (by omega)]; exact r2
    · rw [old _ _ (by omega) (by omega) (by omega)]; exact r3
    · rw [old _ _ (by omega) (by omega) (by omega)]; exact r4
    · rw [hF, up2_eq, hv]; rfl
    · rw [old _ _ (by omega) (by omega) (by omega)]; exact r6
    · rw [old _ _ (by omega) (by omega) (by omega)]; exact r7 i hi
    · have := r8 i hi
      show PMj F B b i (π.2.2.2.1 i)
      unfold PMj at this ⊢
      rw [old _ _ (by omega) (by omega) (by omega), old _ _ (by omega) (by omega) (by omega)]
      exact this
    · have := r9 i hi
      show PIf F B b c i (π.2.2.2.2 i)
      unfold PIf at this ⊢
      cases hf : π.2.2.2.2 i with
      | none =>
        rw [hf] at this
        show F (B + 11) (4 * b + i) = -1
        rw [old _ _ (by omega) (by omega) (by omega)]; exact this
      | some ops =>
        rw [hf] at this
        obtain ⟨c1, q1, q2, q3, q4⟩ := this
        exact ⟨c1, by rw [old _ _ (by omega) (by omega) (by omega)]; exact q1, by rw [old _ _ (by omega) (by omega) (by omega)]; exact q2, q3, fun j o hj => by rw [old _ _ (by omega) (by omega) (by omega), old _ _ (by omega) (by omega) (by omega)]; exact q4 j o hj⟩
    · rw [fg2 _ _ (by omega)]; exact r10 i hi
theorem R_stm {K : FI → FL → Prop} (hs : StM sh fR B) (hS : SMo f g B tp b e π) (hx : xOK π) (H : ∀ f' g', SMr f' g' B tp b (stmD tp π e) → FB B b f f' → GB B b g g' → K f' g') : Cl l G (d + 6) 0 0 mX12_statement [.ref B] (sh, f, g, fR) (qv sh fR K) := by
  have hS0 := hS
  obtain ⟨hM, h29, hb, h8, c, h28, hc, hP⟩ := hS
  have h16 := hM.len
  have hse := tkS_le hM.2.2.1
  refine VX12_statement hs ?_
  refine M_lex (d := d + 4) hs hM (fun f1 a1 a2 => ?_)
  have h291 : f1 B 29 = nI b := by rw [a1 _ _ (by omega)]; exact h29
  have h81 : D8 f1 B := h8.kp (fun k => a1 _ _ (by omega))
  by_cases k4 : tkK tp e = 4
  · have e4 : bd (.ok e : Rr Nat) (lexD tp) = .error (bad tp e) := by rw [bd_ok]; unfold lexD; rw [if_pos k4]
    rw [e4] at a2
    have ex : stmD tp π e = .error (bad tp e) := by
      unfold stmD
      rw [isW_of (by omega), isW_of (by omega), isW_of (by omega), isW_of (by omega), isW_of (by omega), isW_of (by omega), isW_of (by omega)]; rfl
    rw [ex] at H
    exact ⟨fun z => absurd z a2.er8.2, fun _ => ⟨_, _, rfl, rfl, H f1 g ⟨_, rfl, a2, h291, h81, fun x hx => (by cases hx)⟩ a1.fb GB.rf⟩⟩
  rw [lexD_o k4] at a2
  have hT := a2.2.2.2
  have hS1 : SMo f1 g B tp b e π := ⟨a2, h291, hb, h81, c, by rw [a1 _ _ (by omega)]; exact h28, hc, hP.kp (fun r k x y => a1 _ _ (by omega)) (fun k => rfl)⟩
  have bad4 : bad tp e = (1, tkS tp e) := by unfold bad; rw [if_neg k4]
  unfold stmD at H
  refine ⟨fun _ => ?_, fun z => absurd a2.ok8.2 z⟩
  refine M_isW (k := 4) hs hT k4 (by decide) (by decide +kernel) (bI_cs (fun z1 => ?_) (fun z1 => ?_))
  · rw [z1, if_neg Bool.false_ne_true] at H
    refine M_isW (k := 6) hs hT k4 (by decide) (by decide +kernel) (bI_cs (fun z2 => ?_) (fun z2 => ?_))
    · rw [z2, if_neg Bool.false_ne_true] at H
      refine M_isW (k := 9) hs hT k4 (by decide) (by decide +kernel) (bI_cs (fun z3 => ?_) (fun z3 => ?_))
      · rw [z3, if_neg Bool.false_ne_true] at H
        refine M_isW (k := 10) hs hT k4 (by decide) (by decide +kernel) (bI_cs (fun z4 => ?_) (fun z4 => ?_))
        · rw [z4, if_neg Bool.false_ne_true] at H
          refine M_isW (k := 11) hs hT k4 (by decide) (by decide +kernel) (bI_cs (fun z5 => ?_) (fun z5 => ?_))
          · rw [z5, if_neg Bool.false_ne_true] at H
            refine M_isW (k := 12) hs hT k4 (by decide) (by decide +kernel) (bI_cs (fun z6 => ?_) (fun z6 => ?_))
            · rw [z6, if_neg Bool.false_ne_true] at H
              refine M_isW (k := 13) hs hT k4 (by decide) (by decide +kernel) (bI_cs (fun z7 => ?_) (fun z7 => ?_))
              · rw [z7, if_neg Bool.false_ne_true] at H
                refine M_blame (k := 1) (pl := tkS tp e) hs a2 (by decide) (fun _ _ => ⟨hT.1, by omega⟩) (fun f2 b1 b2 => ⟨_, _, rfl, rfl, H f2 g ⟨.error (1, tkS tp e), by rw [bad4]; rfl, b2, by rw [b1 _ _ (by omega)]; exact h291, h81.kp (fun k => b1 _ _ (by omega)), fun x hx => (by cases hx)⟩ (a1.fb.tr b1.fm.fb) GB.rf⟩)
              · rw [if_pos z7] at H
                exact M_form (w := 3) hs (by decide) hS1 (isW_K z7).1 (fun f2 g2 b1 b2 b3 => ⟨_, _, rfl, rfl, H f2 g2 b1 (a1.fb.tr b2) b3⟩)
            · rw [if_pos z6] at H
              exact M_form (w := 2) hs (by decide) hS1 (isW_K z6).1 (fun f2 g2 b1 b2 b3 => ⟨_, _, rfl, rfl, H f2 g2 b1 (a1.fb.tr b2) b3⟩)
          · rw [if_pos z5] at H
            exact M_form (w := 1) hs (by decide) hS1 (isW_K z5).1 (fun f2 g2 b1 b2 b3 => ⟨_, _, rfl, rfl, H f2 g2 b1 (a1.fb.tr b2) b3⟩)
        · rw [if_pos z4] at H
          exact M_form (w := 0) hs (by decide) hS1 (isW_K z4).1 (fun f2 g2 b1 b2 b3 => ⟨_, _, rfl, rfl, H f2 g2 b1 (a1.fb.tr b2) b3⟩)
      · rw [if_pos z3] at H
        exact R_loss (d := d + 2) hs hS1 (isW_K z3).1 (fun f2 g2 b1 b2 b3 => ⟨_, _, rfl, rfl, H f2 g2 b1 (a1.fb.tr b2) b3⟩)
    · rw [if_pos z2] at H
      exact R_join (d := d + 2) hs hS1 hx (isW_K z2).1 (fun f2 g2 b1 b2 b3 => ⟨_, _, rfl, rfl, H f2 g2 b1 (a1.fb.tr b2) b3⟩)
  · rw [if_pos z1] at H
    exact R_path (d := d + 2) hs hS1 hx (isW_K z1).1 (fun f2 g2 b1 b2 b3 => ⟨_, _, rfl, rfl, H f2 g2 b1 (a1.fb.tr b2) b3⟩)
end MJN
