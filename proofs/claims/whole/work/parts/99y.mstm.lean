/-! the reference: paths, joins, loss, statements -/
section MSM
variable {l : Launch} {G : Gx} {d : Nat} {sh : Sh} {fR : FRt} {B : Nat} {f : FI} {g : FL} {tp : List Nat} {b e : Nat} {π : Pl}
theorem packM_eq {a c : List Nat} (ha : ∀ x ∈ a, 1 ≤ x ∧ x ≤ 26) (hc : ∀ x ∈ c, 1 ≤ x ∧ x ≤ 26) (hla : a.length ≤ 6) (hlc : c.length ≤ 6) : lN (packM a) = lN (packM c) ↔ a = c := by
  have h1 := packM_w hla ha
  have h2 := packM_w hlc hc
  rw [pk_lEQ (by omega) (by omega)]
  exact ⟨fun h => packM_inj _ (Nat.le_refl _) ha hc h, fun h => by rw [h]⟩
theorem M_pn {K : Int32 → FI → FL → Prop} {w : List Nat} {c : Nat} (hs : StM sh fR B) (h29 : f B 29 = nI b) (hb : b < 2) (hP : PIn f g B b c π) (hx : xOK π) (hw : ∀ x ∈ w, 1 ≤ x ∧ x ≤ 26) (hl : w.length ≤ 6) (H : K (oI (pnS π w)) f g) : Cl l G d 0 0 mX12_pathNamed [.ref B, .long (lN (packM w))] (sh, f, g, fR) (qi sh fR K) := by
  have h6 : f (B + 6) b = nI (π.1 6) := hP.1.2.2.2.2.2
  have h64 : π.1 6 ≤ 4 := hx.1.2.2.2.2.2.1
  refine VX12_pathNamed hs ?_
  have loop : ∀ j k, j + k = π.1 6 → K (oI (pnF π w j k)) f g → LpX12_pathNamed_2 l G d (qi sh fR K) sh fR B f g (lN (packM w)) (nI k) := by
    intro j
    induction j with
    | zero =>
      intro k hk H
      refine VX12_pathNamed_2 hs ?_
      rw [h29, clN (k := b) (by omega), h6]
      exact ⟨inbN hb (by decide), fun _ => ⟨_, _, _, rfl, rfl, H⟩, fun z => absurd (nI_le (by omega) (by omega)) z⟩
    | succ j ih =>
      intro k hk H
      refine VX12_pathNamed_2 hs ?_
      obtain ⟨m1, m2, m3⟩ := hx.2 k (by omega)
      rw [h29, clN (k := b) (by omega), h6, pk_mul, nI_add, clN (k := 4 * b + k) (by omega), hP.2.2.2.2 k (by omega), packM_eq m3 hw m2 hl]
      unfold pnF at H
      refine ⟨inbN hb (by decide), fun z => absurd z (nI_ge (by omega) (by omega)), fun _ => ⟨inbN (by omega) (by decide), fun z => ?_, fun z => ?_⟩⟩
      · rw [if_neg z] at H
        rw [nI_add]
        exact ih (k + 1) (by omega) H
      · rw [if_pos z] at H
        exact ⟨_, _, _, rfl, rfl, H⟩
  exact loop (π.1 6) 0 (by omega) H
theorem Fm.b29 {f' : FI} {k : Nat} (h : Fm B f f') (hk : k = 29 ∨ k = 28) : f' B k = f B k := h _ _ (by omega)
theorem rI_lo (hin : b < 2) {p : Nat} (hp : p < 4) : (nI 4 * nI b + nI p).toNatClampNeg = 4 * b + p ∧ inb (nI 4 * nI b + nI p) 8 := by
  rw [pk_mul, nI_add, clN (by omega)]
  exact ⟨rfl, inbN (by omega) (by decide)⟩
theorem R_path {K : FI → FL → Prop} (hs : StM sh fR B) (hS : SMo f g B tp b e π) (hx : xOK π) (hW : tkK tp e = 1) (H : ∀ f' g', SMr f' g' B tp b (pthD tp π e) → FB B b f f' → GB B b g g' → K f' g') : Cl l G (d + 3) 0 0 mX12_pathIs [.ref B] (sh, f, g, fR) (qv sh fR K) := by
  obtain ⟨hM, h29, hb, h8, c, h28, hc, hP⟩ := hS
  have h16 := hM.len
  have he := hM.2.2.1
  have hE := tkE_gte (tp := tp) (e := e) (by omega)
  have hEl := tkE_le he
  have h6 : f (B + 6) b = nI (π.1 6) := hP.1.2.2.2.2.2
  have h64 : π.1 6 ≤ 4 := hx.1.2.2.2.2.2.1
  refine VX12_pathIs hs ?_
  rw [h29, clN (k := b) (by omega), h6, nI_eq (by omega) (by decide)]
  refine ⟨inbN hb (by decide), fun c4 => ?_, fun c4 => ?_⟩
  · unfold pthD at H
    rw [if_neg (by omega)] at H
    refine M_cnt hs hM (by omega) (by omega) (fun _ f1 g1 a1 a2 a3 => ⟨fun _ => ?_, fun z => absurd z (by decide)⟩) (fun z => absurd rfl z)
    have hP1 : PIn f1 g1 B b c π := hP.kp (fun r k x y => a1 _ _ (by omega)) (fun k => a2 _ _ (by omega))
    have h291 : f1 B 29 = nI b := by rw [a1 _ _ (by omega)]; exact h29
    have h281 : f1 B 28 = nI c := by rw [a1 _ _ (by omega)]; exact h28
    have h81 : D8 f1 B := h8.kp (fun k => a1 _ _ (by omega))
    refine M_lex hs a3 (fun f2 b1 b2 => ?_)
    have hF2 : FB B b f f2 := a1.fb.tr b1.fb
    have hP2 : PIn f2 g1 B b c π := hP1.kp (fun r k x y => b1 _ _ (by omega)) (fun k => rfl)
    have h292 : f2 B 29 = nI b := by rw [b1 _ _ (by omega)]; exact h291
    have h282 : f2 B 28 = nI c := by rw [b1 _ _ (by omega)]; exact h281
    have h82 : D8 f2 B := h81.kp (fun k => b1 _ _ (by omega))
    have hse := tkS_le hEl
    by_cases k4 : tkK tp (tkE tp e) = 4
    · have e4 : bd (.ok (tkE tp e) : Rr Nat) (lexD tp) = .error (bad tp (tkE tp e)) := by rw [bd_ok]; unfold lexD; rw [if_pos k4]
      rw [e4] at b2
      have ex : exN tp (tkE tp e) = .error (bad tp (tkE tp e)) := by unfold exN isNm; simp [k4]
      rw [ex] at H
      exact ⟨fun z => absurd z b2.er8.2, fun _ => ⟨_, _, rfl, rfl, H f2 g1 ⟨_, rfl, b2, h292, h82, fun x hx => (by cases hx)⟩ hF2 a2.gb⟩⟩
    rw [lexD_o k4] at b2
    have bad4 : bad tp (tkE tp e) = (1, tkS tp (tkE tp e)) := by unfold bad; rw [if_neg k4]
    have hT := b2.2.2.2
    obtain ⟨s1, s2, s3, s4⟩ := hT.2.2.1 k4
    have hkk := @tkK_le tp (tkE tp e)
    -- a fault is there
    have L94e : ∀ f3 x, FB B b f f3 → f3 B 29 = nI b → D8 f3 B → MS f3 g1 B tp (.error x) → (bd (exN tp (tkE tp e)) (fun e2 => if (pnS π (tkW tp (tkE tp e))).isSome then .error (2, tkS tp (tkE tp e)) else bd (exW tp 5 e2) (fun e3 => bd (numD tp 1 9 e3) (fun n => .ok (n.1, pAdd π (tkW tp (tkE tp e)) n.2)))) : Rr (Nat × Pl)) = .error x → LpX12_pathIs_94 l G d (qv sh fR K) sh fR B f3 g1 := by
      intro f3 x d1 d2 d3 d4 hx
      rw [hx] at H
      exact VX12_pathIs_94 hs ⟨fun z => absurd z d4.er8.2, fun _ => ⟨_, _, rfl, rfl, H f3 g1 ⟨_, rfl, d4, d2, d3, fun x hx => (by cases hx)⟩ d1 a2.gb⟩⟩
    have L57 : exN tp (tkE tp e) = .error (bad tp (tkE tp e)) → LpX12_pathIs_57 l G d (qv sh fR K) sh fR B f2 g1 := by
      intro ex
      refine VX12_pathIs_57 hs (M_blame (k := 1) (pl := tkS tp (tkE tp e)) hs b2 (by decide) (fun _ _ => ⟨hT.1, by omega⟩) (fun f3 d1 d2 => ?_))
      have d2 : MS f3 g1 B tp (.error (bad tp (tkE tp e))) := by rw [bad4]; exact d2
      exact VX12_pathIs_66 hs ⟨fun _ => L94e f3 _ (hF2.tr d1.fm.fb) (by rw [d1 _ _ (by omega)]; exact h292) (h82.kp (fun k => d1 _ _ (by omega))) d2 (by rw [ex]; rfl), fun z => absurd z d2.er8.1⟩
    refine ⟨fun _ => ?_, fun z => absurd b2.ok8.2 z⟩
    rw [s1, nI_eq (by omega) (by decide)]
    refine ⟨fun k1 => L57 (by unfold exN isNm; simp [k1]), fun k1 => ?_⟩
    rw [(s3 k1).1]
    refine M_isOwn hs tkW_len tkW_mem (bI_cs (fun z => ?_) (fun z => L57 (by
      unfold exN isNm
      cases hq : ownI (tkW tp (tkE tp e)) with
      | none => rw [hq] at z; cases z
      | some v => simp)))
    have hnm : isNm tp (tkE tp e) = true := by
      unfold isNm
      cases hq : ownI (tkW tp (tkE tp e)) with
      | none => simp [k1]
      | some v => rw [hq] at z; cases z
    have ex : exN tp (tkE tp e) = .ok (tkE tp (tkE tp e)) := by unfold exN; rw [if_pos hnm]
    rw [ex, bd_ok] at H
    rw [ex] at L94e
    refine VX12_pathIs_66 hs ⟨fun z => absurd b2.ok8.1 z, fun _ => ?_⟩
    rw [(s3 k1).1]
    refine M_pn hs h292 hb hP2 hx tkW_mem tkW_len ?_
    rw [oI_none (fun k hk => by have := (pnS_in hk).1; omega)]
    refine ⟨fun hn => ?_, fun hn => ?_⟩
    · rw [hn, if_neg (by decide)] at H
      refine VX12_pathIs_94 hs ⟨fun _ => ?_, fun z => absurd b2.ok8.2 z⟩
      rw [h292, clN (k := b) (by omega)]
      have h62 : f2 (B + 6) b = nI (π.1 6) := hP2.1.2.2.2.2.2
      refine ⟨inbN hb (by decide), fun w38 hw38 => ?_⟩
      obtain ⟨i1, i2⟩ := rI_lo hb (p := π.1 6) (by omega)
      rw [h62] at hw38
      rw [hw38, i1]
      refine ⟨i2, ?_⟩
      obtain ⟨g2, hg2⟩ : ∃ g2 : FL, g2 = up2 g1 (B + 15) (4 * b + π.1 6) (g1 B 7) := ⟨_, rfl⟩
      rw [← hg2]
      have b3 : MS f2 g2 B tp (.ok (tkE tp e)) := by
        obtain ⟨m1, m2, m3, m4, m5, m6⟩ := b2
        refine ⟨m1, m2, m3, m4, m5, fun z => ?_, m6.2⟩
        obtain ⟨y1, y2, y3, y4⟩ := m6.1 z
        exact ⟨y1, y2, fun z => ⟨by rw [hg2, up2_r (by omega)]; exact (y3 z).1, (y3 z).2⟩, y4⟩
      refine M_adv hs b3 k4 (by omega) (fun f3 g3 d1 d2 d3 => ?_)
      refine M_mustW (k := 5) hs d3 (by decide) (by decide +kernel) (fun f4 g4 d4 d5 d6 => ?_)
      have hE2 := tkE_gte (tp := tp) (e := tkE tp e) (by omega)
      refine M_num hs d6 (by decide) (by decide) (fun e0 he0 => ?_) (fun f5 g5 v d7 d8 d9 d10 d11 => ⟨i2, i2, ?_⟩)
      · have := (exW_ok he0 (tkE_le hEl)).2.2.1
        omega
      have fm5 : Fm B f2 f5 := (d1.tr d4).tr d7
      have fg5 : Fg B g2 g5 := (d2.tr d5).tr d8
      have h295 : f5 B 29 = nI b := by rw [fm5 _ _ (by omega)]; exact h292
      have h285 : f5 B 28 = nI c := by rw [fm5 _ _ (by omega)]; exact h282
      have h65 : f5 (B + 6) b = nI (π.1 6) := by rw [fm5 _ _ (by omega)]; exact h62
      have gb5 : GB B b g g5 := by
        refine (a2.gb.tr ?_).tr fg5.gb
        rw [hg2]
        exact fun r k x y => up2_ne (fun z => y ⟨z.1, by omega, by omega⟩)
      have fb5 : FB B b f f5 := hF2.tr fm5.fb
      obtain ⟨F, hF⟩ : ∃ F : FI, F = up2 (up2 f5 (B + 7) (4 * b + π.1 6) (nI v)) (B + 8) (4 * b + π.1 6) (-1) := ⟨_, rfl⟩
      rw [← hF]
      have kF : ∀ r k, ¬ (r = B + 7 ∧ k = 4 * b + π.1 6) → ¬ (r = B + 8 ∧ k = 4 * b + π.1 6) → F r k = f5 r k := fun r k z z2 => by rw [hF, up2_ne z2, up2_ne z]
      have fbF : FB B b f F := by
        rw [hF]
        exact (fb5.up (Or.inr (Or.inr (Or.inl ⟨Or.inl ⟨by omega, by omega⟩, by omega, by omega⟩)))).up (Or.inr (Or.inr (Or.inl ⟨Or.inl ⟨by omega, by omega⟩, by omega, by omega⟩)))
      have F7 : F (B + 7) (4 * b + π.1 6) = nI v := by rw [hF, up2_r (by omega), up2_eq]
      have F8 : F (B + 8) (4 * b + π.1 6) = -1 := by rw [hF, up2_eq]
      have d8F : D8 F B := fun j hj => by
        by_cases z : j = 4 * b + π.1 6
        · rw [z, F7]; exact ⟨v, d10, rfl⟩
        · rw [kF _ _ (by omega) (by omega), fm5 _ _ (by omega)]; exact h82 j hj
      have hMF : MS F g5 B tp (rF (bd (bd (.ok (tkE tp (tkE tp e))) (exW tp 5)) (numD tp 1 9))) := d9.kp (fun k hk => kF _ _ (by omega) (by omega)) (fun k => kF _ _ (by omega) (by omega))
      have eq : (bd (exW tp 5 (tkE tp (tkE tp e))) (fun e3 => bd (numD tp 1 9 e3) (fun n => .ok (n.1, pAdd π (tkW tp (tkE tp e)) n.2))) : Rr (Nat × Pl)) = bd (bd (bd (.ok (tkE tp (tkE tp e))) (exW tp 5)) (numD tp 1 9)) (fun n => .ok (n.1, pAdd π (tkW tp (tkE tp e)) n.2)) := by
        rw [bd_ok, bd_as]
      rw [eq] at H
      have h29F : F B 29 = nI b := by rw [kF _ _ (by omega) (by omega)]; exact h295
      cases hy : bd (bd (.ok (tkE tp (tkE tp e))) (exW tp 5)) (numD tp 1 9) with
      | error x =>
        rw [hy] at hMF d9 H
        refine ⟨fun _ => ⟨_, _, rfl, rfl, H F g5 ⟨_, rfl, hMF, h29F, d8F, fun x hx => (by cases hx)⟩ fbF gb5⟩, fun z => absurd z (MS.er8 d9).1⟩
      | ok y =>
        rw [hy] at hMF d9 H
        refine ⟨fun z => absurd (MS.ok8 d9).1 z, fun _ => ?_⟩
        rw [h295, clN (k := b) (by omega), h65, nI_add]
        refine ⟨inbN hb (by decide), inbN hb (by decide), ⟨_, _, rfl, rfl, ?_⟩⟩
        have hv : v = y.2 := d11 y hy
        have hyl : tkE tp (tkE tp e) ≤ y.1 := by
          obtain ⟨e3, q1, q2⟩ := bd_in hy
          rw [bd_ok] at q1
          obtain ⟨-, -, q3, q4⟩ := exW_ok q1 (tkE_le hEl)
          obtain ⟨-, q5, -⟩ := numD_ok q2 q4
          omega
        obtain ⟨F2, hF2'⟩ : ∃ F2 : FI, F2 = up2 F (B + 6) b (nI (π.1 6 + 1)) := ⟨_, rfl⟩
        rw [← hF2']
        have kF2 : ∀ r k, ¬ (r = B + 6 ∧ k = b) → F2 r k = F r k := fun r k z => by rw [hF2', up2_ne z]
        have old : ∀ r k, B + 2 ≤ r → r ≤ B + 14 → ¬ (r = B + 6 ∧ k = b) → ¬ (r = B + 7 ∧ k = 4 * b + π.1 6) → ¬ (r = B + 8 ∧ k = 4 * b + π.1 6) → F2 r k = f2 r k := fun r k x y z z2 z3 => by rw [kF2 r k z, kF r k z2 z3, fm5 _ _ (by omega)]
        refine H F2 g5 ⟨.ok y.1, rfl, hMF.kp (fun k hk => kF2 _ _ (by omega)) (fun k => kF2 _ _ (by omega)), by rw [kF2 _ _ (by omega)]; exact h29F, d8F.kp (fun k => kF2 _ _ (by omega)), fun x hx _ => ?_⟩ (by rw [hF2']; exact fbF.up (Or.inr (Or.inl ⟨Or.inl ⟨by omega, by omega⟩, rfl⟩))) gb5
        cases hx
        obtain ⟨⟨p1, p2, p3, p4, p5, p6⟩, p7, p8, p9, p10⟩ := hP2
        refine ⟨c, by rw [kF2 _ _ (by omega), kF _ _ (by omega) (by omega)]; exact h285, by dsimp only; omega, ⟨⟨?_, ?_, ?_, ?_, ?_, ?_⟩, fun p hp => ?_, fun p hp => ?_, fun i hi => ?_, fun p hp => ?_⟩⟩
        · rw [old _ _ (by omega) (by omega) (by omega) (by omega) (by omega)]; exact p1
        · rw [old _ _ (by omega) (by omega) (by omega) (by omega) (by omega)]; exact p2
        · rw [old _ _ (by omega) (by omega) (by omega) (by omega) (by omega)]; exact p3
        · rw [old _ _ (by omega) (by omega) (by omega) (by omega) (by omega)]; exact p4
        · rw [old _ _ (by omega) (by omega) (by omega) (by omega) (by omega)]; exact p5
        · rw [hF2', up2_eq]; rfl
        · have hp : p < π.1 6 + 1 := hp
          show F2 (B + 7) (4 * b + p) = nI (fu π.2.2.1 (π.1 6) y.2 p)
          by_cases z6 : p = π.1 6
          · rw [z6, fu_eq, kF2 _ _ (by omega), F7, hv]
          · rw [fu_ne z6, old _ _ (by omega) (by omega) (by omega) (by omega) (by omega)]; exact p7 p (by omega)
        · have hp : p < π.1 6 + 1 := hp
          show PMj F2 B b p (fu π.2.2.2.1 (π.1 6) none p)
          by_cases z6 : p = π.1 6
          · rw [z6, fu_eq]
            show F2 (B + 8) (4 * b + π.1 6) = -1
            rw [kF2 _ _ (by omega)]; exact F8
          · rw [fu_ne z6]
            have := p8 p (by omega)
            unfold PMj at this ⊢
            rw [old _ _ (by omega) (by omega) (by omega) (by omega) (by omega), old _ _ (by omega) (by omega) (by omega) (by omega) (by omega)]
            exact this
        · have := p9 i hi
          show PIf F2 B b c i (π.2.2.2.2 i)
          unfold PIf at this ⊢
          cases hf : π.2.2.2.2 i with
          | none =>
            rw [hf] at this
            show F2 (B + 11) (4 * b + i) = -1
            rw [old _ _ (by omega) (by omega) (by omega) (by omega) (by omega)]; exact this
          | some ops =>
            rw [hf] at this
            obtain ⟨c1, q1, q2, q3, q4⟩ := this
            exact ⟨c1, by rw [old _ _ (by omega) (by omega) (by omega) (by omega) (by omega)]; exact q1, by rw [old _ _ (by omega) (by omega) (by omega) (by omega) (by omega)]; exact q2, q3, fun j o hj => by rw [old _ _ (by omega) (by omega) (by omega) (by omega) (by omega), old _ _ (by omega) (by omega) (by omega) (by omega) (by omega)]; exact q4 j o hj⟩
        · have hp : p < π.1 6 + 1 := hp
          show g5 (B + 15) (4 * b + p) = lN (packM (fu π.2.1 (π.1 6) (tkW tp (tkE tp e)) p))
          rw [fg5 _ _ (by omega), hg2]
          by_cases z6 : p = π.1 6
          · rw [z6, fu_eq, up2_eq]; exact (s3 k1).1
          · rw [fu_ne z6, up2_k (by omega)]; exact p10 p (by omega)
    · obtain ⟨v, hv⟩ : ∃ v, pnS π (tkW tp (tkE tp e)) = some v := by
        cases hq : pnS π (tkW tp (tkE tp e)) with
        | none => exact absurd hq hn
        | some v => exact ⟨v, rfl⟩
      refine M_blame (k := 2) (pl := tkS tp (tkE tp e)) hs b2 (by decide) (fun _ _ => ⟨hT.1, by omega⟩) (fun f3 d1 d2 => ?_)
      exact L94e f3 _ (hF2.tr d1.fm.fb) (by rw [d1 _ _ (by omega)]; exact h292) (h82.kp (fun k => d1 _ _ (by omega))) d2 (by rw [bd_ok, hv]; rfl)
  · unfold pthD at H
    rw [if_pos (by omega)] at H
    refine M_cnt hs hM (by omega) (by omega) (fun z => absurd z (by decide)) (fun _ f1 a1 a2 => ⟨fun z => absurd rfl z, fun _ => ⟨_, _, rfl, rfl, H f1 g ⟨_, rfl, a2, by rw [a1 _ _ (by omega)]; exact h29, h8.kp (fun k => a1 _ _ (by omega)), fun x hx => (by cases hx)⟩ a1.fb GB.rf⟩⟩)
end MSM
