/-! the reference inside a formula: parts -/
theorem fcT_at : ∀ w, w < 4 → ∀ q ∈ fcL, fcT w q.2 = if al w q.1 then some q.1 else none := by decide +kernel
theorem factS_at {tp : List Nat} {w e s k : Nat} (hw : w < 4) (h : isW tp e k = true) (hk : k < 29) (hm : (s, k) ∈ fcL) : factS tp w e = if al w s then some s else none := by
  rw [factS_own (isW_K h).1 ((ownI_i hk).mpr (isW_K h).2)]
  exact fcT_at w hw (s, k) hm
def asN (w : Nat) : Nat := if w = 0 then 30 else if w = 1 then 230 else if w = 2 then 1538 else 354
theorem asN_bit : ∀ w, w < 4 → ∀ s, s < 11 → (((nI (asN w) >>> (nI s &&& 31)) &&& nI 1 = nI 1) ↔ al w s = true) ∨ s = 0 := by decide +kernel
theorem isW_x {tp : List Nat} {e k k' : Nat} (h : isW tp e k = true) (hk : k < 29) (hk' : k' < 29) (hne : k ≠ k') : isW tp e k' = false := by
  cases q : isW tp e k' with
  | false => rfl
  | true =>
    have h1 := (ownI_i hk).mpr (isW_K h).2
    have h2 := (ownI_i hk').mpr (isW_K q).2
    rw [h1] at h2
    cases h2
    exact absurd rfl hne
theorem isSg_x {tp : List Nat} {e k k' : Nat} (h : isSg tp e k = true) (hne : k ≠ k') : isSg tp e k' = false := by
  cases q : isSg tp e k' with
  | false => rfl
  | true =>
    have h1 := (isSg_K h).2
    have h2 := (isSg_K q).2
    omega
section PAR
variable {l : Launch} {G : Gx} {d : Nat} {sh : Sh} {fR : FRt} {B : Nat} {tp : List Nat} {b c0 w : Nat} {K : FI → FL → Prop} {f0 : FI} {g0 : FL} {e : Nat} {cs : List Op} {o k ph pr : Nat} {bg : Bool} {os : List Nat} {t fs : List Frr}
theorem M_asked {K : Int32 → FI → FL → Prop} {f : FI} {g : FL} {d s : Nat} (hs : StM sh fR B) (hw : w < 4) (hs1 : 1 ≤ s ∧ s ≤ 10) (H : K (bI (al w s)) f g) : Cl l G d 0 0 mX12_askedIn [.int (nI w)] (sh, f, g, fR) (qi sh fR fun x f g => Cl l G d 0 0 mX12_has2 [.int x, .int (nI s)] (sh, f, g, fR) (qi sh fR K)) := by
  have key : Cl l G d 0 0 mX12_has2 [.int (nI (asN w)), .int (nI s)] (sh, f, g, fR) (qi sh fR K) := by
    have hb := (asN_bit w hw s (by omega)).resolve_right (by omega)
    refine VX12_has2 hs ⟨fun c => ?_, fun c => ?_⟩
    · rw [hb] at c
      rw [show al w s = false by simpa using c] at H
      exact ⟨_, _, _, rfl, rfl, H⟩
    · rw [hb.mp c] at H
      exact ⟨_, _, _, rfl, rfl, H⟩
  refine VX12_askedIn hs ?_
  rcases (show w = 0 ∨ w = 1 ∨ w = 2 ∨ w = 3 by omega) with rfl | rfl | rfl | rfl
  all_goals repeat' first | exact ⟨_, _, _, rfl, rfl, key⟩ | refine ⟨?_, ?_⟩ | (intro c; first | exact absurd c (by decide) | exact absurd rfl c | skip)
theorem S_492e {f : FI} {g : FL} (hs : StM sh fR B) (hM : MF f g B tp b c0 w e cs fs o e) (h4 : tkK tp e ≠ 4) (hq : Fq B b c0 f0 f) (hg : Fg B g0 g) (H : Le B tp b c0 K f0 g0 (bad tp e)) : LpX12_operand_492 l G d (qi sh fR fun x f g => (x = 0 ∨ x = 1) ∧ LpX12_reads_70 l G d (qv sh fR K) sh fR B (up2 f B 40 x) g (nI 1)) sh fR B f g (-1) := by
  have hsl := tkS_le hM.1.2.2.1
  have h16 := hM.1.len
  refine VX12_operand_492 hs ⟨fun z => absurd rfl z, fun _ => ?_⟩
  refine M_blame (k := 1) (pl := tkS tp e) hs hM.1 (by decide) (fun _ _ => ⟨hM.1.2.2.2.1, by omega⟩) (fun f2 b1 b2 => ?_)
  have e4 : bad tp e = (1, tkS tp e) := by unfold bad; rw [if_neg h4]
  exact VX12_operand_506 hs ⟨fun z => absurd z (MS.er8 b2).2, fun _ => ⟨_, _, _, rfl, rfl, O_er (bb := true) hs H (by rw [e4]; exact b2) (hq.tr b1.fm.fq) hg⟩⟩
theorem S_492 {f : FI} {g : FL} {s v : Nat} (hs : StM sh fR B) (hM : MF f g B tp b c0 w e cs fs o e) (h4 : tkK tp e ≠ 4) (h0 : tkK tp e ≠ 0) (hsv : s ≤ 10) (h6 : f B 6 = nI v) (hq : Fq B b c0 f0 f) (hg : Fg B g0 g) (H : Lq l G d sh fR B tp b c0 w K f0 g0 (tkE tp e) (cs ++ [(s, v)]) fs o true) : LpX12_operand_492 l G d (qi sh fR fun x f g => (x = 0 ∨ x = 1) ∧ LpX12_reads_70 l G d (qv sh fR K) sh fR B (up2 f B 40 x) g (nI 1)) sh fR B f g (nI s) := by
  refine VX12_operand_492 hs ⟨fun _ => ?_, fun z => absurd z (nI_m1 (by omega))⟩
  refine VX12_operand_506 hs ⟨fun _ => ?_, fun z => absurd hM.ok8.2 z⟩
  have hE := tkE_gte h0
  have hEl := tkE_le hM.1.2.2.1
  have h16 := hM.1.len
  have h8 := hM.2.2.2.2.2.2.2
  have h2 := hM.2.1
  have h3 := hM.2.2.1
  have hlc : (nI 1600 * nI b + nI (c0 + cs.length)).toNatClampNeg = 1600 * b + (c0 + cs.length) := by rw [pk_mul, nI_add, clN (by omega)]
  have hin : inb (nI 1600 * nI b + nI (c0 + cs.length)) 3200 := by rw [pk_mul, nI_add]; exact inbN (by omega) (by decide)
  rw [h2.1, h3.1, hlc, nI_add, h6]
  have hC := hM.code (x := ((s, v) : Op)) (v1 := nI s) (v2 := nI v) (v3 := nI (c0 + cs.length + 1)) (bu' := e + 1) (n := 1600 * b + (c0 + cs.length)) rfl (by rw [List.length_append, List.length_singleton]; omega) (by omega) rfl rfl rfl
  exact ⟨hin, hin, M_adv hs hC.1 h4 h0 (fun f2 g2 b1 b2 b3 => ⟨_, _, _, rfl, rfl, O_to (bb := true) hs H ((hC.tok b1 b3).bu' (by omega) (by omega)) ((((hq.upC (by omega) (by omega)).upC (by omega) (by omega)).up0 (by omega)).tr b1.fq) (hg.tr b2)⟩)⟩
/-- what stands where a part must stand and is neither a sign nor a pair -/
theorem O_leaf (hs : StM sh fR B) (h4 : tkK tp e ≠ 4) (hn : tsF (k, ph, bg, pr, os) = true → isW tp e 25 = false ∧ isSg tp e 91 = false ∧ isW tp e 26 = false) (n40 : isSg tp e 40 = false) (n22 : isW tp e 22 = false) (n27 : isW tp e 27 = false) (n28 : isW tp e 28 = false) (H : match factS tp w e with
  | some s => Lq l G d sh fR B tp b c0 w K f0 g0 (tkE tp e) (cs ++ [(s, 0)]) ((k, ph, false, pr, os) :: t) o true
  | none => if tkK tp e = 2 then Lq l G d sh fR B tp b c0 w K f0 g0 (tkE tp e) (cs ++ [(0, tkV tp e)]) ((k, ph, false, pr, os) :: t) o true else Le B tp b c0 K f0 g0 (bad tp e)) : Lq l G d sh fR B tp b c0 w K f0 g0 e cs ((k, ph, bg, pr, os) :: t) o false := by
  refine O_1 hs h4 (fun z => (hn z).1) (fun f g hM hq hg => ?_)
  refine O_2 hs h4 (fun z => (hn z).2) hM hq hg (fun f hM hq => ?_)
  have hT := hM.1.2.2.2
  have hb := hM.1.1.2.2.2
  obtain ⟨s1, s2, s3, s4⟩ := hT.2.2.1 h4
  have hw := hM.2.1.2.2.2
  have h30 := hM.2.1.2.2.1
  have hk4 := @tkK_le tp e
  refine VX12_operand_171 hs ?_
  refine M_isSg hs hb hT h4 (by decide) (bI_cs (fun _ => ?_) (fun z => by rw [n40] at z; cases z))
  refine M_isW (k := 27) hs hT h4 (by decide) (by decide +kernel) (bI_cs' (fun _ => ?_) (fun z => by rw [n27] at z; cases z))
  refine M_isW (k := 28) hs hT h4 (by decide) (by decide +kernel) (bI_cs' (fun _ => ?_) (fun z => by rw [n28] at z; cases z))
  refine M_isW (k := 22) hs hT h4 (by decide) (by decide +kernel) (bI_cs (fun _ => ?_) (fun z => by rw [n22] at z; cases z))
  have hit : ∀ s k2, (s, k2) ∈ fcL → k2 < 29 → 1 ≤ s ∧ s ≤ 10 → isW tp e k2 = true → Cl l G (d + 2) 0 0 mX12_askedIn [.int (f B 30)] (sh, f, g, fR) (qi sh fR fun x f g => Cl l G (d + 2) 0 0 mX12_has2 [.int x, .int (nI s)] (sh, f, g, fR) (qi sh fR fun y f g => ((¬ y = 0 → LpX12_operand_492 l G d (qi sh fR fun x f g => (x = 0 ∨ x = 1) ∧ LpX12_reads_70 l G d (qv sh fR K) sh fR B (up2 f B 40 x) g (nI 1)) sh fR B f g (nI s)) ∧ (y = 0 → LpX12_operand_492 l G d (qi sh fR fun x f g => (x = 0 ∨ x = 1) ∧ LpX12_reads_70 l G d (qv sh fR K) sh fR B (up2 f B 40 x) g (nI 1)) sh fR B f g (-1))))) := by
    intro s k2 hm hk2 hs10 hz
    have hK := (isW_K hz).1
    rw [factS_at hw hz hk2 hm] at H
    rw [h30]
    refine M_asked hs hw hs10 (bI_cs' (fun c => ?_) (fun c => ?_))
    · rw [c, if_neg Bool.false_ne_true] at H
      dsimp only at H
      rw [if_neg (by omega)] at H
      exact S_492e hs hM h4 hq hg H
    · rw [if_pos c] at H
      exact S_492 hs hM h4 (by omega) hs10.2 (s3 hK).2 hq hg H
  rw [s1, nI_eq (by omega) (by decide)]
  refine ⟨fun hk2 => ?_, fun hk2 => ?_⟩
  · refine M_isW (k := 14) hs hT h4 (by decide) (by decide +kernel) (bI_cs (fun z1 => ?_) (fun z => hit 1 14 (by decide) (by decide) (by decide) z))
    refine M_isW (k := 4) hs hT h4 (by decide) (by decide +kernel) (bI_cs (fun z2 => ?_) (fun z => hit 2 4 (by decide) (by decide) (by decide) z))
    refine M_isW (k := 15) hs hT h4 (by decide) (by decide +kernel) (bI_cs (fun z3 => ?_) (fun z => hit 3 15 (by decide) (by decide) (by decide) z))
    refine M_isW (k := 16) hs hT h4 (by decide) (by decide +kernel) (bI_cs (fun z4 => ?_) (fun z => hit 4 16 (by decide) (by decide) (by decide) z))
    refine M_isW (k := 5) hs hT h4 (by decide) (by decide +kernel) (bI_cs (fun z5 => ?_) (fun z => hit 5 5 (by decide) (by decide) (by decide) z))
    refine M_isW (k := 17) hs hT h4 (by decide) (by decide +kernel) (bI_cs (fun z6 => ?_) (fun z => hit 6 17 (by decide) (by decide) (by decide) z))
    refine M_isW (k := 18) hs hT h4 (by decide) (by decide +kernel) (bI_cs (fun z7 => ?_) (fun z => hit 7 18 (by decide) (by decide) (by decide) z))
    refine M_isW (k := 19) hs hT h4 (by decide) (by decide +kernel) (bI_cs (fun z8 => ?_) (fun z => hit 8 19 (by decide) (by decide) (by decide) z))
    refine M_isW (k := 20) hs hT h4 (by decide) (by decide +kernel) (bI_cs (fun z9 => ?_) (fun z => hit 9 20 (by decide) (by decide) (by decide) z))
    refine M_isW (k := 21) hs hT h4 (by decide) (by decide +kernel) (bI_cs (fun z10 => ?_) (fun z => hit 10 21 (by decide) (by decide) (by decide) z))
    have hf : factS tp w e = none := by
      unfold factS fcL
      rw [Option.map_eq_none_iff, List.find?_eq_none]
      intro a ha
      simp at ha
      rcases ha with rfl | rfl | rfl | rfl | rfl | rfl | rfl | rfl | rfl | rfl <;> simp only [z1, z2, z3, z4, z5, z6, z7, z8, z9, z10, Bool.false_and] <;> decide
    rw [hf] at H
    dsimp only at H
    rw [if_neg hk2] at H
    exact S_492e hs hM h4 hq hg H
  · rw [factS_non (Or.inr (by omega))] at H
    dsimp only at H
    rw [if_pos hk2] at H
    exact S_492 hs hM h4 (by omega) (by decide) (s4 (Or.inl hk2)) hq hg H
theorem O_par (hs : StM sh fR B) (n40 : isSg tp e 40 = true) (hl : t.length ≤ 7) (H : o ≠ 7 → Lq l G d sh fR B tp b c0 w K f0 g0 (tkE tp e) cs ((2, 0, true, 0, []) :: (k, ph, false, pr, os) :: t) (o + 1) false) (HE : o = 7 → Le B tp b c0 K f0 g0 (5, tkS tp e)) : Lq l G d sh fR B tp b c0 w K f0 g0 e cs ((k, ph, bg, pr, os) :: t) o false := by
  have hK := (isSg_K n40).1
  refine O_1 hs (by omega) (fun _ => isW_of (by omega)) (fun f g hM hq hg => ?_)
  refine O_2 hs (by omega) (fun _ => ⟨isSg_x n40 (by decide), isW_of (by omega)⟩) hM hq hg (fun f hM hq => ?_)
  refine VX12_operand_171 hs ?_
  refine M_isSg hs hM.1.1.2.2.2 hM.1.2.2.2 (by omega) (by decide) (bI_cs (fun z => by rw [n40] at z; cases z) (fun _ => ?_))
  exact M_opens (kd := 2) (pr' := 0) hs hM (by omega) (by omega) (by rw [List.length_cons]; omega) (by decide) (by decide) (fun c f2 a1 a2 => ⟨_, _, _, rfl, rfl, O_er (bb := false) hs (HE c) a1 (hq.tr a2) hg⟩) (fun c f2 g2 a1 a2 a3 a4 a5 => ⟨_, _, _, rfl, rfl, O_to (bb := false) hs (H c) (a5 f2 (fun _ _ _ => rfl) (fun z => by cases z)) (hq.tr a1) (hg.tr a2)⟩)
/-- behind min, max, if -/
theorem S_276 {f : FI} {g : FL} {x : Nat} (hs : StM sh fR B) (hM : MF f g B tp b c0 w e cs fs o e) (hn : isSg tp e 40 = true) (hx : x = 36 ∨ x = 37 ∨ x = 44) (hl : fs.length ≤ 8) (hq : Fq B b c0 f0 f) (hg : Fg B g0 g) (H : o ≠ 7 → Lq l G d sh fR B tp b c0 w K f0 g0 (tkE tp e) cs ((if x = 44 then 6 else 3, 0, true, x, []) :: fs) (o + 1) false) (HE : o = 7 → Le B tp b c0 K f0 g0 (5, tkS tp e)) : LpX12_operand_276 l G d (qi sh fR fun x f g => (x = 0 ∨ x = 1) ∧ LpX12_reads_70 l G d (qv sh fR K) sh fR B (up2 f B 40 x) g (nI 1)) sh fR B f g (nI x) := by
  have hK := (isSg_K hn).1
  have key : ∀ kd, kd = (if x = 44 then 6 else 3) → Cl l G (d + 2) 0 0 mX12_opens [.ref B, .int (nI kd)] (sh, f, g, fR) (qv sh fR fun f g => ((¬ (f B 8) = 0 → (qi sh fR fun x f g => (x = 0 ∨ x = 1) ∧ LpX12_reads_70 l G d (qv sh fR K) sh fR B (up2 f B 40 x) g (nI 1)) (some (.int (nI 0))) (sh, f, g, fR)) ∧ ((f B 8) = 0 → inb ((f B 36) - (nI 1)) 20 ∧ (qi sh fR fun x f g => (x = 0 ∨ x = 1) ∧ LpX12_reads_70 l G d (qv sh fR K) sh fR B (up2 f B 40 x) g (nI 1)) (some (.int (nI 0))) (sh, (up2 f (B + 19) ((f B 36) - (nI 1)).toNatClampNeg (nI x)), g, fR)))) := by
    intro kd hkd
    have hk6 : kd ≤ 6 := by rw [hkd]; split <;> decide
    refine M_opens (kd := kd) (pr' := x) hs hM (by omega) (by omega) hl hk6 (by omega) (fun c f2 a1 a2 => ⟨fun _ => ⟨_, _, _, rfl, rfl, O_er (bb := false) hs (HE c) a1 (hq.tr a2) hg⟩, fun z => absurd z (MS.er8 a1).1⟩) (fun c f2 g2 a1 a2 a3 a4 a5 => ⟨fun z => absurd a3 z, fun _ => ?_⟩)
    rw [a4, pk_sub (by omega), Nat.add_sub_cancel, clN (by omega)]
    refine ⟨inbN (by omega) (by decide), ⟨_, _, _, rfl, rfl, O_to (bb := false) hs (H c) ?_ ((hq.tr a1).upS (by omega)) (hg.tr a2)⟩⟩
    rw [← hkd]
    exact a5 _ (fun r k z => up2_ne z) (fun _ => up2_eq)
  refine VX12_operand_276 hs ?_
  rw [nI_eq (by omega) (by decide)]
  refine ⟨fun c => key 3 (by rw [if_neg c]), fun c => key 6 (by rw [if_pos c])⟩
theorem S_276e {f : FI} {g : FL} {x : Nat} {y : Nat × Nat} (hs : StM sh fR B) (hM : MS f g B tp (.error y)) (hq : Fq B b c0 f0 f) (hg : Fg B g0 g) (H : Le B tp b c0 K f0 g0 y) : LpX12_operand_276 l G d (qi sh fR fun x f g => (x = 0 ∨ x = 1) ∧ LpX12_reads_70 l G d (qv sh fR K) sh fR B (up2 f B 40 x) g (nI 1)) sh fR B f g (nI x) := by
  have key : ∀ kd, Cl l G (d + 2) 0 0 mX12_opens [.ref B, .int kd] (sh, f, g, fR) (qv sh fR fun f g => ((¬ (f B 8) = 0 → (qi sh fR fun x f g => (x = 0 ∨ x = 1) ∧ LpX12_reads_70 l G d (qv sh fR K) sh fR B (up2 f B 40 x) g (nI 1)) (some (.int (nI 0))) (sh, f, g, fR)) ∧ ((f B 8) = 0 → inb ((f B 36) - (nI 1)) 20 ∧ (qi sh fR fun x f g => (x = 0 ∨ x = 1) ∧ LpX12_reads_70 l G d (qv sh fR K) sh fR B (up2 f B 40 x) g (nI 1)) (some (.int (nI 0))) (sh, (up2 f (B + 19) ((f B 36) - (nI 1)).toNatClampNeg (nI x)), g, fR)))) := by
    intro kd
    have fin : ∀ f2, Fq B b c0 f0 f2 → MS f2 g B tp (.error y) → LpX12_opens_18 l G d (qv sh fR fun f g => ((¬ (f B 8) = 0 → (qi sh fR fun x f g => (x = 0 ∨ x = 1) ∧ LpX12_reads_70 l G d (qv sh fR K) sh fR B (up2 f B 40 x) g (nI 1)) (some (.int (nI 0))) (sh, f, g, fR)) ∧ ((f B 8) = 0 → inb ((f B 36) - (nI 1)) 20 ∧ (qi sh fR fun x f g => (x = 0 ∨ x = 1) ∧ LpX12_reads_70 l G d (qv sh fR K) sh fR B (up2 f B 40 x) g (nI 1)) (some (.int (nI 0))) (sh, (up2 f (B + 19) ((f B 36) - (nI 1)).toNatClampNeg (nI x)), g, fR)))) sh fR B f2 g kd := fun f2 a1 a2 => VX12_opens_18 hs ⟨fun z => absurd z (MS.er8 a2).2, fun _ => ⟨_, _, rfl, rfl, fun _ => ⟨_, _, _, rfl, rfl, O_er (bb := false) hs H a2 a1 hg⟩, fun z => absurd z (MS.er8 a2).1⟩⟩
    refine VX12_opens hs ⟨fun _ => fin f hq hM, fun _ => M_blame (k := 5) (pl := 0) hs hM (by decide) (fun e z => by cases z) (fun f2 b1 b2 => fin f2 (hq.tr b1.fm.fq) b2)⟩
  exact VX12_operand_276 hs ⟨fun _ => key _, fun _ => key _⟩
theorem O_pair {x kx : Nat} (hs : StM sh fR B) (hx : (x = 36 ∧ kx = 27) ∨ (x = 37 ∧ kx = 28) ∨ (x = 44 ∧ kx = 22)) (hn : isW tp e kx = true) (hl : t.length ≤ 7) (H : isSg tp (tkE tp e) 40 = true → o ≠ 7 → Lq l G d sh fR B tp b c0 w K f0 g0 (tkE tp (tkE tp e)) cs ((if x = 44 then 6 else 3, 0, true, x, []) :: (k, ph, false, pr, os) :: t) (o + 1) false) (HE : isSg tp (tkE tp e) 40 = true → o = 7 → Le B tp b c0 K f0 g0 (5, tkS tp (tkE tp e))) (HB : isSg tp (tkE tp e) 40 = false → Le B tp b c0 K f0 g0 (bad tp (tkE tp e))) : Lq l G d sh fR B tp b c0 w K f0 g0 e cs ((k, ph, bg, pr, os) :: t) o false := by
  have hK := (isW_K hn).1
  have hkx : kx < 29 := by omega
  refine O_1 hs (by omega) (fun _ => isW_x hn hkx (by decide) (by omega)) (fun f g hM hq hg => ?_)
  refine O_2 hs (by omega) (fun _ => ⟨isSg_of (by omega), isW_x hn hkx (by decide) (by omega)⟩) hM hq hg (fun f hM hq => ?_)
  have hT := hM.1.2.2.2
  have hE := tkE_gte (tp := tp) (e := e) (by omega)
  have hEl := tkE_le hM.1.2.2.1
  have h16 := hM.1.len
  have go : Cl l G (d + 2) 0 0 mX12_ahead [.ref B] (sh, f, g, fR) (qv sh fR fun f g => Cl l G (d + 2) 0 0 mX12_lex [.ref B] (sh, f, g, fR) (qv sh fR fun f g => Cl l G (d + 2) 0 0 mX12_isSign [.ref B, .int (nI 40)] (sh, f, g, fR) (qi sh fR fun y f g => ((¬ y = 0 → LpX12_operand_276 l G d (qi sh fR fun x f g => (x = 0 ∨ x = 1) ∧ LpX12_reads_70 l G d (qv sh fR K) sh fR B (up2 f B 40 x) g (nI 1)) sh fR B f g (nI x)) ∧ (y = 0 → Cl l G (d + 2) 0 0 mX12_blame [.ref B, .int (nI 1), .int (f B 4)] (sh, f, g, fR) (qv sh fR fun f g => LpX12_operand_276 l G d (qi sh fR fun x f g => (x = 0 ∨ x = 1) ∧ LpX12_reads_70 l G d (qv sh fR K) sh fR B (up2 f B 40 x) g (nI 1)) sh fR B f g (nI x))))))) := by
    refine M_adv hs hM.1 (by omega) (by omega) (fun f2 g2 a1 a2 a3 => ?_)
    have hM2 := (hM.tok a1 a3).bu' (bu' := tkE tp e) (by omega) (by omega)
    have hq2 := hq.tr (a1.fq (b := b) (c0 := c0))
    have hg2 := hg.tr a2
    refine M_lex hs hM2.1 (fun f3 b1 b2 => ?_)
    have hq3 := hq2.tr (b1.fq (b := b) (c0 := c0))
    by_cases c4 : tkK tp (tkE tp e) = 4
    · have e4 : bd (.ok (tkE tp e) : Rr Nat) (lexD tp) = .error (bad tp (tkE tp e)) := by rw [bd_ok]; unfold lexD; rw [if_pos c4]
      rw [e4] at b2
      have HB' := HB (isSg_of (by omega))
      exact M_isSgA hs (fun bb => bI_cs' (fun _ => M_blame (k := 1) (pl := 0) hs b2 (by decide) (fun e z => by cases z) (fun f4 d1 d2 => S_276e hs d2 (hq3.tr d1.fm.fq) hg2 HB')) (fun _ => S_276e hs b2 hq3 hg2 HB'))
    · have e4 : bd (.ok (tkE tp e) : Rr Nat) (lexD tp) = .ok (tkE tp e) := by rw [bd_ok]; unfold lexD; rw [if_neg c4]
      rw [e4] at b2
      have hM3 := hM2.tok b1 b2
      have hsl := tkS_le b2.2.2.1
      refine M_isSg hs b2.1.2.2.2 b2.2.2.2 c4 (by decide) (bI_cs' (fun z => ?_) (fun z => ?_))
      · refine M_blame (k := 1) (pl := tkS tp (tkE tp e)) hs b2 (by decide) (fun _ _ => ⟨b2.2.2.2.1, by omega⟩) (fun f4 d1 d2 => S_276e hs d2 (hq3.tr d1.fm.fq) hg2 ?_)
        have e5 : bad tp (tkE tp e) = (1, tkS tp (tkE tp e)) := by unfold bad; rw [if_neg c4]
        rw [← e5]
        exact HB z
      · exact S_276 hs hM3 z (by omega) (by rw [List.length_cons]; omega) hq3 hg2 (H z) (HE z)
  have L217 : LpX12_operand_217 l G d (qi sh fR fun x f g => (x = 0 ∨ x = 1) ∧ LpX12_reads_70 l G d (qv sh fR K) sh fR B (up2 f B 40 x) g (nI 1)) sh fR B f g := by
    refine VX12_operand_217 hs ?_
    rcases hx with ⟨rfl, rfl⟩ | ⟨rfl, rfl⟩ | ⟨rfl, rfl⟩
    · exact M_isW (k := 27) hs hT (by omega) (by decide) (by decide +kernel) (bI_cs (fun z => by rw [hn] at z; cases z) (fun _ => go))
    · exact M_isW (k := 27) hs hT (by omega) (by decide) (by decide +kernel) (bI_cs (fun _ => M_isW (k := 28) hs hT (by omega) (by decide) (by decide +kernel) (bI_cs (fun z => by rw [hn] at z; cases z) (fun _ => go))) (fun z => by rw [isW_x hn (by decide) (by decide) (by decide)] at z; cases z))
    · exact M_isW (k := 27) hs hT (by omega) (by decide) (by decide +kernel) (bI_cs (fun _ => M_isW (k := 28) hs hT (by omega) (by decide) (by decide +kernel) (bI_cs (fun _ => go) (fun z => by rw [isW_x hn (by decide) (by decide) (by decide)] at z; cases z))) (fun z => by rw [isW_x hn (by decide) (by decide) (by decide)] at z; cases z))
  refine VX12_operand_171 hs ?_
  refine M_isSg hs hM.1.1.2.2.2 hT (by omega) (by decide) (bI_cs (fun _ => ?_) (fun z => by rw [isSg_of (by omega)] at z; cases z))
  refine M_isW (k := 27) hs hT (by omega) (by decide) (by decide +kernel) (bI_cs' (fun z1 => ?_) (fun _ => L217))
  refine M_isW (k := 28) hs hT (by omega) (by decide) (by decide +kernel) (bI_cs' (fun z2 => ?_) (fun _ => L217))
  refine M_isW (k := 22) hs hT (by omega) (by decide) (by decide +kernel) (bI_cs (fun z3 => ?_) (fun _ => L217))
  rcases hx with ⟨rfl, rfl⟩ | ⟨rfl, rfl⟩ | ⟨rfl, rfl⟩
  · rw [hn] at z1; cases z1
  · rw [hn] at z2; cases z2
  · rw [hn] at z3; cases z3
end PAR
