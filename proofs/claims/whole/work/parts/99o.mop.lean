/-! the reference inside a formula: operands -/
def tsF (x : Frr) : Bool := (x.1 == 1 || x.1 == 5 || x.1 == 6) && x.2.2.1
section OPD
variable {l : Launch} {G : Gx} {d : Nat} {sh : Sh} {fR : FRt} {B : Nat} {tp : List Nat} {b c0 w : Nat} {K : FI → FL → Prop} {f0 : FI} {g0 : FL} {e : Nat} {cs : List Op} {o k ph pr : Nat} {bg : Bool} {os : List Nat} {t fs : List Frr}
theorem MF.ok8 {f : FI} {g : FL} {bu : Nat} (h : MF f g B tp b c0 w e cs fs o bu) : f B 8 = 0 ∧ f B 8 ≤ 0 := h.1.ok8
/-- an operand's end -/
theorem O_to {f : FI} {g : FL} {bb : Bool} (hs : StM sh fR B) (h : Lq l G d sh fR B tp b c0 w K f0 g0 e cs fs o bb) (hM : MF f g B tp b c0 w e cs fs o e) (hq : Fq B b c0 f0 f) (hg : Fg B g0 g) : (bI bb = 0 ∨ bI bb = 1) ∧ LpX12_reads_70 l G d (qv sh fR K) sh fR B (up2 f B 40 (bI bb)) g (nI 1) :=
  ⟨bI_01 bb, VX12_reads_70 hs ⟨fun c => absurd c (by decide), fun _ => ⟨fun z => absurd ((up2_k (by decide)).trans hM.ok8.1) z, fun _ => h _ _ hM.f40 up2_eq (hq.up0 (by omega)) hg⟩⟩⟩
theorem O_er {f : FI} {g : FL} {bb : Bool} {x : Nat × Nat} (hs : StM sh fR B) (h : Le B tp b c0 K f0 g0 x) (hM : MS f g B tp (.error x)) (hq : Fq B b c0 f0 f) (hg : Fg B g0 g) : (bI bb = 0 ∨ bI bb = 1) ∧ LpX12_reads_70 l G d (qv sh fR K) sh fR B (up2 f B 40 (bI bb)) g (nI 1) := by
  have hM' : MS (up2 f B 40 (bI bb)) g B tp (.error x) := hM.kp (fun k hk => up2_k (by omega)) (fun k => up2_r (by omega))
  exact ⟨bI_01 bb, VX12_reads_70 hs ⟨fun c => absurd c (by decide), fun _ => ⟨fun _ => VX12_reads_85 hs (VX12_reads_43 hs ⟨fun _ => ⟨_, _, rfl, rfl, h _ _ hM' (hq.up0 (by omega)) hg⟩, fun c => absurd rfl c⟩), fun z => absurd z hM'.er8.1⟩⟩⟩
theorem M_isTs {K : Int32 → FI → FL → Prop} {f : FI} {g : FL} {x : Nat} (hs : StM sh fR B) (hx : x ≤ 6) (H : K (bI (x == 1 || x == 5 || x == 6)) f g) : Cl l G d 0 0 mX12_isTest [.int (nI x)] (sh, f, g, fR) (qi sh fR K) := by
  refine VX12_isTest hs ?_
  rcases (show x = 0 ∨ x = 1 ∨ x = 2 ∨ x = 3 ∨ x = 4 ∨ x = 5 ∨ x = 6 by omega) with rfl | rfl | rfl | rfl | rfl | rfl | rfl
  all_goals repeat' first | exact ⟨_, _, _, rfl, rfl, H⟩ | refine ⟨?_, ?_⟩ | (intro c; first | exact absurd c (by decide) | exact absurd rfl c | skip)
/-- a broken token -/
theorem O_brk (hs : StM sh fR B) (h4 : tkK tp e = 4) (H : Le B tp b c0 K f0 g0 (bad tp e)) : Lq l G d sh fR B tp b c0 w K f0 g0 e cs fs o false := by
  intro f g hM h40 hq hg
  refine VX12_reads_43 hs ⟨fun c => absurd c (by decide), fun _ => ⟨fun c => absurd h40 c, fun _ => ?_⟩⟩
  refine VX12_operand hs ?_
  refine M_lex hs hM.1 (fun f1 a1 a2 => ?_)
  have e4 : bd (.ok e : Rr Nat) (lexD tp) = .error (bad tp e) := by rw [bd_ok]; unfold lexD; rw [if_pos h4]
  rw [e4] at a2
  exact ⟨fun z => absurd z a2.er8.2, fun _ => ⟨_, _, _, rfl, rfl, O_er (bb := true) hs H a2 (hq.tr a1.fq) hg⟩⟩
theorem O_1 (hs : StM sh fR B) (h4 : tkK tp e ≠ 4) (hn : tsF (k, ph, bg, pr, os) = true → isW tp e 25 = false) (H : ∀ f g, MF f g B tp b c0 w e cs ((k, ph, bg, pr, os) :: t) o e → Fq B b c0 f0 f → Fg B g0 g → LpX12_operand_110 l G d (qi sh fR fun x f g => (x = 0 ∨ x = 1) ∧ LpX12_reads_70 l G d (qv sh fR K) sh fR B (up2 f B 40 x) g (nI 1)) sh fR B f g (nI t.length) (bI (tsF (k, ph, bg, pr, os)))) : Lq l G d sh fR B tp b c0 w K f0 g0 e cs ((k, ph, bg, pr, os) :: t) o false := by
  intro f g hM h40 hq hg
  refine VX12_reads_43 hs ⟨fun c => absurd c (by decide), fun _ => ⟨fun c => absurd h40 c, fun _ => ?_⟩⟩
  refine VX12_operand hs ?_
  refine M_lex hs hM.1 (fun f1 a1 a2 => ?_)
  have e4 : bd (.ok e : Rr Nat) (lexD tp) = .ok e := by rw [bd_ok]; unfold lexD; rw [if_neg h4]
  rw [e4] at a2
  have hM1 := hM.tok a1 a2
  have hq1 := hq.tr (a1.fq (b := b) (c0 := c0))
  obtain ⟨h1, h2, h3, ⟨⟨r1, r2, r3, r4, r5, r6, r7, r8⟩, h4'⟩, h5, h6, h7, h8⟩ := hM1
  have hM1 := hM.tok a1 a2
  have hl5 := h5.2
  rw [List.length_cons] at hl5
  refine ⟨fun _ w4 hw => ?_, fun z => absurd h1.ok8.2 z⟩
  rw [h5.1, List.length_cons, pk_sub (by omega), Nat.add_sub_cancel] at hw
  rw [hw, clN (by omega), r1]
  refine ⟨inbN (by omega) (by decide), M_isTs hs r6 (bI_cs (fun c => ?_) (fun c => ⟨inbN (by omega) (by decide), ?_⟩))⟩
  · refine VX12_operand_45 hs ?_
    have := H f1 g hM1 hq1 hg
    rw [show tsF (k, ph, bg, pr, os) = false by unfold tsF; rw [show ((k, ph, bg, pr, os).1 == 1 || (k, ph, bg, pr, os).1 == 5 || (k, ph, bg, pr, os).1 == 6) = false from c]; rfl] at this
    exact this
  · rw [r3]
    refine bI_cs (fun cb => VX12_operand_45 hs ?_) (fun cb => ?_)
    · have := H f1 g hM1 hq1 hg
      have cb' : bg = false := cb
      rw [show tsF (k, ph, bg, pr, os) = false by unfold tsF; rw [cb', Bool.and_false]] at this
      exact this
    · have cb' : bg = true := cb
      have ht : tsF (k, ph, bg, pr, os) = true := by
        unfold tsF; rw [cb', Bool.and_true]; exact c
      refine M_isW (k := 25) hs a2.2.2.2 h4 (by decide) (by decide +kernel) (bI_cs (fun _ => ?_) (fun z => ?_))
      · have := H f1 g hM1 hq1 hg
        rw [ht] at this
        exact this
      · rw [hn ht] at z; cases z
theorem O_2 {f : FI} {g : FL} (hs : StM sh fR B) (h4 : tkK tp e ≠ 4) (hn : tsF (k, ph, bg, pr, os) = true → isSg tp e 91 = false ∧ isW tp e 26 = false) (hM : MF f g B tp b c0 w e cs ((k, ph, bg, pr, os) :: t) o e) (hq : Fq B b c0 f0 f) (hg : Fg B g0 g) (H : ∀ f, MF f g B tp b c0 w e cs ((k, ph, false, pr, os) :: t) o e → Fq B b c0 f0 f → LpX12_operand_171 l G d (qi sh fR fun x f g => (x = 0 ∨ x = 1) ∧ LpX12_reads_70 l G d (qv sh fR K) sh fR B (up2 f B 40 x) g (nI 1)) sh fR B f g) : LpX12_operand_110 l G d (qi sh fR fun x f g => (x = 0 ∨ x = 1) ∧ LpX12_reads_70 l G d (qv sh fR K) sh fR B (up2 f B 40 x) g (nI 1)) sh fR B f g (nI t.length) (bI (tsF (k, ph, bg, pr, os))) := by
  have hl5 := hM.2.2.2.2.1.2
  rw [List.length_cons] at hl5
  have r67 : k ≤ 6 ∧ ph ≤ 2 := ⟨hM.2.2.2.1.1.2.2.2.2.2.1, hM.2.2.2.1.1.2.2.2.2.2.2.1⟩
  refine VX12_operand_110 hs ?_
  rw [clN (by omega)]
  have hM1 : MF (up2 f (B + 18) t.length (nI 0)) g B tp b c0 w e cs ((k, ph, false, pr, os) :: t) o e := hM.row (Or.inr (Or.inr ⟨rfl, rfl, rfl, rfl⟩)) r67 rfl
  have hq1 : Fq B b c0 f0 (up2 f (B + 18) t.length (nI 0)) := hq.upS (by omega)
  refine ⟨inbN (by omega) (by decide), bI_cs (fun c => ?_) (fun c => ?_)⟩
  · exact VX12_operand_137 hs ⟨fun _ => H _ hM1 hq1, fun z => absurd (by rw [c]; rfl) z⟩
  · refine M_isSg hs hM1.1.1.2.2.2 hM1.1.2.2.2 h4 (by decide) (bI_cs (fun _ => ?_) (fun z => by rw [(hn c).1] at z; cases z))
    refine VX12_operand_137 hs ⟨fun z => absurd z (by rw [c]; decide), fun _ => ?_⟩
    exact M_isW (k := 26) hs hM1.1.2.2.2 h4 (by decide) (by decide +kernel) (bI_cs (fun _ => H _ hM1 hq1) (fun z => by rw [(hn c).2] at z; cases z))
/-- a frame is opened, or one too many -/
theorem M_opens {KK : FI → FL → Prop} {f : FI} {g : FL} {kd pr' : Nat} (hs : StM sh fR B) (hM : MF f g B tp b c0 w e cs fs o e) (h4 : tkK tp e ≠ 4) (h0 : tkK tp e ≠ 0) (hl : fs.length ≤ 8) (hk : kd ≤ 6) (hp : pr' ≤ 44) (HE : o = 7 → ∀ f', MS f' g B tp (.error (5, tkS tp e)) → Fq B b c0 f f' → KK f' g) (H : o ≠ 7 → ∀ f' g', Fq B b c0 f f' → Fg B g g' → f' B 8 = 0 → f' B 36 = nI (fs.length + 1) → (∀ F : FI, (∀ r k, ¬ (r = B + 19 ∧ k = fs.length) → F r k = f' r k) → (isP kd = 1 → F (B + 19) fs.length = nI pr') → MF F g' B tp b c0 w (tkE tp e) cs ((kd, 0, true, pr', []) :: fs) (o + 1) (tkE tp e)) → KK f' g') : Cl l G (d + 2) 0 0 mX12_opens [.ref B, .int (nI kd)] (sh, f, g, fR) (qv sh fR KK) := by
  have h7 := hM.2.2.2.2.2.2.1
  have hsl := tkS_le hM.1.2.2.1
  have h16 := hM.1.len
  refine VX12_opens hs ?_
  rw [h7.1, nI_eq (by omega) (by decide)]
  refine ⟨fun c => ?_, fun c => ?_⟩
  · refine VX12_opens_18 hs ⟨fun _ => ?_, fun z => absurd hM.ok8.2 z⟩
    rw [h7.1, nI_add]
    have hM1 := hM.opn (v := nI (o + 1)) (o' := o + 1) rfl (by omega)
    refine M_adv hs hM1.1 h4 h0 (fun f2 g2 a1 a2 a3 => ?_)
    have hM2 := hM1.tok a1 a3
    have hE := tkE_gte h0
    have hEl := tkE_le hM.1.2.2.1
    have h36 := hM2.2.2.2.2.1
    have h39 := hM2.2.2.2.2.2.1
    rw [h36.1, clN (by omega), h39.1, nI_add]
    have hin : inb (nI fs.length) 20 := inbN (by omega) (by decide)
    refine ⟨hin, hin, hin, hin, ⟨_, _, rfl, rfl, H c _ g2 ?_ a2 ?_ up2_eq (fun F hF hF2 => hM2.frame rfl hl hk hp rfl rfl rfl rfl rfl hF hF2 ?_ (by omega))⟩⟩
    · exact (((((((Fq.rf.up0 (by omega)).tr (a1.fq)).upS (by omega)).upS (by omega)).upS (by omega)).upS (by omega)).up0 (by omega))
    · rw [up2_k (by decide), up2_r (by omega), up2_r (by omega), up2_r (by omega), up2_r (by omega)]
      exact a3.ok8.1
    · have : isP kd ≤ 1 := by unfold isP; split <;> omega
      omega
  · refine M_blame (k := 5) (pl := tkS tp e) hs hM.1 (by decide) (fun _ _ => ⟨hM.1.2.2.2.1, by omega⟩) (fun f2 a1 a2 => ?_)
    exact VX12_opens_18 hs ⟨fun z => absurd z (MS.er8 a2).2, fun _ => ⟨_, _, rfl, rfl, HE c f2 a2 a1.fm.fq⟩⟩
theorem O_not (hs : StM sh fR B) (ht : tsF (k, ph, bg, pr, os) = true) (hn : isW tp e 25 = true) (hl : (flatF ((k, ph, bg, pr, os) :: t)).length < 110) (H : bd (opn tp (7 - o) e) (fun e1 => (.ok e1 : Rr Nat)) = .ok (tkE tp e) → Lq l G d sh fR B tp b c0 w K f0 g0 (tkE tp e) cs ((k, ph, bg, pr, os ++ [43]) :: t) (o + 1) false) (HE : o = 7 → Le B tp b c0 K f0 g0 (5, tkS tp e)) : Lq l G d sh fR B tp b c0 w K f0 g0 e cs ((k, ph, bg, pr, os) :: t) o false := by
  intro f g hM h40 hq hg
  have hK := (isW_K hn).1
  refine VX12_reads_43 hs ⟨fun c => absurd c (by decide), fun _ => ⟨fun c => absurd h40 c, fun _ => ?_⟩⟩
  refine VX12_operand hs ?_
  refine M_lex hs hM.1 (fun f1 a1 a2 => ?_)
  have e4 : bd (.ok e : Rr Nat) (lexD tp) = .ok e := by rw [bd_ok]; unfold lexD; rw [if_neg (by omega)]
  rw [e4] at a2
  have hM1 := hM.tok a1 a2
  have hq1 := hq.tr (a1.fq (b := b) (c0 := c0))
  obtain ⟨h1, h2, h3, ⟨⟨r1, r2, r3, r4, r5, r6, r7, r8⟩, h4'⟩, h5, h6, h7, h8⟩ := hM1
  have hM1 := hM.tok a1 a2
  have hl5 := h5.2
  rw [List.length_cons] at hl5
  have hsl := tkS_le hM.1.2.2.1
  have h16 := hM.1.len
  have hE := tkE_gte (tp := tp) (e := e) (by omega)
  have hEl := tkE_le hM.1.2.2.1
  refine ⟨fun _ w4 hw => ?_, fun z => absurd h1.ok8.2 z⟩
  rw [h5.1, List.length_cons, pk_sub (by omega), Nat.add_sub_cancel] at hw
  rw [hw, clN (by omega), r1]
  unfold tsF at ht
  simp only [Bool.and_eq_true] at ht
  refine ⟨inbN (by omega) (by decide), M_isTs hs r6 (bI_cs (fun c => by rw [show (k == 1 || k == 5 || k == 6) = true from ht.1] at c; cases c) (fun c => ⟨inbN (by omega) (by decide), ?_⟩))⟩
  rw [r3]
  refine bI_cs (fun cb => by rw [show bg = true from ht.2] at cb; cases cb) (fun cb => ?_)
  refine M_isW (k := 25) hs a2.2.2.2 (by omega) (by decide) (by decide +kernel) (bI_cs (fun z => by rw [hn] at z; cases z) (fun z => ?_))
  rw [h7.1, nI_eq (by omega) (by decide)]
  refine ⟨fun c7 => ?_, fun c7 => ?_⟩
  · refine VX12_operand_79 hs ⟨fun _ => ?_, fun z => absurd h1.ok8.2 z⟩
    rw [h6.1, h7.1, nI_add, nI_add, clN (by omega)]
    refine ⟨inbN (by omega) (by decide), ?_⟩
    have hM2 := (hM1.opn (v := nI (o + 1)) (o' := o + 1) rfl (by omega)).push (x := 43) (v1 := nI 43) (v2 := nI ((flatF ((k, ph, bg, pr, os) :: t)).length + 1)) rfl (by decide) hl (by omega) rfl rfl
    refine M_adv hs hM2.1 (by omega) (by omega) (fun f2 g2 b1 b2 b3 => ⟨_, _, _, rfl, rfl, O_to (bb := false) hs (H (by unfold opn; rw [if_neg (by omega)]; rfl)) ((hM2.tok b1 b3).bu' (by omega) (by omega)) (((hq1.up0 (by omega)).upS (by omega)).up0 (by omega) |>.tr b1.fq) (hg.tr b2)⟩)
  · refine M_blame (k := 5) (pl := tkS tp e) hs a2 (by decide) (fun _ _ => ⟨a2.2.2.2.1, by omega⟩) (fun f2 b1 b2 => ?_)
    exact VX12_operand_79 hs ⟨fun z => absurd z (MS.er8 b2).2, fun _ => ⟨_, _, _, rfl, rfl, O_er (bb := true) hs (HE c7) b2 (hq1.tr b1.fm.fq) hg⟩⟩
theorem O_brc (hs : StM sh fR B) (ht : tsF (k, ph, bg, pr, os) = true) (hn : isSg tp e 91 = true) (hl : t.length ≤ 7) (H : o ≠ 7 → Lq l G d sh fR B tp b c0 w K f0 g0 (tkE tp e) cs ((5, 0, true, 0, []) :: (k, ph, false, pr, os) :: t) (o + 1) false) (HE : o = 7 → Le B tp b c0 K f0 g0 (5, tkS tp e)) : Lq l G d sh fR B tp b c0 w K f0 g0 e cs ((k, ph, bg, pr, os) :: t) o false := by
  have hK := (isSg_K hn).1
  refine O_1 hs (by omega) (fun _ => isW_of (by omega)) (fun f g hM hq hg => ?_)
  have r67 : k ≤ 6 ∧ ph ≤ 2 := ⟨hM.2.2.2.1.1.2.2.2.2.2.1, hM.2.2.2.1.1.2.2.2.2.2.2.1⟩
  refine VX12_operand_110 hs ?_
  rw [clN (by omega), ht]
  have hM1 : MF (up2 f (B + 18) t.length (nI 0)) g B tp b c0 w e cs ((k, ph, false, pr, os) :: t) o e := hM.row (Or.inr (Or.inr ⟨rfl, rfl, rfl, rfl⟩)) r67 rfl
  have hq1 : Fq B b c0 f0 (up2 f (B + 18) t.length (nI 0)) := hq.upS (by omega)
  refine ⟨inbN (by omega) (by decide), fun z => absurd z (by decide), fun _ => ?_⟩
  refine M_isSg hs hM1.1.1.2.2.2 hM1.1.2.2.2 (by omega) (by decide) (bI_cs (fun z => by rw [hn] at z; cases z) (fun z => ?_))
  refine M_opens (kd := 5) (pr' := 0) hs hM1 (by omega) (by omega) (by rw [List.length_cons]; omega) (by decide) (by decide) (fun c f2 a1 a2 => ⟨_, _, _, rfl, rfl, O_er (bb := false) hs (HE c) a1 (hq1.tr a2) hg⟩) (fun c f2 g2 a1 a2 a3 a4 a5 => ⟨_, _, _, rfl, rfl, O_to (bb := false) hs (H c) (a5 f2 (fun _ _ _ => rfl) (fun z => by cases z)) (hq1.tr a1) (hg.tr a2)⟩)
theorem O_all (hs : StM sh fR B) (ht : tsF (k, ph, bg, pr, os) = true) (hn : isW tp e 26 = true) (H : Lq l G d sh fR B tp b c0 w K f0 g0 (tkE tp e) (cs ++ [(30, 0)]) ((k, 2, false, pr, os) :: t) o true) : Lq l G d sh fR B tp b c0 w K f0 g0 e cs ((k, ph, bg, pr, os) :: t) o false := by
  have hK := (isW_K hn).1
  have hn25 : isW tp e 25 = false := by
    unfold isW; rw [(isW_K hn).2, hK]; decide +kernel
  refine O_1 hs (by omega) (fun _ => hn25) (fun f g hM hq hg => ?_)
  have hl5 := hM.2.2.2.2.1.2
  rw [List.length_cons] at hl5
  have r67 : k ≤ 6 ∧ ph ≤ 2 := ⟨hM.2.2.2.1.1.2.2.2.2.2.1, hM.2.2.2.1.1.2.2.2.2.2.2.1⟩
  refine VX12_operand_110 hs ?_
  rw [clN (by omega), ht]
  have hM1 : MF (up2 f (B + 18) t.length (nI 0)) g B tp b c0 w e cs ((k, ph, false, pr, os) :: t) o e := hM.row (Or.inr (Or.inr ⟨rfl, rfl, rfl, rfl⟩)) r67 rfl
  have hq1 : Fq B b c0 f0 (up2 f (B + 18) t.length (nI 0)) := hq.upS (by omega)
  refine ⟨inbN (by omega) (by decide), fun z => absurd z (by decide), fun _ => ?_⟩
  refine M_isSg hs hM1.1.1.2.2.2 hM1.1.2.2.2 (by omega) (by decide) (bI_cs (fun _ => ?_) (fun z => by rw [isSg_of (by omega)] at z; cases z))
  refine VX12_operand_137 hs ⟨fun z => absurd z (by decide), fun _ => ?_⟩
  refine M_isW (k := 26) hs hM1.1.2.2.2 (by omega) (by decide) (by decide +kernel) (bI_cs (fun z => by rw [hn] at z; cases z) (fun z => ?_))
  have hE := tkE_gte (tp := tp) (e := e) (by omega)
  have hEl := tkE_le hM.1.2.2.1
  have h16 := hM.1.len
  have h8 := hM1.2.2.2.2.2.2.2
  have h2 := hM1.2.1
  have h3 := hM1.2.2.1
  have hlc : (nI 1600 * nI b + nI (c0 + cs.length)).toNatClampNeg = 1600 * b + (c0 + cs.length) := by rw [pk_mul, nI_add, clN (by omega)]
  have hin : inb (nI 1600 * nI b + nI (c0 + cs.length)) 3200 := by rw [pk_mul, nI_add]; exact inbN (by omega) (by decide)
  rw [h2.1, h3.1, hlc, nI_add, clN (by omega)]
  have hC := hM1.code (x := ((30, 0) : Op)) (v1 := nI 30) (v2 := nI 0) (v3 := nI (c0 + cs.length + 1)) (bu' := e + 1) (n := 1600 * b + (c0 + cs.length)) rfl (by rw [List.length_append, List.length_singleton]; omega) (by omega) rfl rfl rfl
  have hC2 := hC.row (k' := k) (ph' := 2) (bg' := false) (v := nI 2) (j := 17) (Or.inr (Or.inl ⟨rfl, rfl, rfl, rfl⟩)) ⟨r67.1, by decide⟩ rfl
  refine ⟨hin, hin, inbN (by omega) (by decide), M_adv hs hC2.1 (by omega) (by omega) (fun f2 g2 b1 b2 b3 => ⟨_, _, _, rfl, rfl, O_to (bb := true) hs H ((hC2.tok b1 b3).bu' (by omega) (by omega)) (((((hq1.upC (by omega) (by omega)).upC (by omega) (by omega)).up0 (by omega)).upS (by omega)).tr b1.fq) (hg.tr b2)⟩)⟩
end OPD
