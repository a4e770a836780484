/-! the reference inside a formula: behind an operand -/
def tsK (k : Nat) : Bool := k == 1 || k == 5 || k == 6
section GOS
variable {l : Launch} {G : Gx} {d : Nat} {sh : Sh} {fR : FRt} {B : Nat} {tp : List Nat} {b c0 w : Nat} {K : FI → FL → Prop} {f0 : FI} {g0 : FL} {e : Nat} {cs : List Op} {o k ph pr : Nat} {bg : Bool} {os po : List Nat} {t fs : List Frr}
theorem N_to {f : FI} {g : FL} {bb : Bool} (hs : StM sh fR B) (h : Lq l G d sh fR B tp b c0 w K f0 g0 e cs fs o bb) (hM : MF f g B tp b c0 w e cs fs o e) (h40 : f B 40 = bI bb) (hq : Fq B b c0 f0 f) (hg : Fg B g0 g) : LpX12_reads_70 l G d (qv sh fR K) sh fR B f g (nI 1) :=
  VX12_reads_70 hs ⟨fun c => absurd c (by decide), fun _ => ⟨fun z => absurd hM.ok8.1 z, fun _ => h _ _ hM h40 hq hg⟩⟩
theorem N_er {f : FI} {g : FL} {a : Int32} {x : Nat × Nat} (hs : StM sh fR B) (h : Le B tp b c0 K f0 g0 x) (hM : MS f g B tp (.error x)) (hq : Fq B b c0 f0 f) (hg : Fg B g0 g) : LpX12_reads_70 l G d (qv sh fR K) sh fR B f g a := by
  have fin : LpX12_reads_85 l G d (qv sh fR K) sh fR B f g := VX12_reads_85 hs (VX12_reads_43 hs ⟨fun _ => ⟨_, _, rfl, rfl, h _ _ hM hq hg⟩, fun c => absurd rfl c⟩)
  exact VX12_reads_70 hs ⟨fun _ => fin, fun _ => ⟨fun _ => fin, fun z => absurd z hM.er8.1⟩⟩
theorem N_fin {f : FI} {g : FL} (hs : StM sh fR B) (h : K f g) : LpX12_reads_70 l G d (qv sh fR K) sh fR B f g (nI 0) :=
  VX12_reads_70 hs ⟨fun _ => VX12_reads_85 hs (VX12_reads_43 hs ⟨fun _ => ⟨_, _, rfl, rfl, h⟩, fun c => absurd rfl c⟩), fun z => absurd rfl z⟩
theorem G_brk (hs : StM sh fR B) (h4 : tkK tp e = 4) (H : Le B tp b c0 K f0 g0 (bad tp e)) : Lq l G d sh fR B tp b c0 w K f0 g0 e cs fs o true := by
  intro f g hM h40 hq hg
  refine VX12_reads_43 hs ⟨fun c => absurd c (by decide), fun _ => ⟨fun _ => ?_, fun c => absurd c (by rw [h40]; decide)⟩⟩
  refine VX12_goesOn (d := d + 1) hs ?_
  refine M_lex hs hM.1 (fun f1 a1 a2 => ?_)
  have e4 : bd (.ok e : Rr Nat) (lexD tp) = .error (bad tp e) := by rw [bd_ok]; unfold lexD; rw [if_pos h4]
  rw [e4] at a2
  exact ⟨fun z => absurd z a2.er8.2, fun _ => ⟨_, _, _, rfl, rfl, N_er hs H a2 (hq.tr a1.fq) hg⟩⟩
/-- to the signs of sums -/
theorem G_0 (hs : StM sh fR B) (h4 : tkK tp e ≠ 4) (H1 : ph < 2 → (∃ x, opA tp e = some x ∨ opM tp e = some x) → ∀ f g, MF f g B tp b c0 w e cs ((k, ph, bg, pr, os) :: t) o e → Fq B b c0 f0 f → Fg B g0 g → LpX12_goesOn_87 l G (d + 1) (qi sh fR fun x f g => LpX12_reads_70 l G d (qv sh fR K) sh fR B f g x) sh fR B f g) (H2 : (ph < 2 → opA tp e = none ∧ opM tp e = none) → ∀ f g, MF f g B tp b c0 w e cs ((k, ph, bg, pr, os) :: t) o e → f B 40 = bI true → Fq B b c0 f0 f → Fg B g0 g → LpX12_goesOn_188 l G (d + 1) (qi sh fR fun x f g => LpX12_reads_70 l G d (qv sh fR K) sh fR B f g x) sh fR B f g (nI t.length) (nI k) (bI (tsK k))) : Lq l G d sh fR B tp b c0 w K f0 g0 e cs ((k, ph, bg, pr, os) :: t) o true := by
  intro f g hM h40 hq hg
  refine VX12_reads_43 hs ⟨fun c => absurd c (by decide), fun _ => ⟨fun _ => ?_, fun c => absurd c (by rw [h40]; decide)⟩⟩
  refine VX12_goesOn (d := d + 1) hs ?_
  refine M_lex hs hM.1 (fun f1 a1 a2 => ?_)
  have e4 : bd (.ok e : Rr Nat) (lexD tp) = .ok e := by rw [bd_ok]; unfold lexD; rw [if_neg h4]
  rw [e4] at a2
  have hM1 := hM.tok a1 a2
  have hq1 := hq.tr (a1.fq (b := b) (c0 := c0))
  have h41 : f1 B 40 = bI true := by rw [a1 _ _ (by omega)]; exact h40
  obtain ⟨h1, h2, h3, ⟨⟨r1, r2, r3, r4, r5, r6, r7, r8⟩, h4'⟩, h5, h6, h7, h8⟩ := hM1
  have hM1 := hM.tok a1 a2
  have hl5 := h5.2
  rw [List.length_cons] at hl5
  have hT := a2.2.2.2
  have hb := a2.1.2.2.2
  refine ⟨fun _ w4 hw => ?_, fun z => absurd h1.ok8.2 z⟩
  rw [h5.1, List.length_cons, pk_sub (by omega), Nat.add_sub_cancel] at hw
  rw [hw, clN (by omega), r1]
  refine ⟨inbN (by omega) (by decide), fun w7 hw7 => ?_⟩
  rw [hw7]
  refine M_isTs hs r6 ⟨inbN (by omega) (by decide), ?_⟩
  rw [r2, nI_leI (by decide) (by dsimp only at r7 ⊢; omega)]
  refine ⟨fun c => H2 (fun z => by dsimp only at c; omega) f1 g hM1 h41 hq1 hg, fun c => ?_⟩
  have hp : ph < 2 := by dsimp only at c; omega
  refine M_isSg hs hb hT h4 (by decide) (bI_cs' (fun z1 => ?_) (fun z1 => H1 hp ⟨31, Or.inl (by unfold opA; rw [z1]; rfl)⟩ f1 g hM1 hq1 hg))
  refine M_isSg hs hb hT h4 (by decide) (bI_cs' (fun z2 => ?_) (fun z2 => H1 hp ⟨32, Or.inl (by unfold opA; rw [z1, z2]; rfl)⟩ f1 g hM1 hq1 hg))
  refine M_isSg hs hb hT h4 (by decide) (bI_cs' (fun z3 => ?_) (fun z3 => H1 hp ⟨33, Or.inr (by unfold opM; rw [z3]; rfl)⟩ f1 g hM1 hq1 hg))
  refine M_isSg hs hb hT h4 (by decide) (bI_cs' (fun z4 => ?_) (fun z4 => H1 hp ⟨34, Or.inr (by unfold opM; rw [z3, z4]; rfl)⟩ f1 g hM1 hq1 hg))
  refine M_isSg hs hb hT h4 (by decide) (bI_cs (fun z5 => ?_) (fun z5 => H1 hp ⟨35, Or.inr (by unfold opM; rw [z3, z4, z5]; rfl)⟩ f1 g hM1 hq1 hg))
  exact H2 (fun _ => ⟨by unfold opA; rw [z1, z2]; rfl, by unfold opM; rw [z3, z4, z5]; rfl⟩) f1 g hM1 h41 hq1 hg
/-- an operator is held back, the next operand is read -/
theorem S_push {f : FI} {g : FL} {x : Nat} (hs : StM sh fR B) (h4 : tkK tp e ≠ 4) (h0 : tkK tp e ≠ 0) (hx : 31 ≤ x ∧ x ≤ 43) (hl : (flatF ((k, ph, bg, pr, os) :: t)).length < 110) (hM : MF f g B tp b c0 w e cs ((k, ph, bg, pr, os) :: t) o e) (hq : Fq B b c0 f0 f) (hg : Fg B g0 g) (H : Lq l G d sh fR B tp b c0 w K f0 g0 (tkE tp e) cs ((k, ph, bg, pr, os ++ [x]) :: t) o false) : inb (f B 39) 500 ∧ Cl l G (d + 2) 0 0 mX12_ahead [.ref B] (sh, (up2 (up2 f (B + 21) (f B 39).toNatClampNeg (nI x)) B 39 ((f B 39) + (nI 1))), g, fR) (qv sh fR fun f g => (qi sh fR fun x f g => LpX12_reads_70 l G d (qv sh fR K) sh fR B f g x) (some (.int (nI 1))) (sh, (up2 f B 40 (nI 0)), g, fR)) := by
  have h6 := hM.2.2.2.2.2.1
  have hE := tkE_gte h0
  have hEl := tkE_le hM.1.2.2.1
  have h16 := hM.1.len
  rw [h6.1, nI_add, clN (by omega)]
  have hM2 := hM.push (x := x) (v1 := nI x) (v2 := nI ((flatF ((k, ph, bg, pr, os) :: t)).length + 1)) rfl hx hl (by omega) rfl rfl
  exact ⟨inbN (by omega) (by decide), M_adv hs hM2.1 h4 h0 (fun f2 g2 b1 b2 b3 => ⟨_, _, _, rfl, rfl, N_to (bb := false) hs H ((hM2.tok b1 b3).bu' (by omega) (by omega)).f40 up2_eq ((((hq.upS (by omega)).up0 (by omega)).tr b1.fq).up0 (by omega)) (hg.tr b2)⟩)⟩
theorem cnt0 {lv : Nat} (h5 : 4 ≤ lv) (hpo : ∀ x ∈ po, lv ≤ rkO x) : po.count 43 = 0 := by
  rw [List.count_eq_zero]
  intro z
  have := hpo 43 z
  have e : rkO 43 = 3 := by decide
  omega
/-- a sign of a sum or a product -/
theorem G_ari {x lv : Nat} (hs : StM sh fR B) (hp : ph < 2) (hx : (opA tp e = some x ∧ lv = 5) ∨ (opM tp e = some x ∧ lv = 6)) (hos : ∀ x ∈ os, rkO x < lv) (hpo : ∀ x ∈ po, lv ≤ rkO x) (hl : (flatF ((k, ph, bg, pr, os) :: t)).length < 110) (H : Lq l G d sh fR B tp b c0 w K f0 g0 (tkE tp e) (cs ++ opL po) ((k, ph, bg, pr, os ++ [x]) :: t) o false) : Lq l G d sh fR B tp b c0 w K f0 g0 e cs ((k, ph, bg, pr, os ++ po) :: t) o true := by
  have hK : tkK tp e = 3 := by
    rcases hx with z | z
    · exact (opA_K z.1).1
    · exact (opM_K z.1).1
  refine G_0 hs (by omega) (fun _ _ f g hM hq hg => ?_) (fun z => by
    rcases hx with y | y
    · rw [(z hp).1] at y; cases y.1
    · rw [(z hp).2] at y; cases y.1)
  have hc0 := cnt0 (po := po) (lv := lv) (by omega) hpo
  have jn : ∀ (KK : FI → FL → Prop), (∀ f', MF f' g B tp b c0 w e (cs ++ opL po) ((k, ph, bg, pr, os) :: t) o e → Fq B b c0 f0 f' → KK f' g) → Cl l G (d + 2) 0 0 mX12_joins [.ref B, .int (nI lv)] (sh, f, g, fR) (qv sh fR KK) := fun KK HH => M_joins (d := d + 1) hs (by omega) hos hM hpo (by omega) (fun f2 a1 a2 _ => HH f2 (by rw [hc0] at a1; exact a1) (hq.tr a2))
  have hT := hM.1.2.2.2
  have hb := hM.1.1.2.2.2
  have sg : ∀ {c : Nat} (v : Bool) {KK : Int32 → FI → FL → Prop} {f' : FI} {cs' : List Op} {fs' : List Frr} {o' : Nat}, MF f' g B tp b c0 w e cs' fs' o' e → c < 256 → isSg tp e c = v → KK (bI v) f' g → Cl l G (d + 2) 0 0 mX12_isSign [.ref B, .int (nI c)] (sh, f', g, fR) (qi sh fR KK) := by
    intro c v KK f' cs' fs' o' hM' hc hv HH
    exact M_isSg hs hM'.1.1.2.2.2 hM'.1.2.2.2 (by omega) hc (by rw [hv]; exact HH)
  refine VX12_goesOn_87 (d := d + 1) hs ?_
  rcases hx with ⟨hx, rfl⟩ | ⟨hx, rfl⟩
  · have hx' := hx
    unfold opA at hx'
    by_cases c1 : isSg tp e 43 = true
    · rw [if_pos c1] at hx'
      cases hx'
      refine sg true hM (by decide) c1 ⟨fun _ => jn _ (fun f2 a1 a2 => sg true a1 (by decide) c1 ⟨fun z => absurd z (by decide), fun _ => S_push hs (by omega) (by omega) (by decide) hl a1 a2 hg H⟩), fun z => absurd z (by decide)⟩
    · have c1' : isSg tp e 43 = false := by simpa using c1
      rw [if_neg c1] at hx'
      by_cases c2 : isSg tp e 45 = true
      · rw [if_pos c2] at hx'
        cases hx'
        refine sg false hM (by decide) c1' ⟨fun z => absurd rfl z, fun _ => sg true hM (by decide) c2 ⟨fun z => absurd z (by decide), fun _ => jn _ (fun f2 a1 a2 => sg false a1 (by decide) c1' ⟨fun _ => sg true a1 (by decide) c2 ⟨fun z => absurd z (by decide), fun _ => S_push hs (by omega) (by omega) (by decide) hl a1 a2 hg H⟩, fun z => absurd rfl z⟩)⟩⟩
      · rw [if_neg c2] at hx'; cases hx'
  · have hx' := hx
    unfold opM at hx'
    have n43 : isSg tp e 43 = false ∧ isSg tp e 45 = false := by
      by_cases c1 : isSg tp e 42 = true
      · exact ⟨isSg_x c1 (by decide), isSg_x c1 (by decide)⟩
      · rw [if_neg c1] at hx'
        by_cases c2 : isSg tp e 47 = true
        · exact ⟨isSg_x c2 (by decide), isSg_x c2 (by decide)⟩
        · rw [if_neg c2] at hx'
          by_cases c3 : isSg tp e 37 = true
          · exact ⟨isSg_x c3 (by decide), isSg_x c3 (by decide)⟩
          · rw [if_neg c3] at hx'; cases hx'
    refine sg false hM (by decide) n43.1 ⟨fun z => absurd rfl z, fun _ => sg false hM (by decide) n43.2 ⟨fun _ => jn _ (fun f2 a1 a2 => sg false a1 (by decide) n43.1 ⟨fun _ => sg false a1 (by decide) n43.2 ⟨fun _ => ?_, fun z => absurd rfl z⟩, fun z => absurd rfl z⟩), fun z => absurd rfl z⟩⟩
    by_cases c1 : isSg tp e 42 = true
    · rw [if_pos c1] at hx'
      cases hx'
      exact sg true a1 (by decide) c1 ⟨fun z => absurd z (by decide), fun _ => S_push hs (by omega) (by omega) (by decide) hl a1 a2 hg H⟩
    · have c1' : isSg tp e 42 = false := by simpa using c1
      rw [if_neg c1] at hx'
      refine sg false a1 (by decide) c1' ⟨fun _ => ?_, fun z => absurd rfl z⟩
      by_cases c2 : isSg tp e 47 = true
      · rw [if_pos c2] at hx'
        cases hx'
        exact sg true a1 (by decide) c2 ⟨fun z => absurd z (by decide), fun _ => S_push hs (by omega) (by omega) (by decide) hl a1 a2 hg H⟩
      · have c2' : isSg tp e 47 = false := by simpa using c2
        rw [if_neg c2] at hx'
        by_cases c3 : isSg tp e 37 = true
        · rw [if_pos c3] at hx'
          cases hx'
          exact sg false a1 (by decide) c2' ⟨fun _ => S_push hs (by omega) (by omega) (by decide) hl a1 a2 hg H, fun z => absurd rfl z⟩
        · rw [if_neg c3] at hx'; cases hx'
/-- a comparison, or what must be one -/
theorem G_cmp (hs : StM sh fR B) (hk : tsK k = true) (hn : opA tp e = none ∧ opM tp e = none) (hos : ∀ x ∈ os, rkO x < 5) (hpo : ∀ x ∈ po, 5 ≤ rkO x) (hl : (flatF ((k, 0, bg, pr, os) :: t)).length < 110) (H : match cmpD tp e with
  | .ok y => Lq l G d sh fR B tp b c0 w K f0 g0 y.1 (cs ++ opL po) ((k, 1, bg, pr, os ++ [y.2]) :: t) o false
  | .error x => Le B tp b c0 K f0 g0 x) : Lq l G d sh fR B tp b c0 w K f0 g0 e cs ((k, 0, bg, pr, os ++ po) :: t) o true := by
  by_cases h4 : tkK tp e = 4
  · have e5 : cmpD tp e = .error (bad tp e) := by unfold cmpD; rw [isSg_of (by omega), isSg_of (by omega), isSg_of (by omega)]; rfl
    rw [e5] at H
    exact G_brk hs h4 H
  refine G_0 hs h4 (fun _ z => by obtain ⟨x, z | z⟩ := z <;> first | (rw [hn.1] at z; cases z) | (rw [hn.2] at z; cases z)) (fun _ f g hM h40 hq hg => ?_)
  have hc0 := cnt0 (po := po) (lv := 5) (by omega) hpo
  have hT := hM.1.2.2.2
  have hb := hM.1.1.2.2.2
  have r2 := hM.2.2.2.1.1.2.1
  have hk6 := hM.2.2.2.1.1.2.2.2.2.2.1
  have hl5 := hM.2.2.2.2.1.2
  rw [List.length_cons] at hl5
  have hsl := tkS_le hM.1.2.2.1
  have h16 := hM.1.len
  have hEl := tkE_le hM.1.2.2.1
  have L228 : ∀ x, cmpD tp e = .ok (tkE tp e, x) → LpX12_goesOn_228 l G (d + 1) (qi sh fR fun x f g => LpX12_reads_70 l G d (qv sh fR K) sh fR B f g x) sh fR B f g (nI t.length) := by
    intro x hx
    rw [hx] at H
    dsimp only at H
    have hK := (cmpD_K hx).1
    have hE := tkE_gte (tp := tp) (e := e) (by omega)
    refine VX12_goesOn_228 (d := d + 1) hs ?_
    refine M_joins (d := d + 1) hs (by omega) hos hM hpo (by omega) (fun f2 a1 a2 _ => ?_)
    rw [hc0] at a1
    have a1' : MF f2 g B tp b c0 w e (cs ++ opL po) ((k, 0, bg, pr, os) :: t) o e := a1
    have hq2 := hq.tr a2
    have psh : 31 ≤ x ∧ x ≤ 43 → inb (f2 B 39) 500 ∧ inb (nI t.length) 20 ∧ Cl l G (d + 2) 0 0 mX12_ahead [.ref B] (sh, (up2 (up2 (up2 f2 (B + 21) (f2 B 39).toNatClampNeg (nI x)) B 39 ((f2 B 39) + (nI 1))) (B + 17) (nI t.length).toNatClampNeg (nI 1)), g, fR) (qv sh fR fun f g => (qi sh fR fun x f g => LpX12_reads_70 l G d (qv sh fR K) sh fR B f g x) (some (.int (nI 1))) (sh, (up2 f B 40 (nI 0)), g, fR)) := by
      intro hx2
      have h6 := a1'.2.2.2.2.2.1
      rw [h6.1, nI_add, clN (by omega), clN (by omega)]
      have hM2 := a1'.push (x := x) (v1 := nI x) (v2 := nI ((flatF ((k, 0, bg, pr, os) :: t)).length + 1)) rfl hx2 hl (by omega) rfl rfl
      have hM3 := hM2.row (k' := k) (ph' := 1) (bg' := bg) (v := nI 1) (j := 17) (Or.inr (Or.inl ⟨rfl, rfl, rfl, rfl⟩)) ⟨hk6, by decide⟩ rfl
      exact ⟨inbN (by omega) (by decide), inbN (by omega) (by decide), M_adv hs hM3.1 h4 (by omega) (fun f3 g3 b1 b2 b3 => ⟨_, _, _, rfl, rfl, N_to (bb := false) hs H ((hM3.tok b1 b3).bu' (by omega) (by omega)).f40 up2_eq (((((hq2.upS (by omega)).up0 (by omega)).upS (by omega)).tr b1.fq).up0 (by omega)) (hg.tr b2)⟩)⟩
    have hx' := hx
    unfold cmpD at hx'
    refine M_isSg hs a1'.1.1.2.2.2 a1'.1.2.2.2 h4 (by decide) (bI_cs (fun z1 => ?_) (fun z1 => ?_))
    · rw [z1, if_neg Bool.false_ne_true] at hx'
      refine M_isSg hs a1'.1.1.2.2.2 a1'.1.2.2.2 h4 (by decide) (bI_cs (fun z2 => ?_) (fun z2 => ?_))
      · rw [z2, if_neg Bool.false_ne_true] at hx'
        split at hx'
        · cases hx'
          exact psh (by decide)
        · cases hx'
      · rw [if_pos z2] at hx'
        cases hx'
        exact psh (by decide)
    · rw [if_pos z1] at hx'
      cases hx'
      exact psh (by decide)
  have bd4 : bad tp e = (1, tkS tp e) := by unfold bad; rw [if_neg h4]
  refine VX12_goesOn_188 (d := d + 1) hs ⟨fun z => absurd z (by rw [hk]; decide), fun _ => ⟨inbN (by omega) (by decide), ?_⟩⟩
  rw [clN (by omega), r2]
  refine ⟨fun z => absurd rfl z, fun _ => ?_⟩
  refine M_isSg hs hb hT h4 (by decide) (bI_cs' (fun z1 => ?_) (fun z1 => L228 38 (by unfold cmpD; rw [if_pos z1])))
  refine M_isSg hs hb hT h4 (by decide) (bI_cs' (fun z2 => ?_) (fun z2 => L228 39 (by unfold cmpD; rw [z1, if_pos z2]; rfl)))
  refine M_isSg hs hb hT h4 (by decide) (bI_cs (fun z3 => ?_) (fun z3 => L228 40 (by unfold cmpD; rw [z1, z2, if_pos z3]; rfl)))
  have e5 : cmpD tp e = .error (1, tkS tp e) := by unfold cmpD; rw [z1, z2, z3, ← bd4]; rfl
  rw [e5] at H
  dsimp only at H
  -- what can stand here is a fault
  have flt : ∀ (KK : FI → FL → Prop), (∀ f2, MS f2 g B tp (.error (1, tkS tp e)) → Fq B b c0 f0 f2 → KK f2 g) → Cl l G (d + 2) 0 0 mX12_blame [.ref B, .int (nI 1), .int (f B 4)] (sh, f, g, fR) (qv sh fR KK) := fun KK HH => M_blame (k := 1) (pl := tkS tp e) hs hM.1 (by decide) (fun _ _ => ⟨hT.1, by omega⟩) (fun f2 a1 a2 => HH f2 a2 (hq.tr a1.fm.fq))
  have L309 : LpX12_goesOn_309 l G (d + 1) (qi sh fR fun x f g => LpX12_reads_70 l G d (qv sh fR K) sh fR B f g x) sh fR B f g (nI t.length) := by
    refine VX12_goesOn_309 (d := d + 1) hs ⟨inbN (by omega) (by decide), ?_⟩
    rw [clN (by omega), r2]
    exact ⟨fun z => absurd rfl z, fun _ => flt _ (fun f2 a1 a2 => VX12_goesOn_327 (d := d + 1) hs ⟨fun z => absurd z (MS.er8 a1).2, fun _ => ⟨_, _, _, rfl, rfl, N_er hs H a1 a2 hg⟩⟩)⟩
  have L422 : ∀ f2, MS f2 g B tp (.error (1, tkS tp e)) → Fq B b c0 f0 f2 → LpX12_goesOn_422 l G (d + 1) (qi sh fR fun x f g => LpX12_reads_70 l G d (qv sh fR K) sh fR B f g x) sh fR B f2 g (nI t.length) (nI k) := by
    intro f2 a1 a2
    have fl : ∀ (c : Int32) (KK : FI → FL → Prop), (∀ f3, MS f3 g B tp (.error (1, tkS tp e)) → Fq B b c0 f0 f3 → KK f3 g) → Cl l G (d + 2) 0 0 mX12_isSign [.ref B, .int c] (sh, f2, g, fR) (qi sh fR fun x f g => ((¬ x = 0 → KK f g) ∧ (x = 0 → Cl l G (d + 2) 0 0 mX12_blame [.ref B, .int (nI 1), .int (f B 4)] (sh, f, g, fR) (qv sh fR KK)))) := fun c KK HH => M_isSgA hs (fun bb => bI_cs' (fun _ => M_blame (k := 1) (pl := 0) hs a1 (by decide) (fun e z => by cases z) (fun f3 b1 b2 => HH f3 b2 (a2.tr b1.fm.fq))) (fun _ => HH f2 a1 a2))
    have L546 : ∀ f3, MS f3 g B tp (.error (1, tkS tp e)) → Fq B b c0 f0 f3 → LpX12_goesOn_546 l G (d + 1) (qi sh fR fun x f g => LpX12_reads_70 l G d (qv sh fR K) sh fR B f g x) sh fR B f3 g (nI t.length) (nI k) := fun f3 b1 b2 => VX12_goesOn_546 (d := d + 1) hs ⟨fun z => absurd z (MS.er8 b1).2, fun _ => ⟨_, _, _, rfl, rfl, N_er hs H b1 b2 hg⟩⟩
    have L452 : LpX12_goesOn_452 l G (d + 1) (qi sh fR fun x f g => LpX12_reads_70 l G d (qv sh fR K) sh fR B f g x) sh fR B f2 g (nI t.length) (nI k) := VX12_goesOn_452 (d := d + 1) hs (fl _ _ (fun f3 b1 b2 => VX12_goesOn_470 (d := d + 1) hs ⟨fun z => absurd z (MS.er8 b1).2, fun _ => ⟨_, _, _, rfl, rfl, N_er hs H b1 b2 hg⟩⟩))
    exact VX12_goesOn_422 (d := d + 1) hs ⟨fun _ => ⟨fun _ => L452, fun _ => ⟨fun _ => ⟨fun _ => fl _ _ L546, fun _ => fl _ _ L546⟩, fun _ => L452⟩⟩, fun _ => ⟨fun _ => ⟨_, _, _, rfl, rfl, N_er hs H a1 a2 hg⟩, fun z => absurd z (MS.er8 a1).1⟩⟩
  have L400 : LpX12_goesOn_400 l G (d + 1) (qi sh fR fun x f g => LpX12_reads_70 l G d (qv sh fR K) sh fR B f g x) sh fR B f g (nI t.length) (nI k) (bI (tsK k)) := by
    refine VX12_goesOn_400 (d := d + 1) hs ⟨fun z => absurd z (by rw [hk]; decide), fun _ => ⟨inbN (by omega) (by decide), ?_⟩⟩
    rw [clN (by omega), r2]
    exact ⟨fun z => absurd rfl z, fun _ => flt _ (fun f2 a1 a2 => L422 f2 a1 a2)⟩
  refine VX12_goesOn_285 (d := d + 1) hs ⟨fun z => absurd z (by rw [hk]; decide), fun _ => ?_⟩
  exact M_isW (k := 24) hs hT h4 (by decide) (by decide +kernel) (bI_cs' (fun _ => M_isW (k := 23) hs hT h4 (by decide) (by decide +kernel) (bI_cs (fun _ => L400) (fun _ => L309))) (fun _ => L309))
/-- and, or -/
theorem G_ao {x lv : Nat} (hs : StM sh fR B) (hk : tsK k = true) (hph : ph ≠ 0) (hx : (opN tp e = some x ∧ lv = 2) ∨ (opO tp e = some x ∧ lv = 1)) (hos : ∀ x ∈ os, rkO x < lv) (hpo : ∀ x ∈ po, lv ≤ rkO x) (hoc : po.count 43 ≤ o) (hl : (flatF ((k, ph, bg, pr, os) :: t)).length < 110) (H : Lq l G d sh fR B tp b c0 w K f0 g0 (tkE tp e) (cs ++ opL po) ((k, 0, true, pr, os ++ [x]) :: t) (o - po.count 43) false) : Lq l G d sh fR B tp b c0 w K f0 g0 e cs ((k, ph, bg, pr, os ++ po) :: t) o true := by
  have hK : tkK tp e = 1 := by
    rcases hx with z | z
    · exact (opN_K z.1).1
    · exact (opO_K z.1).1
  have hx2 : x = 41 ∧ isW tp e 24 = true ∧ lv = 2 ∨ x = 42 ∧ isW tp e 23 = true ∧ isW tp e 24 = false ∧ lv = 1 := by
    rcases hx with ⟨z, z'⟩ | ⟨z, z'⟩
    · unfold opN at z
      split at z
      · rename_i c; cases z; exact Or.inl ⟨rfl, c, z'⟩
      · cases z
    · unfold opO at z
      split at z
      · rename_i c; cases z; exact Or.inr ⟨rfl, c, isW_x c (by decide) (by decide) (by decide), z'⟩
      · cases z
  refine G_0 hs (by omega) (fun _ z => by
    obtain ⟨y, z | z⟩ := z
    · have := (opA_K z).1; omega
    · have := (opM_K z).1; omega) (fun _ f g hM h40 hq hg => ?_)
  have hT := hM.1.2.2.2
  have r2 := hM.2.2.2.1.1.2.1
  have r67 : k ≤ 6 ∧ ph ≤ 2 := ⟨hM.2.2.2.1.1.2.2.2.2.2.1, hM.2.2.2.1.1.2.2.2.2.2.2.1⟩
  have hl5 := hM.2.2.2.2.1.2
  rw [List.length_cons] at hl5
  have h16 := hM.1.len
  have hEl := tkE_le hM.1.2.2.1
  have hE := tkE_gte (tp := tp) (e := e) (by omega)
  have np : ¬ nI ph = 0 := nI_ne0 (by omega) (by omega)
  have jn : ∀ (KK : FI → FL → Prop), (∀ f', MF f' g B tp b c0 w e (cs ++ opL po) ((k, ph, bg, pr, os) :: t) (o - po.count 43) e → Fq B b c0 f0 f' → KK f' g) → Cl l G (d + 2) 0 0 mX12_joins [.ref B, .int (nI lv)] (sh, f, g, fR) (qv sh fR KK) := fun KK HH => M_joins (d := d + 1) hs (by omega) hos hM hpo hoc (fun f2 a1 a2 _ => HH f2 a1 (hq.tr a2))
  have psh : ∀ f2, MF f2 g B tp b c0 w e (cs ++ opL po) ((k, ph, bg, pr, os) :: t) (o - po.count 43) e → Fq B b c0 f0 f2 → inb (f2 B 39) 500 ∧ inb (nI t.length) 20 ∧ inb (nI t.length) 20 ∧ Cl l G (d + 2) 0 0 mX12_ahead [.ref B] (sh, (up2 (up2 (up2 (up2 f2 (B + 21) (f2 B 39).toNatClampNeg (nI x)) B 39 ((f2 B 39) + (nI 1))) (B + 17) (nI t.length).toNatClampNeg (nI 0)) (B + 18) (nI t.length).toNatClampNeg (nI 1)), g, fR) (qv sh fR fun f g => (qi sh fR fun x f g => LpX12_reads_70 l G d (qv sh fR K) sh fR B f g x) (some (.int (nI 1))) (sh, (up2 f B 40 (nI 0)), g, fR)) := by
    intro f2 a1 hq2
    have h6 := a1.2.2.2.2.2.1
    rw [h6.1, nI_add, clN (by omega), clN (by omega)]
    have hM2 := a1.push (x := x) (v1 := nI x) (v2 := nI ((flatF ((k, ph, bg, pr, os) :: t)).length + 1)) rfl (by omega) hl (by omega) rfl rfl
    have hM3 := hM2.row (k' := k) (ph' := 0) (bg' := bg) (v := nI 0) (j := 17) (Or.inr (Or.inl ⟨rfl, rfl, rfl, rfl⟩)) ⟨r67.1, by decide⟩ rfl
    have hM4 := hM3.row (k' := k) (ph' := 0) (bg' := true) (v := nI 1) (j := 18) (Or.inr (Or.inr ⟨rfl, rfl, rfl, rfl⟩)) ⟨r67.1, by decide⟩ rfl
    exact ⟨inbN (by omega) (by decide), inbN (by omega) (by decide), inbN (by omega) (by decide), M_adv hs hM4.1 (by omega) (by omega) (fun f3 g3 b1 b2 b3 => ⟨_, _, _, rfl, rfl, N_to (bb := false) hs H ((hM4.tok b1 b3).bu' (by omega) (by omega)).f40 up2_eq ((((((hq2.upS (by omega)).up0 (by omega)).upS (by omega)).upS (by omega)).tr b1.fq).up0 (by omega)) (hg.tr b2)⟩)⟩
  have L309 : LpX12_goesOn_309 l G (d + 1) (qi sh fR fun x f g => LpX12_reads_70 l G d (qv sh fR K) sh fR B f g x) sh fR B f g (nI t.length) := by
    refine VX12_goesOn_309 (d := d + 1) hs ⟨inbN (by omega) (by decide), ?_⟩
    rw [clN (by omega), r2]
    refine ⟨fun _ => ?_, fun z => absurd z np⟩
    refine VX12_goesOn_327 (d := d + 1) hs ⟨fun _ => ?_, fun z => absurd hM.ok8.2 z⟩
    rcases hx2 with ⟨rfl, c1, rfl⟩ | ⟨rfl, c1, c2, rfl⟩
    · refine M_isW (k := 24) hs hT (by omega) (by decide) (by decide +kernel) ?_
      rw [c1]
      exact ⟨fun z => absurd z (by decide), fun _ => jn _ (fun f2 a1 a2 => ⟨fun z => absurd z (by decide), fun _ => psh f2 a1 a2⟩)⟩
    · refine M_isW (k := 24) hs hT (by omega) (by decide) (by decide +kernel) ?_
      rw [c2]
      exact ⟨fun _ => jn _ (fun f2 a1 a2 => ⟨fun _ => psh f2 a1 a2, fun z => absurd rfl z⟩), fun z => absurd rfl z⟩
  refine VX12_goesOn_188 (d := d + 1) hs ⟨fun z => absurd z (by rw [hk]; decide), fun _ => ⟨inbN (by omega) (by decide), ?_⟩⟩
  rw [clN (by omega), r2]
  refine ⟨fun _ => ?_, fun z => absurd z np⟩
  refine VX12_goesOn_285 (d := d + 1) hs ⟨fun z => absurd z (by rw [hk]; decide), fun _ => ?_⟩
  rcases hx2 with ⟨rfl, c1, rfl⟩ | ⟨rfl, c1, c2, rfl⟩
  · refine M_isW (k := 24) hs hT (by omega) (by decide) (by decide +kernel) ?_
    rw [c1]
    exact ⟨fun _ => L309, fun z => absurd z (by decide)⟩
  · refine M_isW (k := 24) hs hT (by omega) (by decide) (by decide +kernel) ?_
    rw [c2]
    refine ⟨fun z => absurd rfl z, fun _ => M_isW (k := 23) hs hT (by omega) (by decide) (by decide +kernel) ?_⟩
    rw [c1]
    exact ⟨fun z => absurd z (by decide), fun _ => L309⟩
/-- a sum or a test ends here -/
def endK (tp : List Nat) (k ph e : Nat) : Prop := (ph < 2 → opA tp e = none ∧ opM tp e = none) ∧ (tsK k = true → ph ≠ 0 ∧ opN tp e = none ∧ opO tp e = none)
theorem G_422 (hs : StM sh fR B) (h4 : tkK tp e ≠ 4) (hE : endK tp k ph e) (H : ∀ f g, MF f g B tp b c0 w e cs ((k, ph, bg, pr, os) :: t) o e → f B 40 = bI true → Fq B b c0 f0 f → Fg B g0 g → LpX12_goesOn_422 l G (d + 1) (qi sh fR fun x f g => LpX12_reads_70 l G d (qv sh fR K) sh fR B f g x) sh fR B f g (nI t.length) (nI k)) : Lq l G d sh fR B tp b c0 w K f0 g0 e cs ((k, ph, bg, pr, os) :: t) o true := by
  refine G_0 hs h4 (fun hp z => by
    obtain ⟨y, z | z⟩ := z
    · rw [(hE.1 hp).1] at z; cases z
    · rw [(hE.1 hp).2] at z; cases z) (fun _ f g hM h40 hq hg => ?_)
  have hT := hM.1.2.2.2
  have r2 := hM.2.2.2.1.1.2.1
  have r7 : ph ≤ 2 := hM.2.2.2.1.1.2.2.2.2.2.2.1
  have hl5 := hM.2.2.2.2.1.2
  rw [List.length_cons] at hl5
  have HH := H f g hM h40 hq hg
  cases hk : tsK k with
  | false => exact VX12_goesOn_188 (d := d + 1) hs ⟨fun _ => VX12_goesOn_285 (d := d + 1) hs ⟨fun _ => VX12_goesOn_400 (d := d + 1) hs ⟨fun _ => HH, fun z => absurd rfl z⟩, fun z => absurd rfl z⟩, fun z => absurd rfl z⟩
  | true =>
    obtain ⟨e1, e2, e3⟩ := hE.2 hk
    have np : ¬ nI ph = 0 := nI_ne0 (by omega) (by omega)
    have n24 : isW tp e 24 = false := by
      cases q : isW tp e 24 with
      | false => rfl
      | true => unfold opN at e2; rw [if_pos q] at e2; cases e2
    have n23 : isW tp e 23 = false := by
      cases q : isW tp e 23 with
      | false => rfl
      | true => unfold opO at e3; rw [if_pos q] at e3; cases e3
    refine VX12_goesOn_188 (d := d + 1) hs ⟨fun z => absurd z (by decide), fun _ => ⟨inbN (by omega) (by decide), ?_⟩⟩
    rw [clN (by omega), r2]
    refine ⟨fun _ => ?_, fun z => absurd z np⟩
    refine VX12_goesOn_285 (d := d + 1) hs ⟨fun z => absurd z (by decide), fun _ => ?_⟩
    refine M_isW (k := 24) hs hT h4 (by decide) (by decide +kernel) ?_
    rw [n24]
    refine ⟨fun z => absurd rfl z, fun _ => M_isW (k := 23) hs hT h4 (by decide) (by decide +kernel) ?_⟩
    rw [n23]
    refine ⟨fun _ => VX12_goesOn_400 (d := d + 1) hs ⟨fun z => absurd z (by decide), fun _ => ⟨inbN (by omega) (by decide), ?_⟩⟩, fun z => absurd rfl z⟩
    rw [clN (by omega), r2]
    exact ⟨fun _ => HH, fun z => absurd z np⟩
theorem rk1 {x : Nat} : 1 ≤ rkO x := by unfold rkO; (repeat' split) <;> omega
theorem G_end (hs : StM sh fR B) (hk : k < 2) (h4 : tkK tp e ≠ 4) (hE : endK tp k ph e) (hoc : os.count 43 ≤ o) (H : ∀ f g, MF f g B tp b c0 w e (cs ++ opL os) ((k, ph, bg, pr, []) :: t) (o - os.count 43) e → Fq B b c0 f0 f → Fg B g0 g → K f g) : Lq l G d sh fR B tp b c0 w K f0 g0 e cs ((k, ph, bg, pr, os) :: t) o true := by
  refine G_422 hs h4 hE (fun f g hM h40 hq hg => ?_)
  refine VX12_goesOn_422 (d := d + 1) hs ?_
  rw [nI_leI (by decide) (by omega)]
  refine ⟨fun z => by omega, fun _ => ⟨fun z => absurd hM.ok8.1 z, fun _ => ?_⟩⟩
  exact M_joins (d := d + 1) (os := []) (po := os) (lv := 1) hs (by decide) (fun x hx => by cases hx) hM (fun x _ => rk1) hoc (fun f2 a1 a2 _ => ⟨_, _, _, rfl, rfl, N_fin hs (H f2 g a1 (hq.tr a2) hg)⟩)
theorem G_com (hs : StM sh fR B) (hk : k = 3 ∨ k = 6) (hE : endK tp k ph e) (hoc : os.count 43 ≤ o) (H : match exS tp 44 e with
  | .ok e' => Lq l G d sh fR B tp b c0 w K f0 g0 e' (cs ++ opL os) ((if k = 3 then 4 else 3, 0, bg, pr, []) :: t) (o - os.count 43) false
  | .error x => Le B tp b c0 K f0 g0 x) : Lq l G d sh fR B tp b c0 w K f0 g0 e cs ((k, ph, bg, pr, os) :: t) o true := by
  by_cases h4 : tkK tp e = 4
  · have e5 : exS tp 44 e = .error (bad tp e) := by unfold exS; rw [isSg_of (by omega)]; rfl
    rw [e5] at H
    exact G_brk hs h4 H
  refine G_422 hs h4 hE (fun f g hM h40 hq hg => ?_)
  have hT := hM.1.2.2.2
  have hl5 := hM.2.2.2.2.1.2
  rw [List.length_cons] at hl5
  have hsl := tkS_le hM.1.2.2.1
  have h16 := hM.1.len
  have hEl := tkE_le hM.1.2.2.1
  have bd4 : bad tp e = (1, tkS tp e) := by unfold bad; rw [if_neg h4]
  have L452 : LpX12_goesOn_452 l G (d + 1) (qi sh fR fun x f g => LpX12_reads_70 l G d (qv sh fR K) sh fR B f g x) sh fR B f g (nI t.length) (nI k) := by
    refine VX12_goesOn_452 (d := d + 1) hs (M_isSg hs hM.1.1.2.2.2 hT h4 (by decide) (bI_cs' (fun z => ?_) (fun z => ?_)))
    · unfold exS at H
      rw [z, if_neg Bool.false_ne_true, bd4] at H
      exact M_blame (k := 1) (pl := tkS tp e) hs hM.1 (by decide) (fun _ _ => ⟨hT.1, by omega⟩) (fun f2 a1 a2 => VX12_goesOn_470 (d := d + 1) hs ⟨fun z => absurd z (MS.er8 a2).2, fun _ => ⟨_, _, _, rfl, rfl, N_er hs H a2 (hq.tr a1.fm.fq) hg⟩⟩)
    · unfold exS at H
      rw [if_pos z] at H
      dsimp only at H
      have hK := (isSg_K z).1
      have hE' := tkE_gte (tp := tp) (e := e) (by omega)
      refine VX12_goesOn_470 (d := d + 1) hs ⟨fun _ => ?_, fun z => absurd hM.ok8.2 z⟩
      refine M_joins (d := d + 1) (os := []) (po := os) (lv := 1) hs (by decide) (fun x hx => by cases hx) hM (fun x _ => rk1) hoc (fun f2 a1 a2 _ => ?_)
      have key : ∀ k', k' = (if k = 3 then 4 else 3) → inb (nI t.length) 20 ∧ inb (nI t.length) 20 ∧ Cl l G (d + 2) 0 0 mX12_ahead [.ref B] (sh, (up2 (up2 f2 (B + 16) (nI t.length).toNatClampNeg (nI k')) (B + 17) (nI t.length).toNatClampNeg (nI 0)), g, fR) (qv sh fR fun f g => (qi sh fR fun x f g => LpX12_reads_70 l G d (qv sh fR K) sh fR B f g x) (some (.int (nI 1))) (sh, (up2 f B 40 (nI 0)), g, fR)) := by
        intro k' hk'
        rw [clN (by omega)]
        have hk6 : k' ≤ 6 ∧ isP k' = isP k := by rcases hk with rfl | rfl <;> subst hk' <;> decide
        have r7 : ph ≤ 2 := hM.2.2.2.1.1.2.2.2.2.2.2.1
        have hM3 := a1.row (k' := k') (ph' := ph) (bg' := bg) (v := nI k') (j := 16) (Or.inl ⟨rfl, rfl, rfl, rfl⟩) ⟨hk6.1, r7⟩ hk6.2
        have hM4 := hM3.row (k' := k') (ph' := 0) (bg' := bg) (v := nI 0) (j := 17) (Or.inr (Or.inl ⟨rfl, rfl, rfl, rfl⟩)) ⟨hk6.1, by decide⟩ rfl
        rw [← hk'] at H
        exact ⟨inbN (by omega) (by decide), inbN (by omega) (by decide), M_adv hs hM4.1 h4 (by omega) (fun f3 g3 b1 b2 b3 => ⟨_, _, _, rfl, rfl, N_to (bb := false) hs H ((hM4.tok b1 b3).bu' (by omega) (by omega)).f40 up2_eq (((((hq.tr a2).upS (by omega)).upS (by omega)).tr b1.fq).up0 (by omega)) (hg.tr b2)⟩)⟩
      rw [nI_eq (by omega) (by decide)]
      exact ⟨fun c => key 3 (by rw [if_neg c]), fun c => key 4 (by rw [if_pos c])⟩
  refine VX12_goesOn_422 (d := d + 1) hs ?_
  rw [nI_leI (by decide) (by omega), nI_eq (by omega) (by decide), nI_eq (by omega) (by decide)]
  exact ⟨fun _ => ⟨fun _ => L452, fun z => ⟨fun z2 => by omega, fun _ => L452⟩⟩, fun z => by omega⟩
theorem MF.drop {f : FI} {g : FL} {bu : Nat} {v : Int32} (h : MF f g B tp b c0 w e cs ((k, ph, bg, pr, []) :: t) o bu) (hv : v = nI t.length) : MF (up2 f B 36 v) g B tp b c0 w e cs t o bu ∧ c0 + cs.length + (flatF t).length + npr t + isP k ≤ bu := by
  obtain ⟨h1, h2, h3, ⟨-, h4⟩, h5, h6, h7, h8⟩ := h
  have kk : ∀ r i, (r ≠ B ∨ i ≠ 36) → up2 f B 36 v r i = f r i := fun r i z => up2_ne (by omega)
  have ef : flatF ((k, ph, bg, pr, []) :: t) = flatF t := by show flatF t ++ [] = _; rw [List.append_nil]
  rw [ef] at h6 h8
  have en : npr ((k, ph, bg, pr, []) :: t) = npr t + isP k := rfl
  rw [en] at h8
  have hl := h5.2
  rw [List.length_cons] at hl
  exact ⟨⟨h1.kp (fun i hi => kk _ _ (by omega)) (fun i => kk _ _ (by omega)), ⟨by rw [kk _ _ (by omega)]; exact h2.1, h2.2.1, by rw [kk _ _ (by omega)]; exact h2.2.2.1, h2.2.2.2⟩, ⟨by rw [kk _ _ (by omega)]; exact h3.1, fun j o hj => by rw [kk _ _ (by omega), kk _ _ (by omega)]; exact h3.2 j o hj⟩, h4.kp (fun j i a b c => kk _ _ (by omega)), ⟨by rw [up2_eq]; exact hv, by omega⟩, ⟨by rw [kk _ _ (by omega)]; exact h6.1, h6.2.1, fun i x hi => by rw [kk _ _ (by omega)]; exact h6.2.2 i x hi⟩, ⟨by rw [kk _ _ (by omega)]; exact h7.1, h7.2⟩, by omega⟩, by omega⟩
theorem G_cls {k2 ph2 pr2 : Nat} {bg2 : Bool} {os2 : List Nat} (hs : StM sh fR B) (hk : k = 2 ∨ k = 4 ∨ k = 5) (hE : endK tp k ph e) (hoc : os.count 43 + 1 ≤ o) (H : match exS tp (if k = 5 then 93 else 41) e with
  | .ok e' => Lq l G d sh fR B tp b c0 w K f0 g0 e' (cs ++ opL os ++ (if k = 4 then [(pr, 0)] else [])) ((k2, if k = 5 then 2 else ph2, bg2, pr2, os2) :: t) (o - os.count 43 - 1) true
  | .error x => Le B tp b c0 K f0 g0 x) : Lq l G d sh fR B tp b c0 w K f0 g0 e cs ((k, ph, bg, pr, os) :: (k2, ph2, bg2, pr2, os2) :: t) o true := by
  by_cases h4 : tkK tp e = 4
  · have e5 : exS tp (if k = 5 then 93 else 41) e = .error (bad tp e) := by unfold exS; rw [isSg_of (by omega)]; rfl
    rw [e5] at H
    exact G_brk hs h4 H
  refine G_422 hs h4 hE (fun f g hM h40 hq hg => ?_)
  have hT := hM.1.2.2.2
  have hl5 := hM.2.2.2.2.1.2
  rw [List.length_cons, List.length_cons] at hl5
  have hsl := tkS_le hM.1.2.2.1
  have h16 := hM.1.len
  have hEl := tkE_le hM.1.2.2.1
  have bd4 : bad tp e = (1, tkS tp e) := by unfold bad; rw [if_neg h4]
  have key : ∀ c, c = (if k = 5 then 93 else 41) → Cl l G (d + 2) 0 0 mX12_isSign [.ref B, .int (nI c)] (sh, f, g, fR) (qi sh fR fun x f g => ((¬ x = 0 → LpX12_goesOn_546 l G (d + 1) (qi sh fR fun x f g => LpX12_reads_70 l G d (qv sh fR K) sh fR B f g x) sh fR B f g (nI ((k2, ph2, bg2, pr2, os2) :: t).length) (nI k)) ∧ (x = 0 → Cl l G (d + 2) 0 0 mX12_blame [.ref B, .int (nI 1), .int (f B 4)] (sh, f, g, fR) (qv sh fR fun f g => LpX12_goesOn_546 l G (d + 1) (qi sh fR fun x f g => LpX12_reads_70 l G d (qv sh fR K) sh fR B f g x) sh fR B f g (nI ((k2, ph2, bg2, pr2, os2) :: t).length) (nI k))))) := by
    intro c hc
    rw [← hc] at H
    unfold exS at H
    refine M_isSg hs hM.1.1.2.2.2 hT h4 (by rw [hc]; split <;> decide) (bI_cs' (fun z => ?_) (fun z => ?_))
    · rw [z, if_neg Bool.false_ne_true, bd4] at H
      exact M_blame (k := 1) (pl := tkS tp e) hs hM.1 (by decide) (fun _ _ => ⟨hT.1, by omega⟩) (fun f2 a1 a2 => VX12_goesOn_546 (d := d + 1) hs ⟨fun z => absurd z (MS.er8 a2).2, fun _ => ⟨_, _, _, rfl, rfl, N_er hs H a2 (hq.tr a1.fm.fq) hg⟩⟩)
    · rw [if_pos z] at H
      dsimp only at H
      have hK := (isSg_K z).1
      have hE' := tkE_gte (tp := tp) (e := e) (by omega)
      refine VX12_goesOn_546 (d := d + 1) hs ⟨fun _ => ?_, fun z => absurd hM.ok8.2 z⟩
      refine M_joins (d := d + 1) (os := []) (po := os) (lv := 1) hs (by decide) (fun x hx => by cases hx) hM (fun x _ => rk1) (by omega) (fun f2 a1 a2 a3 => ?_)
      have h36 := a1.2.2.2.2.1.1
      have h37 := a1.2.2.2.2.2.2.1
      rw [List.length_cons] at h36
      have h29 := a1.2.1
      have h28 := a1.2.2.1.1
      have hpr := a1.2.2.2.1.1.2.2.2.1
      rw [h36, h37.1, h29.1, h28, pk_sub (by omega), pk_sub (by omega), Nat.add_sub_cancel, nI_eq (by omega) (by decide)]
      obtain ⟨d1, d2⟩ := a1.drop (v := nI ((k2, ph2, bg2, pr2, os2) :: t).length) rfl
      have hD := d1.opn (v := nI (o - os.count 43 - 1)) (o' := o - os.count 43 - 1) rfl (by omega)
      have hq3 : Fq B b c0 f0 (up2 (up2 f2 B 36 (nI ((k2, ph2, bg2, pr2, os2) :: t).length)) B 37 (nI (o - os.count 43 - 1))) := ((hq.tr a2).up0 (by omega)).up0 (by omega)
      have r67 : k2 ≤ 6 ∧ ph2 ≤ 2 := ⟨hM.2.2.2.1.2.1.2.2.2.2.2.1, hM.2.2.2.1.2.1.2.2.2.2.2.2.1⟩
      have h40' : f2 B 40 = bI true := by rw [a3, h40]
      refine ⟨fun c4 => ?_, fun c4 => ?_⟩
      · rw [if_neg c4, List.append_nil] at H
        refine VX12_goesOn_596 (d := d + 1) hs ?_
        rw [nI_eq (by omega) (by decide)]
        refine ⟨fun c5 => ?_, fun c5 => ?_⟩
        · rw [if_neg c5] at H
          exact M_adv hs hD.1 h4 (by omega) (fun f3 g3 b1 b2 b3 => ⟨_, _, _, rfl, rfl, N_to (bb := true) hs H ((hD.tok b1 b3).bu' (by omega) (by omega)) (by rw [b1 _ _ (by omega), up2_k (by decide), up2_k (by decide)]; exact h40') (hq3.tr b1.fq) (hg.tr b2)⟩)
        · rw [if_pos c5] at H
          rw [up2_k (show (36 : Nat) ≠ 37 by decide), up2_eq, List.length_cons, pk_sub (by omega), Nat.add_sub_cancel, clN (by omega)]
          have hM4 := hD.row (k' := k2) (ph' := 2) (bg' := bg2) (v := nI 2) (j := 17) (Or.inr (Or.inl ⟨rfl, rfl, rfl, rfl⟩)) ⟨r67.1, by decide⟩ rfl
          exact ⟨inbN (by omega) (by decide), M_adv hs hM4.1 h4 (by omega) (fun f3 g3 b1 b2 b3 => ⟨_, _, _, rfl, rfl, N_to (bb := true) hs H ((hM4.tok b1 b3).bu' (by omega) (by omega)) (by rw [b1 _ _ (by omega), up2_r (by omega), up2_k (by decide), up2_k (by decide)]; exact h40') ((hq3.upS (by omega)).tr b1.fq) (hg.tr b2)⟩)⟩
      · rw [if_pos c4, if_neg (by omega)] at H
        have hlc : (nI 1600 * nI b + nI (c0 + (cs ++ opL os).length)).toNatClampNeg = 1600 * b + (c0 + (cs ++ opL os).length) := by rw [pk_mul, nI_add, clN (by omega)]
        have hin : inb (nI 1600 * nI b + nI (c0 + (cs ++ opL os).length)) 3200 := by rw [pk_mul, nI_add]; exact inbN (by subst c4; have : isP 4 = 1 := rfl; omega) (by decide)
        have hp4 : isP k = 1 := by rw [c4]; rfl
        rw [hlc, nI_add, clN (by rw [List.length_cons]; omega)]
        have hpr2 : f2 (B + 19) ((k2, ph2, bg2, pr2, os2) :: t).length = nI pr := hpr hp4
        rw [hpr2]
        have hC := hD.code (x := ((pr, 0) : Op)) (v1 := nI pr) (v2 := nI 0) (v3 := nI (c0 + (cs ++ opL os).length + 1)) (bu' := e) (n := 1600 * b + (c0 + (cs ++ opL os).length)) rfl (by rw [List.length_append (as := cs ++ opL os), List.length_singleton]; omega) (by omega) rfl rfl rfl
        refine ⟨inbN (by rw [List.length_cons]; omega) (by decide), hin, hin, VX12_goesOn_596 (d := d + 1) hs ?_⟩
        rw [nI_eq (by omega) (by decide)]
        refine ⟨fun _ => ?_, fun c5 => by omega⟩
        exact M_adv hs hC.1 h4 (by omega) (fun f3 g3 b1 b2 b3 => ⟨_, _, _, rfl, rfl, N_to (bb := true) hs H ((hC.tok b1 b3).bu' (by omega) (by omega)) (by rw [b1 _ _ (by omega), up2_k (by decide), up2_r (by omega), up2_r (by omega), up2_k (by decide), up2_k (by decide)]; exact h40') ((((hq3.upC (by omega) (by omega)).upC (by omega) (by omega)).up0 (by omega)).tr b1.fq) (hg.tr b2)⟩)
  refine VX12_goesOn_422 (d := d + 1) hs ?_
  rw [nI_leI (by decide) (by omega), nI_eq (by omega) (by decide), nI_eq (by omega) (by decide), nI_eq (by omega) (by decide)]
  exact ⟨fun _ => ⟨fun z => by omega, fun _ => ⟨fun _ => ⟨fun z5 => key 41 (by rw [if_neg z5]), fun z5 => key 93 (by rw [if_pos z5])⟩, fun z => by omega⟩⟩, fun z => by omega⟩
end GOS
