/-! the reference: a formula is read; the statements of a text -/
def FmI (f : FI) (B b c i : Nat) (ops : List Op) : Prop := ∃ c0 : Nat, f (B + 11) (4 * b + i) = nI c0 ∧ f (B + 12) (4 * b + i) = nI (c0 + ops.length) ∧ c0 + ops.length ≤ c ∧ ∀ (j : Nat) (o : Op), ops[j]? = some o → f (B + 13) (1600 * b + c0 + j) = nI o.1 ∧ f (B + 14) (1600 * b + c0 + j) = nI o.2
def PIf (f : FI) (B b c i : Nat) (o : Option (List Op)) : Prop := match o with
  | none => f (B + 11) (4 * b + i) = -1
  | some ops => FmI f B b c i ops
/-- the plan in the bank that is read into; c codes are there -/
def PIn (f : FI) (g : FL) (B b c : Nat) (π : Pl) : Prop := (f (B + 2) b = nI (π.1 1) ∧ f (B + 3) b = nI (π.1 2) ∧ f (B + 4) b = nI (π.1 3) ∧ f (B + 5) b = nI (π.1 4) ∧ f (B + 10) b = nI (π.1 5) ∧ f (B + 6) b = nI (π.1 6)) ∧ (∀ p, p < π.1 6 → f (B + 7) (4 * b + p) = nI (π.2.2.1 p)) ∧ (∀ p, p < π.1 6 → PMj f B b p (π.2.2.2.1 p)) ∧ (∀ i, i < 4 → PIf f B b c i (π.2.2.2.2 i)) ∧ ∀ p, p < π.1 6 → g (B + 15) (4 * b + p) = lN (packM (π.2.1 p))
def bkR (B b r k : Nat) : Prop := (((B + 2 ≤ r ∧ r ≤ B + 6) ∨ r = B + 10) ∧ k = b) ∨ (((B + 7 ≤ r ∧ r ≤ B + 9) ∨ r = B + 11 ∨ r = B + 12) ∧ 4 * b ≤ k ∧ k < 4 * b + 4) ∨ ((r = B + 13 ∨ r = B + 14) ∧ 1600 * b ≤ k ∧ k < 1600 * b + 1600)
def scR (B r k : Nat) : Prop := (r = B ∧ (k = 3 ∨ k = 4 ∨ k = 5 ∨ k = 6 ∨ k = 8 ∨ k = 9 ∨ k = 12 ∨ k = 28 ∨ k = 30 ∨ k = 36 ∨ k = 37 ∨ k = 39 ∨ k = 40)) ∨ (B + 16 ≤ r ∧ r ≤ B + 21)
def FB (B b : Nat) (f f' : FI) : Prop := ∀ r k, ¬ scR B r k → ¬ bkR B b r k → f' r k = f r k
def GB (B b : Nat) (g g' : FL) : Prop := ∀ r k, ¬ (r = B ∧ k = 7) → ¬ (r = B + 15 ∧ 4 * b ≤ k ∧ k < 4 * b + 4) → g' r k = g r k
theorem FB.rf {B b : Nat} {f : FI} : FB B b f f := fun _ _ _ _ => rfl
theorem FB.tr {B b : Nat} {f f' f'' : FI} (h : FB B b f f') (h' : FB B b f' f'') : FB B b f f'' := fun r k x y => (h' r k x y).trans (h r k x y)
theorem GB.rf {B b : Nat} {f : FL} : GB B b f f := fun _ _ _ _ => rfl
theorem GB.tr {B b : Nat} {f f' f'' : FL} (h : GB B b f f') (h' : GB B b f' f'') : GB B b f f'' := fun r k x y => (h' r k x y).trans (h r k x y)
theorem Fm.fb {B b : Nat} {f f' : FI} (h : Fm B f f') : FB B b f f' := fun r k x _ => h r k (fun z => x (Or.inl ⟨z.1, by omega⟩))
theorem Fg.gb {B b : Nat} {g g' : FL} (h : Fg B g g') : GB B b g g' := fun r k x _ => h r k x
theorem Fq.fb {B b c0 : Nat} {f f' : FI} (h : Fq B b c0 f f') : FB B b f f' := fun r k x y => h r k (fun z => x (Or.inl ⟨z.1, by omega⟩)) (fun z => y (Or.inr (Or.inr ⟨z.1, by omega⟩))) (fun z => x (Or.inr z))
theorem FB.up {B b r k : Nat} {f f' : FI} {v : Int32} (h : FB B b f f') (hr : scR B r k ∨ bkR B b r k) : FB B b f (up2 f' r k v) := fun r' k' x y => by
  rw [up2_ne (fun z => by obtain ⟨rfl, rfl⟩ := z; rcases hr with z | z; exact x z; exact y z)]
  exact h r' k' x y
def D8 (f : FI) (B : Nat) : Prop := ∀ j, j < 8 → ∃ n, n ≤ 9999 ∧ f (B + 7) j = nI n
theorem D8.kp {B : Nat} {f f' : FI} (h : D8 f B) (e : ∀ k, f' (B + 7) k = f (B + 7) k) : D8 f' B := fun j hj => by rw [e]; exact h j hj
theorem PIn.kp {f f' : FI} {g g' : FL} {B b c : Nat} {π : Pl} (h : PIn f g B b c π) (e : ∀ r k, B + 2 ≤ r → r ≤ B + 14 → f' r k = f r k) (eg : ∀ k, g' (B + 15) k = g (B + 15) k) : PIn f' g' B b c π := by
  obtain ⟨⟨h1, h2, h3, h4, h5, h6⟩, h7, h8, h9, h10⟩ := h
  refine ⟨⟨by rw [e _ _ (by omega) (by omega)]; exact h1, by rw [e _ _ (by omega) (by omega)]; exact h2, by rw [e _ _ (by omega) (by omega)]; exact h3, by rw [e _ _ (by omega) (by omega)]; exact h4, by rw [e _ _ (by omega) (by omega)]; exact h5, by rw [e _ _ (by omega) (by omega)]; exact h6⟩, fun p hp => by rw [e _ _ (by omega) (by omega)]; exact h7 p hp, fun p hp => ?_, fun i hi => ?_, fun p hp => by rw [eg]; exact h10 p hp⟩
  · have := h8 p hp
    unfold PMj at this ⊢
    rw [e _ _ (by omega) (by omega), e _ _ (by omega) (by omega)]
    exact this
  · have := h9 i hi
    unfold PIf at this ⊢
    cases hf : π.2.2.2.2 i with
    | none => rw [hf] at this; show f' (B + 11) (4 * b + i) = -1; rw [e _ _ (by omega) (by omega)]; exact this
    | some ops =>
      rw [hf] at this
      obtain ⟨c0, a1, a2, a3, a4⟩ := this
      exact ⟨c0, by rw [e _ _ (by omega) (by omega)]; exact a1, by rw [e _ _ (by omega) (by omega)]; exact a2, a3, fun j o hj => by rw [e _ _ (by omega) (by omega), e _ _ (by omega) (by omega)]; exact a4 j o hj⟩
section MRD
variable {l : Launch} {G : Gx} {d : Nat} {sh : Sh} {fR : FRt} {B : Nat} {f : FI} {g : FL} {tp : List Nat} {b c0 w e : Nat} {π : Pl}
theorem M_reads {K : FI → FL → Prop} (hs : StM sh fR B) (hw : w < 4) (hM : MS f g B tp (.ok e)) (h29 : f B 29 = nI b) (hb : b < 2) (h30 : f B 30 = nI w) (h28 : f B 28 = nI c0) (hc0 : c0 ≤ e) (HE : ∀ x f' g', bd (rF (frmD tp w e)) (lexD tp) = .error x → MS f' g' B tp (.error x) → Fq B b c0 f f' → Fg B g g' → K f' g') (HK : ∀ e' c f' g', frmD tp w e = .ok (e', c) → tkK tp e' ≠ 4 → MS f' g' B tp (.ok e') → CodM f' B b c0 c → c0 + c.length ≤ e' → Fq B b c0 f f' → Fg B g g' → K f' g') : Cl l G (d + 4) 0 0 mX12_reads [.ref B, .int (bI (decide (w = 0)))] (sh, f, g, fR) (qv sh fR K) := by
  have h16 := hM.len
  have he := hM.2.2.1
  refine VX12_reads hs ⟨fun _ => ?_, fun z => absurd hM.ok8.2 z⟩
  have key : ∀ kd, kd ≤ 1 → ∀ F : FI, F = (up2 (up2 (up2 (up2 (up2 (up2 (up2 (up2 (up2 f B 36 (nI 0)) B 37 (nI 0)) B 39 (nI 0)) B 40 (nI 0)) (B + 16) 0 (nI kd)) (B + 17) 0 (nI 0)) (B + 18) 0 (nI 1)) (B + 20) 0 (nI 0)) B 36 ((nI 0) + (nI 1))) → Lq l G d sh fR B tp b c0 w K f g e [] [(kd, 0, true, 0, [])] 0 false → LpX12_reads_43 l G d (qv sh fR K) sh fR B F g (nI 1) := by
    intro kd hkd F hF HL
    have kF : ∀ r k, ¬ (r = B ∧ (k = 36 ∨ k = 37 ∨ k = 39 ∨ k = 40)) → ¬ (B + 16 ≤ r ∧ r ≤ B + 20) → F r k = f r k := fun r k z z2 => by
      rw [hF, up2_ne (by omega), up2_ne (by omega), up2_ne (by omega), up2_ne (by omega), up2_ne (by omega), up2_ne (by omega), up2_ne (by omega), up2_ne (by omega), up2_ne (by omega)]
    have hq : Fq B b c0 f F := fun r k x y z => kF r k (fun q => x ⟨q.1, by omega⟩) (fun q => z (by omega))
    have F36 : F B 36 = nI 1 := by rw [hF, up2_eq, nI_add]
    have F37 : F B 37 = nI 0 := by rw [hF, up2_k (by decide), up2_r (by omega), up2_r (by omega), up2_r (by omega), up2_r (by omega), up2_k (by decide), up2_k (by decide), up2_eq]
    have F39 : F B 39 = nI 0 := by rw [hF, up2_k (by decide), up2_r (by omega), up2_r (by omega), up2_r (by omega), up2_r (by omega), up2_k (by decide), up2_eq]
    have F40 : F B 40 = nI 0 := by rw [hF, up2_k (by decide), up2_r (by omega), up2_r (by omega), up2_r (by omega), up2_r (by omega), up2_eq]
    have F16 : F (B + 16) 0 = nI kd := by rw [hF, up2_r (by omega), up2_r (by omega), up2_r (by omega), up2_r (by omega), up2_eq]
    have F17 : F (B + 17) 0 = nI 0 := by rw [hF, up2_r (by omega), up2_r (by omega), up2_r (by omega), up2_eq]
    have F18 : F (B + 18) 0 = nI 1 := by rw [hF, up2_r (by omega), up2_r (by omega), up2_eq]
    have F20 : F (B + 20) 0 = nI 0 := by rw [hF, up2_r (by omega), up2_eq]
    have hp0 : isP kd = 0 := by rcases (show kd = 0 ∨ kd = 1 by omega) with rfl | rfl <;> rfl
    refine HL F g ⟨hM.kp (fun k hk => kF _ _ (by omega) (by omega)) (fun k => kF _ _ (by omega) (by omega)), ⟨by rw [kF _ _ (by omega) (by omega)]; exact h29, hb, by rw [kF _ _ (by omega) (by omega)]; exact h30, hw⟩, ⟨by rw [kF _ _ (by omega) (by omega)]; exact h28, fun j o hj => by cases hj⟩, ⟨⟨F16, F17, F18, fun z => by dsimp only at z; omega, F20, by dsimp only; omega, Nat.zero_le _, Nat.zero_le _⟩, trivial⟩, ⟨F36, show 1 ≤ 9 by decide⟩, ⟨F39, show 0 ≤ 110 by decide, fun i x hi => by cases hi⟩, ⟨F37, by decide⟩, ?_, by omega⟩ F40 hq Fg.rf
    show c0 + 0 + 0 + (0 + isP kd) ≤ e
    omega
  have H4 : ∀ e' c, frmD tp w e = .ok (e', c) → tkK tp e' = 4 → Le B tp b c0 K f g (bad tp e') := fun e' c h h4 f' g' a1 a2 a3 => HE _ f' g' (by rw [h]; show lexD tp e' = _; unfold lexD; rw [if_pos h4]) a1 a2 a3
  have hE : ∀ x, frmD tp w e = .error x → Le B tp b c0 K f g x := fun x h f' g' a1 a2 a3 => HE x f' g' (by rw [h]; rfl) a1 a2 a3
  obtain ⟨rS, -, rT⟩ := R_lvl (l := l) (G := G) (d := d) (sh := sh) (fR := fR) (tp := tp) (b := b) (c0 := c0) (w := w) (K := K) (f0 := f) (g0 := g) hs h16 7 0 rfl
  have fin : ∀ (kd ph : Nat) (e' : Nat) (c1 : List Op) (po : List Nat) (o : Nat), kd < 2 → endK tp kd ph e' → po.count 43 ≤ o → frmD tp w e = .ok (e', c1 ++ opL po) → Lq l G d sh fR B tp b c0 w K f g e' ([] ++ c1) [(kd, ph, false, 0, [] ++ po)] o true := by
    intro kd ph e' c1 po o hkd hEk hoc hfr
    by_cases h4 : tkK tp e' = 4
    · exact G_brk hs h4 (H4 e' _ hfr h4)
    · refine G_end hs hkd h4 hEk (by rw [List.nil_append]; exact hoc) (fun f' g' a1 a2 a3 => ?_)
      rw [List.nil_append, List.nil_append] at a1
      refine HK e' _ f' g' hfr h4 a1.1 a1.2.2.1 ?_ a2 a3
      have := a1.2.2.2.2.2.2.2.1
      omega
  refine ⟨fun c => ?_, fun c => ?_⟩
  · have hw0 : ¬ w = 0 := fun z => by rw [decide_eq_true z] at c; exact absurd c (by decide)
    have hfr : frmD tp w e = (lvF tp w 7).1 e := by unfold frmD; rw [if_neg hw0]
    refine key 0 (by decide) _ rfl ?_
    refine rS e [] 0 0 0 true [] [] he (by decide) (fun z => by cases z) (fun x hx => by cases hx) (Nat.le_refl _) (Nat.zero_le _) (fun x hx => hE x (by rw [hfr]; exact hx)) (fun e' c hc c1 po h1 h2 h3 => ?_)
    exact fin 0 0 e' c1 po 0 (by decide) (h3.tk rfl) (by rw [cnt0 (by omega) h2]; omega) (by rw [hfr, hc, h1])
  · have hw0 : w = 0 := by
      by_cases z : w = 0
      · exact z
      · rw [decide_eq_false z] at c; exact absurd rfl c
    have hfr : frmD tp w e = (lvF tp w 7).2.2 e := by unfold frmD; rw [if_pos hw0]
    refine key 1 (by decide) _ rfl ?_
    refine rT e [] 1 0 [] [] he rfl (fun x hx => by cases hx) (Nat.le_refl _) (Nat.zero_le _) (fun x hx => hE x (by rw [hfr]; exact hx)) (fun e' c hc c1 po ph h1 h2 h3 h4 => ?_)
    exact fin 1 ph e' c1 po (0 + po.count 43) (by decide) (h4.tk h3) (by omega) (by rw [hfr, hc, h1])
/-- how a text stands in the reference: r is what the grammar says; a broken token may have been told already -/
def SMr (f : FI) (g : FL) (B : Nat) (tp : List Nat) (b : Nat) (r : Rr (Nat × Pl)) : Prop := ∃ r', bd r' (lexD tp) = bd (rF r) (lexD tp) ∧ MS f g B tp r' ∧ f B 29 = nI b ∧ D8 f B ∧ ∀ x, r = .ok x → tkK tp x.1 ≠ 4 → ∃ c, f B 28 = nI c ∧ c ≤ x.1 ∧ PIn f g B b c x.2
def SMo (f : FI) (g : FL) (B : Nat) (tp : List Nat) (b e : Nat) (π : Pl) : Prop := MS f g B tp (.ok e) ∧ f B 29 = nI b ∧ b < 2 ∧ D8 f B ∧ ∃ c, f B 28 = nI c ∧ c ≤ e ∧ PIn f g B b c π
theorem M_cnt {K : Int32 → FI → FL → Prop} {a : Int32} (hs : StM sh fR B) (hM : MS f g B tp (.ok e)) (h4 : tkK tp e ≠ 4) (h0 : tkK tp e ≠ 0) (H0 : a = 0 → ∀ f' g', Fm B f f' → Fg B g g' → MS f' g' B tp (.ok (tkE tp e)) → K (nI 1) f' g') (H1 : ¬ a = 0 → ∀ f', Fm B f f' → MS f' g B tp (.error (6, tkS tp e)) → K (nI 0) f' g) : Cl l G (d + 2) 0 0 mX12_isCounted [.ref B, .int a] (sh, f, g, fR) (qi sh fR K) := by
  have hsl := tkS_le hM.2.2.1
  have h16 := hM.len
  refine VX12_isCounted hs ⟨fun z => absurd hM.ok8.1 z, fun _ => ⟨fun c => ?_, fun c => ?_⟩⟩
  · refine VX12_isCounted_21 hs ⟨fun z => absurd hM.ok8.1 z, fun _ => M_adv hs hM h4 h0 (fun f2 g2 a1 a2 a3 => ⟨fun z => absurd a3.ok8.1 z, fun _ => ⟨_, _, _, rfl, rfl, H0 c f2 g2 a1 a2 a3⟩⟩)⟩
  · refine M_blame (k := 6) (pl := tkS tp e) hs hM (by decide) (fun _ _ => ⟨hM.2.2.2.1, by omega⟩) (fun f2 a1 a2 => ?_)
    exact VX12_isCounted_21 hs ⟨fun _ => ⟨fun _ => ⟨_, _, _, rfl, rfl, H1 c f2 a1.fm a2⟩, fun z => absurd z (MS.er8 a2).1⟩, fun z => absurd z (MS.er8 a2).1⟩
theorem lexD_e {x : Nat × Nat} : bd (.error x : Rr Nat) (lexD tp) = .error x := rfl
theorem lexD_o (h : tkK tp e ≠ 4) : bd (.ok e : Rr Nat) (lexD tp) = .ok e := by rw [bd_ok]; unfold lexD; rw [if_neg h]
theorem M_form {K : FI → FL → Prop} (hs : StM sh fR B) (hw : w < 4) (hS : SMo f g B tp b e π) (hW : tkK tp e = 1) (H : ∀ f' g', SMr f' g' B tp b (forD tp π w e) → FB B b f f' → GB B b g g' → K f' g') : Cl l G (d + 5) 0 0 mX12_reading [.ref B, .int (nI w)] (sh, f, g, fR) (qv sh fR K) := by
  obtain ⟨hM, h29, hb, h8, c, h28, hc, hP⟩ := hS
  have hPi := hP.2.2.2.1 w hw
  have h16 := hM.len
  have he := hM.2.2.1
  have hE := tkE_gte (tp := tp) (e := e) (by omega)
  have hEl := tkE_le he
  refine VX12_reading hs (fun w1 hw1 => ?_)
  rw [h29, pk_mul, nI_add] at hw1
  rw [hw1, clN (by omega)]
  have hin : inb (nI (4 * b + w)) 8 := inbN (by omega) (by decide)
  refine ⟨hin, ?_⟩
  unfold forD at H
  have told : ∀ {KK : Int32 → FI → FL → Prop}, ¬ f (B + 11) (4 * b + w) = -1 → (∀ f', FB B b f f' → SMr f' g B tp b (forD tp π w e) → KK (nI 0) f' g) → Cl l G (d + 4) 0 0 mX12_isCounted [.ref B, .int (nI 1)] (sh, f, g, fR) (qi sh fR KK) := by
    intro KK hne HH
    refine M_cnt (d := d + 2) hs hM (by omega) (by omega) (fun z => absurd z (by decide)) (fun _ f2 a1 a2 => HH f2 a1.fb ⟨.error (6, tkS tp e), ?_, a2, by rw [a1 _ _ (by omega)]; exact h29, h8.kp (fun k => a1 _ _ (by omega)), fun x hx => ?_⟩)
    · unfold forD
      rw [if_pos]
      · rfl
      · cases hq : π.2.2.2.2 w with
        | some v => rfl
        | none => unfold PIf at hPi; rw [hq] at hPi; exact absurd hPi hne
    · unfold forD at hx
      rw [if_pos] at hx
      · cases hx
      · cases hq : π.2.2.2.2 w with
        | some v => rfl
        | none => unfold PIf at hPi; rw [hq] at hPi; exact absurd hPi hne
  have untold : f (B + 11) (4 * b + w) = -1 → π.2.2.2.2 w = none := fun hz => by
    cases hq : π.2.2.2.2 w with
    | none => rfl
    | some v =>
      unfold PIf at hPi
      rw [hq] at hPi
      obtain ⟨c1, a1, a2, a3, a4⟩ := hPi
      rw [hz] at a1
      exact absurd a1.symm (nI_m1 (by omega))
  refine ⟨fun hz => ?_, fun hz => told hz (fun f2 a1 a2 => ⟨fun z => absurd rfl z, fun _ => ⟨_, _, rfl, rfl, ?_⟩⟩)⟩
  · have hn := untold hz
    rw [hn, if_neg (by decide)] at H
    refine M_cnt (d := d + 2) hs hM (by omega) (by omega) (fun _ f2 g2 a1 a2 a3 => ⟨fun _ => ⟨hin, ?_⟩, fun z => absurd z (by decide)⟩) (fun z => absurd rfl z)
    have f228 : f2 B 28 = nI c := by rw [a1 _ _ (by omega)]; exact h28
    rw [f228]
    obtain ⟨F, hF⟩ : ∃ F : FI, F = up2 (up2 f2 B 30 (nI w)) (B + 11) (4 * b + w) (nI c) := ⟨_, rfl⟩
    rw [← hF]
    have kF : ∀ r k, ¬ (r = B ∧ k = 30) → ¬ (r = B + 11 ∧ k = 4 * b + w) → F r k = f2 r k := fun r k z z2 => by rw [hF, up2_ne z2, up2_ne z]
    have hMF : MS F g2 B tp (.ok (tkE tp e)) := a3.kp (fun k hk => kF _ _ (by omega) (by omega)) (fun k => kF _ _ (by omega) (by omega))
    have hfb : FB B b f F := by rw [hF]; exact (a1.fb.up (Or.inl (Or.inl ⟨rfl, by omega⟩))).up (Or.inr (Or.inr (Or.inl ⟨Or.inr (Or.inl rfl), by omega, by omega⟩)))
    have core : Cl l G (d + 4) 0 0 mX12_reads [.ref B, .int (bI (decide (w = 0)))] (sh, F, g2, fR) (qv sh fR fun f11 g12 => inb (nI (4 * b + w)) 8 ∧ (qv sh fR K) none (sh, (up2 f11 (B + 12) (4 * b + w) (f11 B 28)), g12, fR)) := by
      refine M_reads hs hw hMF (b := b) (c0 := c) (by rw [kF _ _ (by omega) (by omega), a1 _ _ (by omega)]; exact h29) hb (by rw [hF, up2_r (by omega), up2_eq]) (by rw [kF _ _ (by omega) (by omega)]; exact f228) (by omega) (fun x f3 g3 b1 b2 b3 b4 => ⟨hin, ⟨_, _, rfl, rfl, H _ g3 ⟨.error x, ?_, b2.kp (fun k hk => up2_r (by omega)) (fun k => up2_r (by omega)), ?_, ?_, fun y hy hy4 => ?_⟩ ?_ ?_⟩⟩) (fun e' cs f3 g3 b1 b2 b3 b4 b5 b6 b7 => ⟨hin, ⟨_, _, rfl, rfl, H _ g3 ⟨.ok e', ?_, b3.kp (fun k hk => up2_r (by omega)) (fun k => up2_r (by omega)), ?_, ?_, fun y hy hy4 => ?_⟩ ?_ ?_⟩⟩)
      · rw [lexD_e, ← b1]
        cases frmD tp w (tkE tp e) <;> rfl
      · rw [up2_r (by omega), b3 _ _ (by omega) (by omega) (by omega), kF _ _ (by omega) (by omega), a1 _ _ (by omega)]; exact h29
      · exact h8.kp (fun k => by rw [up2_r (by omega), b3 _ _ (by omega) (by omega) (by omega), kF _ _ (by omega) (by omega), a1 _ _ (by omega)])
      · obtain ⟨q, hq, hq2⟩ := bd_in hy
        cases hq2
        rw [hq] at b1
        have b1' : lexD tp q.1 = .error x := b1
        unfold lexD at b1'
        rw [if_neg hy4] at b1'
        cases b1'
      · exact (hfb.tr b3.fb).up (Or.inr (Or.inr (Or.inl ⟨Or.inr (Or.inr rfl), by omega, by omega⟩)))
      · exact (a2.tr b4).gb
      · rw [b1]; rfl
      · rw [up2_r (by omega), b6 _ _ (by omega) (by omega) (by omega), kF _ _ (by omega) (by omega), a1 _ _ (by omega)]; exact h29
      · exact h8.kp (fun k => by rw [up2_r (by omega), b6 _ _ (by omega) (by omega) (by omega), kF _ _ (by omega) (by omega), a1 _ _ (by omega)])
      · rw [b1] at hy
        cases hy
        have old : ∀ r k, B + 2 ≤ r → r ≤ B + 14 → ¬ (r = B + 11 ∧ k = 4 * b + w) → ¬ (r = B + 12 ∧ k = 4 * b + w) → ¬ ((r = B + 13 ∨ r = B + 14) ∧ 1600 * b + c ≤ k ∧ k < 1600 * b + 1600) → up2 f3 (B + 12) (4 * b + w) (f3 B 28) r k = f r k := fun r k z1 z2 z3 z4 z5 => by
          rw [up2_ne z4, b6 _ _ (by omega) z5 (by omega), kF _ _ (by omega) z3, a1 _ _ (by omega)]
        obtain ⟨⟨p1, p2, p3, p4, p5, p6⟩, p7, p8, p9, p10⟩ := hP
        have h64 : ∀ x : Nat, B + 2 ≤ B + 2 + x := fun x => by omega
        refine ⟨c + cs.length, by rw [up2_r (by omega)]; exact b4.1, by omega, ⟨⟨?_, ?_, ?_, ?_, ?_, ?_⟩, fun p hp => ?_, fun p hp => ?_, fun i hi => ?_, fun p hp => ?_⟩⟩
        · rw [old _ _ (by omega) (by omega) (by omega) (by omega) (by omega)]; exact p1
        · rw [old _ _ (by omega) (by omega) (by omega) (by omega) (by omega)]; exact p2
        · rw [old _ _ (by omega) (by omega) (by omega) (by omega) (by omega)]; exact p3
        · rw [old _ _ (by omega) (by omega) (by omega) (by omega) (by omega)]; exact p4
        · rw [old _ _ (by omega) (by omega) (by omega) (by omega) (by omega)]; exact p5
        · rw [old _ _ (by omega) (by omega) (by omega) (by omega) (by omega)]; exact p6
        · rw [old _ _ (by omega) (by omega) (by omega) (by omega) (by omega)]; exact p7 p hp
        · have := p8 p hp
          show PMj _ B b p (π.2.2.2.1 p)
          unfold PMj at this ⊢
          rw [old _ _ (by omega) (by omega) (by omega) (by omega) (by omega), old _ _ (by omega) (by omega) (by omega) (by omega) (by omega)]
          exact this
        · show PIf _ B b (c + cs.length) i (fu π.2.2.2.2 w (some cs) i)
          by_cases zi : i = w
          · rw [zi, fu_eq]
            refine ⟨c, ?_, ?_, Nat.le_refl _, fun j o hj => ?_⟩
            · rw [up2_r (by omega), b6 _ _ (by omega) (by omega) (by omega), hF, up2_eq]
            · rw [up2_eq]; exact b4.1
            · rw [up2_r (by omega), up2_r (by omega)]
              exact b4.2 j o hj
          · rw [fu_ne zi]
            have := p9 i hi
            unfold PIf at this ⊢
            cases hf : π.2.2.2.2 i with
            | none =>
              rw [hf] at this
              show up2 f3 (B + 12) (4 * b + w) (f3 B 28) (B + 11) (4 * b + i) = -1
              rw [old _ _ (by omega) (by omega) (by omega) (by omega) (by omega)]; exact this
            | some ops =>
              rw [hf] at this
              obtain ⟨c1, q1, q2, q3, q4⟩ := this
              refine ⟨c1, ?_, ?_, by omega, fun j o hj => ?_⟩
              · rw [old _ _ (by omega) (by omega) (by omega) (by omega) (by omega)]; exact q1
              · rw [old _ _ (by omega) (by omega) (by omega) (by omega) (by omega)]; exact q2
              · have hj2 := (List.getElem?_eq_some_iff.mp hj).1
                rw [old _ _ (by omega) (by omega) (by omega) (by omega) (by omega), old _ _ (by omega) (by omega) (by omega) (by omega) (by omega)]
                exact q4 j o hj
        · rw [b7 _ _ (by omega), a2 _ _ (by omega)]; exact p10 p hp
      · exact (hfb.tr b6.fb).up (Or.inr (Or.inr (Or.inl ⟨Or.inr (Or.inr rfl), by omega, by omega⟩)))
      · exact (a2.tr b7).gb
    rw [nI_0' (by omega)]
    refine ⟨fun cw => ?_, fun cw => ?_⟩
    · rw [decide_eq_false cw] at core; exact core
    · rw [decide_eq_true cw] at core; exact core
  · exact H f2 g (by unfold forD at a2; exact a2) a1 GB.rf
end MRD
