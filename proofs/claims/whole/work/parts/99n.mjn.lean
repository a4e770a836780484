/-! the reference inside a formula: what is held back is joined; one step of the reading -/
def rkO (x : Nat) : Nat := if x = 42 then 1 else if x = 41 then 2 else if x = 43 then 3 else if x = 38 ∨ x = 39 ∨ x = 40 then 4 else if x = 31 ∨ x = 32 then 5 else 6
def JF (l : Launch) (G : Gx) (d : Nat) (Q : Option Value → Hp → Prop) (sh : Sh) (fR : FRt) (B : Nat) (f : FI) (g : FL) (a1 : Int32) : Prop := inb ((f B 36) - (nI 1)) 20 ∧ (((f B 39) ≤ (f (B + 20) ((f B 36) - (nI 1)).toNatClampNeg) → Q none (sh, f, g, fR)) ∧ (¬ (f B 39) ≤ (f (B + 20) ((f B 36) - (nI 1)).toNatClampNeg) → inb ((f B 39) - (nI 1)) 500 ∧ Cl l G d 0 0 mX12_rank [.int (f (B + 21) ((f B 39) - (nI 1)).toNatClampNeg)] (sh, f, g, fR) (qi sh fR fun x18 f16 g17 => ((x18 < a1 → Q none (sh, f16, g17, fR)) ∧ (¬ x18 < a1 → inb ((f16 B 39) - (nI 1)) 500 ∧ inb (((nI 1600) * (f16 B 29)) + (f16 B 28)) 3200 ∧ inb (((nI 1600) * (f16 B 29)) + (f16 B 28)) 3200 ∧ inb ((f16 B 39) - (nI 1)) 500 ∧ ((¬ (f16 (B + 21) ((f16 B 39) - (nI 1)).toNatClampNeg) = (nI 43) → LpX12_joins_0 l G d Q sh fR B (up2 (up2 (up2 (up2 f16 B 39 ((f16 B 39) - (nI 1))) (B + 13) (((nI 1600) * (f16 B 29)) + (f16 B 28)).toNatClampNeg (f16 (B + 21) ((f16 B 39) - (nI 1)).toNatClampNeg)) (B + 14) (((nI 1600) * (f16 B 29)) + (f16 B 28)).toNatClampNeg (nI 0)) B 28 ((f16 B 28) + (nI 1))) g17 a1) ∧ ((f16 (B + 21) ((f16 B 39) - (nI 1)).toNatClampNeg) = (nI 43) → LpX12_joins_0 l G d Q sh fR B (up2 (up2 (up2 (up2 (up2 f16 B 39 ((f16 B 39) - (nI 1))) (B + 13) (((nI 1600) * (f16 B 29)) + (f16 B 28)).toNatClampNeg (f16 (B + 21) ((f16 B 39) - (nI 1)).toNatClampNeg)) (B + 14) (((nI 1600) * (f16 B 29)) + (f16 B 28)).toNatClampNeg (nI 0)) B 28 ((f16 B 28) + (nI 1))) B 37 ((f16 B 37) - (nI 1))) g17 a1)))))))
def opL (po : List Nat) : List Op := po.reverse.map (fun x => (x, 0))
theorem opL_1 {x : Nat} : opL [x] = [(x, 0)] := rfl
theorem opL_ap {a b : List Nat} : opL (a ++ b) = opL b ++ opL a := by unfold opL; rw [List.reverse_append, List.map_append]
theorem opL_len {a : List Nat} : (opL a).length = a.length := by unfold opL; rw [List.length_map, List.length_reverse]
section JN
variable {l : Launch} {G : Gx} {d : Nat} {sh : Sh} {fR : FRt} {f : FI} {g : FL} {B : Nat} {tp : List Nat} {b c0 w e : Nat} {cs : List Op} {o bu k ph pr : Nat} {bg : Bool} {os : List Nat} {t : List Frr}
theorem M_rank {K : Int32 → FI → FL → Prop} {x : Nat} (hs : StM sh fR B) (hx : 31 ≤ x ∧ x ≤ 43) (H : K (nI (rkO x)) f g) : Cl l G d 0 0 mX12_rank [.int (nI x)] (sh, f, g, fR) (qi sh fR K) := by
  refine VX12_rank hs ?_
  rcases (show x = 31 ∨ x = 32 ∨ x = 33 ∨ x = 34 ∨ x = 35 ∨ x = 36 ∨ x = 37 ∨ x = 38 ∨ x = 39 ∨ x = 40 ∨ x = 41 ∨ x = 42 ∨ x = 43 by omega) with rfl | rfl | rfl | rfl | rfl | rfl | rfl | rfl | rfl | rfl | rfl | rfl | rfl
  all_goals repeat' first | exact ⟨_, _, _, rfl, rfl, H⟩ | refine ⟨?_, ?_⟩ | (intro c; first | exact absurd c (by decide) | exact absurd rfl c | skip)
theorem MF.pop {x n : Nat} {v : Int32} (h : MF f g B tp b c0 w e cs ((k, ph, bg, pr, os ++ [x]) :: t) o bu) (hn : n = (flatF ((k, ph, bg, pr, os) :: t)).length) (hv : v = nI n) : MF (up2 f B 39 v) g B tp b c0 w e cs ((k, ph, bg, pr, os) :: t) o bu := by
  obtain ⟨h1, h2, h3, h4, h5, h6, h7, h8⟩ := h
  have kk : ∀ r i, (r ≠ B ∨ i ≠ 39) → up2 f B 39 v r i = f r i := fun r i z => by rw [up2_ne (by omega)]
  have ef : flatF ((k, ph, bg, pr, os ++ [x]) :: t) = flatF ((k, ph, bg, pr, os) :: t) ++ [x] := by
    show flatF t ++ (os ++ [x]) = flatF t ++ os ++ [x]
    rw [List.append_assoc]
  rw [ef] at h6 h8
  rw [List.length_append, List.length_singleton] at h8
  have e1 : npr ((k, ph, bg, pr, os ++ [x]) :: t) = npr ((k, ph, bg, pr, os) :: t) := rfl
  rw [e1] at h8
  have h4' : StkF (up2 f B 39 v) B ((k, ph, bg, pr, os ++ [x]) :: t) := h4.kp (fun j i a b c => kk _ _ (by omega))
  refine ⟨h1.kp (fun i hi => kk _ _ (by omega)) (fun i => kk _ _ (by omega)), ⟨by rw [kk _ _ (by omega)]; exact h2.1, h2.2.1, by rw [kk _ _ (by omega)]; exact h2.2.2.1, h2.2.2.2⟩, ⟨by rw [kk _ _ (by omega)]; exact h3.1, fun j o hj => by rw [kk _ _ (by omega), kk _ _ (by omega)]; exact h3.2 j o hj⟩, h4', ⟨by rw [kk _ _ (by omega)]; exact h5.1, h5.2⟩, ⟨by rw [up2_eq, hv, hn], ?_, fun i y hi => ?_⟩, ⟨by rw [kk _ _ (by omega)]; exact h7.1, h7.2⟩, by omega⟩
  · have := h6.2.1
    rw [List.length_append] at this
    omega
  · rw [kk _ _ (by omega)]
    refine h6.2.2 i y ?_
    rw [List.getElem?_append_left (List.getElem?_eq_some_iff.mp hi).1]
    exact hi
theorem L_jn {Q : Option Value → Hp → Prop} {lv : Nat} (hs : StM sh fR B) (hlv : lv ≤ 6) (hos : ∀ x ∈ os, rkO x < lv) : ∀ (n : Nat) (po : List Nat) (f : FI) (cs : List Op) (o : Nat), po.length = n → MF f g B tp b c0 w e cs ((k, ph, bg, pr, os ++ po) :: t) o bu → (∀ x ∈ po, lv ≤ rkO x) → po.count 43 ≤ o → (∀ f', MF f' g B tp b c0 w e (cs ++ opL po) ((k, ph, bg, pr, os) :: t) (o - po.count 43) bu → Fq B b c0 f f' → f' B 40 = f B 40 → Q none (sh, f', g, fR)) → JF l G d Q sh fR B f g (nI lv) := by
  intro n
  induction n with
  | zero =>
    intro po f cs o hn hM hpo hoc H
    have : po = [] := List.eq_nil_of_length_eq_zero hn
    subst this
    have H' := H f (by unfold opL; rw [List.append_nil] at hM; simpa using hM) Fq.rf rfl
    rw [List.append_nil] at hM
    obtain ⟨h1, h2, h3, ⟨⟨r1, r2, r3, r4, r5, r6, r7, r8⟩, h4'⟩, h5, h6, h7, h8⟩ := hM
    have hl5 := h5.2
    rw [List.length_cons] at hl5
    have h110 := h6.2.1
    have ef : flatF ((k, ph, bg, pr, os) :: t) = flatF t ++ os := rfl
    rw [ef] at h6 h110
    rw [List.length_append] at h110
    unfold JF
    rw [h5.1, List.length_cons, pk_sub (by omega), show t.length + 1 - 1 = t.length by omega, clN (by omega), r5, h6.1, List.length_append, nI_leI (by omega) (by omega)]
    refine ⟨inbN (by omega) (by decide), fun _ => H', fun c => ?_⟩
    rw [pk_sub (by omega), clN (by omega)]
    have hlt : (flatF t).length + os.length - 1 < (flatF t ++ os).length := by rw [List.length_append]; omega
    obtain ⟨x, hx⟩ : ∃ x, (flatF t ++ os)[(flatF t).length + os.length - 1]? = some x := ⟨_, List.getElem?_eq_getElem hlt⟩
    have hxm : x ∈ os := by
      rw [List.getElem?_append_right (by omega)] at hx
      exact List.mem_of_getElem? hx
    obtain ⟨e1, e2⟩ := h6.2.2 _ x hx
    rw [e1]
    have hr := hos x hxm
    exact ⟨inbN (by omega) (by decide), M_rank hs e2 ⟨fun _ => H', fun z => absurd (nI_lt hr (by omega)) z⟩⟩
  | succ n ih =>
    intro po f cs o hn hM hpo hoc H
    have hne : po ≠ [] := fun z => by rw [z] at hn; cases hn
    obtain ⟨po, x, rfl⟩ : ∃ p x, po = p ++ [x] := ⟨_, _, (List.dropLast_concat_getLast hne).symm⟩
    rw [List.length_append, List.length_singleton] at hn
    have hM0 := hM
    obtain ⟨h1, h2, h3, ⟨⟨r1, r2, r3, r4, r5, r6, r7, r8⟩, h4'⟩, h5, h6, h7, h8⟩ := hM
    have hl5 := h5.2
    rw [List.length_cons] at hl5
    have h110 := h6.2.1
    have ef : flatF ((k, ph, bg, pr, os ++ (po ++ [x])) :: t) = flatF ((k, ph, bg, pr, os ++ po) :: t) ++ [x] := by
      show flatF t ++ (os ++ (po ++ [x])) = flatF t ++ (os ++ po) ++ [x]
      rw [List.append_assoc, List.append_assoc]
    have el : (flatF ((k, ph, bg, pr, os ++ po) :: t)).length = (flatF t).length + os.length + po.length := by
      show (flatF t ++ (os ++ po)).length = _
      rw [List.length_append, List.length_append]; omega
    rw [ef] at h6 h110 h8
    rw [List.length_append, List.length_singleton] at h110 h8
    have hnp : npr ((k, ph, bg, pr, os ++ (po ++ [x])) :: t) = npr ((k, ph, bg, pr, os ++ po) :: t) := rfl
    rw [hnp] at h8
    obtain ⟨e1, e2⟩ := h6.2.2 (flatF ((k, ph, bg, pr, os ++ po) :: t)).length x (by rw [List.getElem?_append_right (Nat.le_refl _), Nat.sub_self]; rfl)
    have hr := hpo x (List.mem_append_right _ (List.mem_singleton_self _))
    have hr6 : rkO x ≤ 6 := by unfold rkO; (repeat' split) <;> omega
    have hlc : (nI 1600 * nI b + nI (c0 + cs.length)).toNatClampNeg = 1600 * b + (c0 + cs.length) := by rw [pk_mul, nI_add, clN (by have := h2.2.1; omega)]
    have hin : inb (nI 1600 * nI b + nI (c0 + cs.length)) 3200 := by rw [pk_mul, nI_add]; exact inbN (by have := h2.2.1; omega) (by decide)
    have hM0' : MF f g B tp b c0 w e cs ((k, ph, bg, pr, (os ++ po) ++ [x]) :: t) o bu := by rw [List.append_assoc]; exact hM0
    have hP := hM0'.pop (v := nI (flatF ((k, ph, bg, pr, os ++ po) :: t)).length) rfl rfl
    have hC := hP.code (x := ((x, 0) : Op)) (v1 := nI x) (v2 := nI 0) (v3 := nI (c0 + cs.length + 1)) (bu' := bu) (n := 1600 * b + (c0 + cs.length)) rfl (by rw [List.length_append, List.length_singleton]; omega) (by omega) rfl rfl rfl
    have hFq : Fq B b c0 f (up2 (up2 (up2 (up2 f B 39 (nI (flatF ((k, ph, bg, pr, os ++ po) :: t)).length)) (B + 13) (1600 * b + (c0 + cs.length)) (nI x)) (B + 14) (1600 * b + (c0 + cs.length)) (nI 0)) B 28 (nI (c0 + cs.length + 1))) := (((Fq.rf.up0 (by omega)).upC (by omega) (by omega)).upC (by omega) (by omega)).up0 (by omega)
    have ec : (po ++ [x]).count 43 = po.count 43 + (if x = 43 then 1 else 0) := by
      rw [List.count_append]
      by_cases z : x = 43
      · subst z; simp
      · simp [z]
    have eo : cs ++ opL (po ++ [x]) = cs ++ [((x, 0) : Op)] ++ opL po := by rw [opL_ap, opL_1, List.append_assoc]
    rw [eo] at H
    unfold JF
    rw [h5.1, List.length_cons, pk_sub (by omega), show t.length + 1 - 1 = t.length by omega, clN (k := t.length) (by omega), r5, h6.1, List.length_append, List.length_singleton, nI_leI (by omega) (by omega)]
    refine ⟨inbN (by omega) (by decide), fun c => by omega, fun _ => ?_⟩
    rw [pk_sub (by omega), Nat.add_sub_cancel, clN (by omega), e1]
    refine ⟨inbN (by omega) (by decide), M_rank hs e2 ⟨fun z => absurd z (nI_nlt hr (by omega)), fun _ => ?_⟩⟩
    rw [h6.1, List.length_append, List.length_singleton, pk_sub (by omega), Nat.add_sub_cancel, clN (by omega), e1, h2.1, h3.1, hlc, nI_add, nI_eq (by omega) (by decide)]
    refine ⟨inbN (by omega) (by decide), hin, hin, inbN (by omega) (by decide), fun z => ?_, fun z => ?_⟩
    · rw [if_neg z, Nat.add_zero] at ec
      rw [ec] at H hoc
      exact VX12_joins_0 hs (ih po _ _ o (by omega) hC (fun y hy => hpo y (List.mem_append_left _ hy)) hoc (fun f' a1 a2 a3 => H f' a1 (hFq.tr a2) (by rw [a3, up2_k (by decide), up2_r (by omega), up2_r (by omega), up2_k (by decide)])))
    · rw [if_pos z] at ec
      rw [ec] at H hoc
      rw [h7.1, pk_sub (by omega)]
      have h77 := h7.2
      have hO := hC.opn (v := nI (o - 1)) (o' := o - 1) rfl (by omega)
      refine VX12_joins_0 hs (ih po _ _ (o - 1) (by omega) hO (fun y hy => hpo y (List.mem_append_left _ hy)) (by omega) (fun f' a1 a2 a3 => H f' (by rw [show o - (po.count 43 + 1) = o - 1 - po.count 43 by omega]; exact a1) ((hFq.up0 (by omega)).tr a2) (by rw [a3, up2_k (by decide), up2_k (by decide), up2_r (by omega), up2_r (by omega), up2_k (by decide)])))
theorem M_joins {K : FI → FL → Prop} {lv : Nat} {po : List Nat} (hs : StM sh fR B) (hlv : lv ≤ 6) (hos : ∀ x ∈ os, rkO x < lv) (hM : MF f g B tp b c0 w e cs ((k, ph, bg, pr, os ++ po) :: t) o bu) (hpo : ∀ x ∈ po, lv ≤ rkO x) (hoc : po.count 43 ≤ o) (H : ∀ f', MF f' g B tp b c0 w e (cs ++ opL po) ((k, ph, bg, pr, os) :: t) (o - po.count 43) bu → Fq B b c0 f f' → f' B 40 = f B 40 → K f' g) : Cl l G (d + 1) 0 0 mX12_joins [.ref B, .int (nI lv)] (sh, f, g, fR) (qv sh fR K) :=
  VX12_joins hs (L_jn (Q := qv sh fR K) hs hlv hos _ po f cs o rfl hM hpo hoc (fun f' a1 a2 a3 => ⟨_, _, rfl, rfl, H f' a1 a2 a3⟩))
/-- a frame is opened -/
theorem MF.frame {kd pr' n : Nat} {v1 v2 v3 v4 v5 : Int32} {fs : List Frr} {F : FI} {bu' : Nat} (h : MF f g B tp b c0 w e cs fs o bu) (hn : n = fs.length) (hl : fs.length ≤ 8) (hk : kd ≤ 6) (hp : pr' ≤ 44) (e1 : v1 = nI kd) (e2 : v2 = nI 0) (e3 : v3 = nI 1) (e4 : v4 = nI (flatF fs).length) (e5 : v5 = nI (fs.length + 1)) (hF : ∀ r k, ¬ (r = B + 19 ∧ k = fs.length) → F r k = up2 (up2 (up2 (up2 (up2 f (B + 16) n v1) (B + 17) n v2) (B + 18) n v3) (B + 20) n v4) B 36 v5 r k) (hF2 : isP kd = 1 → F (B + 19) fs.length = nI pr') (hb : bu + isP kd ≤ bu') (hb2 : bu' ≤ 1600) : MF F g B tp b c0 w e cs ((kd, 0, true, pr', []) :: fs) o bu' := by
  obtain ⟨h1, h2, h3, h4, h5, h6, h7, h8⟩ := h
  subst hn
  have kk : ∀ r i, (r ≠ B ∨ i ≠ 36) → (¬ (B + 16 ≤ r ∧ r ≤ B + 20) ∨ i ≠ fs.length) → F r i = f r i := fun r i z z2 => by rw [hF _ _ (by omega), up2_ne (by omega), up2_ne (by omega), up2_ne (by omega), up2_ne (by omega), up2_ne (by omega)]
  have ef : flatF ((kd, 0, true, pr', []) :: fs) = flatF fs := by show flatF fs ++ [] = _; rw [List.append_nil]
  refine ⟨h1.kp (fun i hi => kk _ _ (by omega) (by omega)) (fun i => kk _ _ (by omega) (by omega)), ⟨by rw [kk _ _ (by omega) (by omega)]; exact h2.1, h2.2.1, by rw [kk _ _ (by omega) (by omega)]; exact h2.2.2.1, h2.2.2.2⟩, ⟨by rw [kk _ _ (by omega) (by omega)]; exact h3.1, fun j o hj => by rw [kk _ _ (by omega) (by omega), kk _ _ (by omega) (by omega)]; exact h3.2 j o hj⟩, ⟨⟨?_, ?_, ?_, hF2, ?_, hk, Nat.zero_le _, hp⟩, h4.kp (fun j i a b c => kk _ _ (by omega) (by omega))⟩, ⟨?_, by rw [List.length_cons]; omega⟩, ⟨by rw [ef, kk _ _ (by omega) (by omega)]; exact h6.1, by rw [ef]; exact h6.2.1, fun i x hi => by rw [ef] at hi; rw [kk _ _ (by omega) (by omega)]; exact h6.2.2 i x hi⟩, ⟨by rw [kk _ _ (by omega) (by omega)]; exact h7.1, h7.2⟩, ?_, hb2⟩
  · rw [hF _ _ (by omega), up2_r (by omega), up2_r (by omega), up2_r (by omega), up2_r (by omega), up2_eq, e1]
  · rw [hF _ _ (by omega), up2_r (by omega), up2_r (by omega), up2_r (by omega), up2_eq, e2]
  · rw [hF _ _ (by omega), up2_r (by omega), up2_r (by omega), up2_eq, e3]; rfl
  · rw [hF _ _ (by omega), up2_r (by omega), up2_eq, e4]
  · rw [hF _ _ (by omega), up2_eq, e5, List.length_cons]
  · rw [ef]
    show c0 + cs.length + (flatF fs).length + (npr fs + isP kd) ≤ bu'
    omega
end JN
/-! the reading goes on from such a state; it ends with a fault -/
def Lq (l : Launch) (G : Gx) (d : Nat) (sh : Sh) (fR : FRt) (B : Nat) (tp : List Nat) (b c0 w : Nat) (K : FI → FL → Prop) (f0 : FI) (g0 : FL) (e : Nat) (cs : List Op) (fs : List Frr) (o : Nat) (opd : Bool) : Prop := ∀ f g, MF f g B tp b c0 w e cs fs o e → f B 40 = bI opd → Fq B b c0 f0 f → Fg B g0 g → LpX12_reads_43 l G d (qv sh fR K) sh fR B f g (nI 1)
def Le (B : Nat) (tp : List Nat) (b c0 : Nat) (K : FI → FL → Prop) (f0 : FI) (g0 : FL) (x : Nat × Nat) : Prop := ∀ f g, MS f g B tp (.error x) → Fq B b c0 f0 f → Fg B g0 g → K f g
