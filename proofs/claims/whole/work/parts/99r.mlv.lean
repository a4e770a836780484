/-! the reference inside a formula: its reading is the grammar's -/
def enS (tp : List Nat) (lv e : Nat) : Prop := (lv ≤ 6 → opM tp e = none) ∧ (lv ≤ 5 → opA tp e = none)
def enF (tp : List Nat) (lv ph e : Nat) : Prop := (ph < 2 → opA tp e = none ∧ opM tp e = none) ∧ (lv ≤ 2 → opN tp e = none) ∧ (lv ≤ 1 → opO tp e = none)
def RdS (l : Launch) (G : Gx) (d : Nat) (sh : Sh) (fR : FRt) (B : Nat) (tp : List Nat) (b c0 w : Nat) (K : FI → FL → Prop) (f0 : FI) (g0 : FL) (o lv ad : Nat) (D : Nat → Rf) : Prop := ∀ (e : Nat) (cs : List Op) (k ph pr : Nat) (bg : Bool) (os : List Nat) (t : List Frr), e ≤ tp.length → ph < 2 → (tsF (k, ph, bg, pr, os) = true → isW tp e 25 = false ∧ isSg tp e 91 = false ∧ isW tp e 26 = false) → (∀ x ∈ os, rkO x < lv) → t.length ≤ o → (flatF t).length + os.length ≤ 12 * o + ad → (∀ x, D e = .error x → Le B tp b c0 K f0 g0 x) → (∀ e' c, D e = .ok (e', c) → ∀ c1 po, c = c1 ++ opL po → (∀ x ∈ po, lv ≤ rkO x) → enS tp lv e' → Lq l G d sh fR B tp b c0 w K f0 g0 e' (cs ++ c1) ((k, ph, false, pr, os ++ po) :: t) o true) → Lq l G d sh fR B tp b c0 w K f0 g0 e cs ((k, ph, bg, pr, os) :: t) o false
def RdF (l : Launch) (G : Gx) (d : Nat) (sh : Sh) (fR : FRt) (B : Nat) (tp : List Nat) (b c0 w : Nat) (K : FI → FL → Prop) (f0 : FI) (g0 : FL) (o lv lo ad : Nat) (D : Nat → Rf) : Prop := ∀ (e : Nat) (cs : List Op) (k pr : Nat) (os : List Nat) (t : List Frr), e ≤ tp.length → tsK k = true → (∀ x ∈ os, rkO x < lo) → t.length ≤ o → (flatF t).length + os.length ≤ 12 * o + ad → (∀ x, D e = .error x → Le B tp b c0 K f0 g0 x) → (∀ e' c, D e = .ok (e', c) → ∀ c1 po ph, c = c1 ++ opL po → (∀ x ∈ po, lv ≤ rkO x) → ph = 1 ∨ ph = 2 → enF tp lv ph e' → Lq l G d sh fR B tp b c0 w K f0 g0 e' (cs ++ c1) ((k, ph, false, pr, os ++ po) :: t) (o + po.count 43) true) → Lq l G d sh fR B tp b c0 w K f0 g0 e cs ((k, 0, true, pr, os) :: t) o false
section RLV
variable {l : Launch} {G : Gx} {d : Nat} {sh : Sh} {fR : FRt} {B : Nat} {tp : List Nat} {b c0 w : Nat} {K : FI → FL → Prop} {f0 : FI} {g0 : FL} {e o m : Nat} {cs : List Op} {k ph pr : Nat} {bg : Bool} {os po : List Nat} {t : List Frr}
theorem Lq.to {cs' : List Op} {fs fs' : List Frr} {o' : Nat} {bb : Bool} (h : Lq l G d sh fR B tp b c0 w K f0 g0 e cs fs o bb) (h1 : cs = cs') (h2 : fs = fs') (h3 : o = o') : Lq l G d sh fR B tp b c0 w K f0 g0 e cs' fs' o' bb := by
  subst h1; subst h2; subst h3; exact h
theorem opL_c {x : Nat} {po : List Nat} : opL (x :: po) = opL po ++ [(x, 0)] := by
  rw [show x :: po = [x] ++ po from rfl, opL_ap, opL_1]
theorem opA_r {x : Nat} (h : opA tp e = some x) : rkO x = 5 := by
  rcases (opA_K h).2 with rfl | rfl <;> decide
theorem opM_r {x : Nat} (h : opM tp e = some x) : rkO x = 6 := by
  rcases (opM_K h).2 with rfl | rfl | rfl <;> decide
theorem tsF_f {k ph pr : Nat} {os : List Nat} : tsF (k, ph, false, pr, os) = false := by unfold tsF; rw [Bool.and_false]
theorem G_cls' {k2 ph2 pr2 : Nat} {bg2 : Bool} {os2 : List Nat} (hs : StM sh fR B) (hk : k = 2 ∨ k = 4 ∨ k = 5) (hE : endK tp k ph e) (hoc : os.count 43 + 1 ≤ o) (H1 : ∀ e', exS tp (if k = 5 then 93 else 41) e = .ok e' → Lq l G d sh fR B tp b c0 w K f0 g0 e' (cs ++ opL os ++ (if k = 4 then [(pr, 0)] else [])) ((k2, if k = 5 then 2 else ph2, bg2, pr2, os2) :: t) (o - os.count 43 - 1) true) (H2 : ∀ x, exS tp (if k = 5 then 93 else 41) e = .error x → Le B tp b c0 K f0 g0 x) : Lq l G d sh fR B tp b c0 w K f0 g0 e cs ((k, ph, bg, pr, os) :: (k2, ph2, bg2, pr2, os2) :: t) o true := by
  refine G_cls hs hk hE hoc ?_
  cases h : exS tp (if k = 5 then 93 else 41) e with
  | ok e' => exact H1 e' h
  | error x => exact H2 x h
theorem G_com' (hs : StM sh fR B) (hk : k = 3 ∨ k = 6) (hE : endK tp k ph e) (hoc : os.count 43 ≤ o) (H1 : ∀ e', exS tp 44 e = .ok e' → Lq l G d sh fR B tp b c0 w K f0 g0 e' (cs ++ opL os) ((if k = 3 then 4 else 3, 0, bg, pr, []) :: t) (o - os.count 43) false) (H2 : ∀ x, exS tp 44 e = .error x → Le B tp b c0 K f0 g0 x) : Lq l G d sh fR B tp b c0 w K f0 g0 e cs ((k, ph, bg, pr, os) :: t) o true := by
  refine G_com hs hk hE hoc ?_
  cases h : exS tp 44 e with
  | ok e' => exact H1 e' h
  | error x => exact H2 x h
theorem G_cmp' (hs : StM sh fR B) (hk : tsK k = true) (hn : opA tp e = none ∧ opM tp e = none) (hos : ∀ x ∈ os, rkO x < 5) (hpo : ∀ x ∈ po, 5 ≤ rkO x) (hl : (flatF ((k, 0, bg, pr, os) :: t)).length < 110) (H1 : ∀ y, cmpD tp e = .ok y → Lq l G d sh fR B tp b c0 w K f0 g0 y.1 (cs ++ opL po) ((k, 1, bg, pr, os ++ [y.2]) :: t) o false) (H2 : ∀ x, cmpD tp e = .error x → Le B tp b c0 K f0 g0 x) : Lq l G d sh fR B tp b c0 w K f0 g0 e cs ((k, 0, bg, pr, os ++ po) :: t) o true := by
  refine G_cmp hs hk hn hos hpo hl ?_
  cases h : cmpD tp e with
  | ok e' => exact H1 e' h
  | error x => exact H2 x h
theorem R_lp {op : Nat → Option Nat} {D : Nat → Rf} {lv ad H : Nat} (hs : StM sh fR B) (hD : RdS l G d sh fR B tp b c0 w K f0 g0 o (lv + 1) (ad + 1) D) (hG : Gd tp w false H D) (hop : ∀ e x, op e = some x → (opA tp e = some x ∧ lv = 5) ∨ (opM tp e = some x ∧ lv = 6)) (hend : ∀ e, enS tp (lv + 1) e → op e = none → enS tp lv e) (had : 12 * o + ad < 110) (hp : ph < 2) (hos : ∀ x ∈ os, rkO x < lv) (ht : t.length ≤ o) (hf : (flatF t).length + os.length ≤ 12 * o + ad) : ∀ (n e : Nat) (cs c1 : List Op) (po : List Nat), e ≤ tp.length → tp.length < n + e → (∀ x ∈ po, lv ≤ rkO x) → enS tp (lv + 1) e → (∀ x, lpD tp op D n e = .error x → Le B tp b c0 K f0 g0 x) → (∀ e' c, lpD tp op D n e = .ok (e', c) → ∀ c1' po', c1 ++ opL po ++ c = c1' ++ opL po' → (∀ x ∈ po', lv ≤ rkO x) → enS tp lv e' → Lq l G d sh fR B tp b c0 w K f0 g0 e' (cs ++ c1') ((k, ph, false, pr, os ++ po') :: t) o true) → Lq l G d sh fR B tp b c0 w K f0 g0 e (cs ++ c1) ((k, ph, false, pr, os ++ po) :: t) o true := by
  intro n
  induction n with
  | zero => intro e cs c1 po he hn; omega
  | succ n ih =>
    intro e cs c1 po he hn hpo hen HE HK
    cases ho : op e with
    | none =>
      have e1 : lpD tp op D (n + 1) e = .ok (e, []) := by rw [lpD, ho]
      exact HK e [] e1 c1 po (by rw [List.append_nil]) hpo (hend e hen ho)
    | some x =>
      have hx := hop e x ho
      have hK : tkK tp e ≠ 0 := by
        rcases hx with z | z
        · have := (opA_K z.1).1; omega
        · have := (opM_K z.1).1; omega
      have hr : rkO x = lv := by
        rcases hx with z | z
        · rw [opA_r z.1, z.2]
        · rw [opM_r z.1, z.2]
      have e1 : lpD tp op D (n + 1) e = bd (D (tkE tp e)) (fun q => bd (lpD tp op D n q.1) (fun q2 => .ok (q2.1, q.2 ++ (x, 0) :: q2.2))) := by rw [lpD, ho]
      rw [e1] at HE HK
      refine G_ari hs hp hx hos hpo (by show (flatF t ++ os).length < 110; rw [List.length_append]; omega) ?_
      refine hD (tkE tp e) _ k ph pr false (os ++ [x]) t (tkE_le he) hp (fun z => by rw [tsF_f] at z; cases z) (fun y hy => ?_) ht (by rw [List.length_append, List.length_singleton]; omega) (fun y hy => HE y (by rw [hy]; rfl)) (fun e' c hc c1' po' h1 h2 h3 => ?_)
      · rcases List.mem_append.mp hy with hy | hy
        · have := hos y hy; omega
        · rw [List.mem_singleton] at hy; subst hy; omega
      · obtain ⟨g1, g2, -⟩ := hG _ e' c (tkE_le he) hc
        have hE := tkE_gte hK
        rw [hc, bd_ok] at HE HK
        refine (ih e' cs (c1 ++ opL po ++ c1') (x :: po') g2 (by omega) (fun y hy => ?_) h3 (fun y hy => HE y (by show bd (lpD tp op D n e') _ = _; rw [hy]; rfl)) (fun e2 c2 hc2 c1'' po'' q1 q2 q3 => HK e2 (c ++ (x, 0) :: c2) (by show bd (lpD tp op D n e') _ = _; rw [hc2]; rfl) c1'' po'' ?_ q2 q3)).to (by simp only [List.append_assoc]) (by simp only [List.append_assoc, List.singleton_append]) rfl
        · rcases List.mem_cons.mp hy with rfl | hy
          · omega
          · have := h2 y hy; omega
        · rw [← q1, h1, opL_c]
          simp only [List.append_assoc, List.singleton_append]
theorem R_ch {op : Nat → Option Nat} {D : Nat → Rf} {lv ad H : Nat} (hs : StM sh fR B) (h16 : tp.length ≤ 1600) (hD : RdS l G d sh fR B tp b c0 w K f0 g0 o (lv + 1) (ad + 1) D) (hG : Gd tp w false H D) (hop : ∀ e x, op e = some x → (opA tp e = some x ∧ lv = 5) ∨ (opM tp e = some x ∧ lv = 6)) (hend : ∀ e, enS tp (lv + 1) e → op e = none → enS tp lv e) (had : 12 * o + ad < 110) : RdS l G d sh fR B tp b c0 w K f0 g0 o lv ad (chD tp op D) := by
  intro e cs k ph pr bg os t he hp hts hos ht hf HE HK
  have e1 : chD tp op D e = bd (D e) (fun q => bd (lpD tp op D 1600 q.1) (fun q2 => .ok (q2.1, q.2 ++ q2.2))) := rfl
  rw [e1] at HE HK
  refine hD e cs k ph pr bg os t he hp hts (fun x hx => by have := hos x hx; omega) ht (by omega) (fun y hy => HE y (by rw [hy]; rfl)) (fun e' c hc c1 po h1 h2 h3 => ?_)
  obtain ⟨g1, g2, -⟩ := hG e e' c he hc
  rw [hc, bd_ok] at HE HK
  exact R_lp hs hD hG hop hend had hp hos ht hf 1600 e' cs c1 po g2 (by omega) (fun x hx => by have := h2 x hx; omega) h3 (fun y hy => HE y (by show bd (lpD tp op D 1600 e') _ = _; rw [hy]; rfl)) (fun e2 c2 hc2 c1' po' q1 q2 q3 => HK e2 (c ++ c2) (by show bd (lpD tp op D 1600 e') _ = _; rw [hc2]; rfl) c1' po' (by rw [h1]; exact q1) q2 q3)
theorem R_lpF {op : Nat → Option Nat} {D : Nat → Rf} {lv lo ad H : Nat} (hs : StM sh fR B) (hD : RdF l G d sh fR B tp b c0 w K f0 g0 o (lv + 1) lo (ad + 1) D) (hG : Gd tp w true H D) (hop : ∀ e x, op e = some x → (opN tp e = some x ∧ lv = 2) ∨ (opO tp e = some x ∧ lv = 1)) (hend : ∀ ph e, enF tp (lv + 1) ph e → op e = none → enF tp lv ph e) (had : 12 * o + ad < 110) (hlo : lv < lo) (hk : tsK k = true) (hos : ∀ x ∈ os, rkO x < lv) (ht : t.length ≤ o) (hf : (flatF t).length + os.length ≤ 12 * o + ad) : ∀ (n e : Nat) (cs c1 : List Op) (po : List Nat) (ph : Nat), e ≤ tp.length → tp.length < n + e → (∀ x ∈ po, lv ≤ rkO x) → ph = 1 ∨ ph = 2 → enF tp (lv + 1) ph e → (∀ x, lpD tp op D n e = .error x → Le B tp b c0 K f0 g0 x) → (∀ e' c, lpD tp op D n e = .ok (e', c) → ∀ c1' po' ph', c1 ++ opL po ++ c = c1' ++ opL po' → (∀ x ∈ po', lv ≤ rkO x) → ph' = 1 ∨ ph' = 2 → enF tp lv ph' e' → Lq l G d sh fR B tp b c0 w K f0 g0 e' (cs ++ c1') ((k, ph', false, pr, os ++ po') :: t) (o + po'.count 43) true) → Lq l G d sh fR B tp b c0 w K f0 g0 e (cs ++ c1) ((k, ph, false, pr, os ++ po) :: t) (o + po.count 43) true := by
  intro n
  induction n with
  | zero => intro e cs c1 po ph he hn; omega
  | succ n ih =>
    intro e cs c1 po ph he hn hpo hph hen HE HK
    cases ho : op e with
    | none =>
      have e1 : lpD tp op D (n + 1) e = .ok (e, []) := by rw [lpD, ho]
      exact HK e [] e1 c1 po ph (by rw [List.append_nil]) hpo hph (hend ph e hen ho)
    | some x =>
      have hx := hop e x ho
      have hK : tkK tp e ≠ 0 := by
        rcases hx with z | z
        · have := (opN_K z.1).1; omega
        · have := (opO_K z.1).1; omega
      have hx2 : rkO x = lv ∧ x ≠ 43 := by
        rcases hx with z | z
        · rw [(opN_K z.1).2, z.2]; decide
        · rw [(opO_K z.1).2, z.2]; decide
      have e1 : lpD tp op D (n + 1) e = bd (D (tkE tp e)) (fun q => bd (lpD tp op D n q.1) (fun q2 => .ok (q2.1, q.2 ++ (x, 0) :: q2.2))) := by rw [lpD, ho]
      rw [e1] at HE HK
      refine G_ao hs hk (by omega) hx hos hpo (by omega) (by show (flatF t ++ os).length < 110; rw [List.length_append]; omega) ?_
      rw [Nat.add_sub_cancel]
      refine hD (tkE tp e) _ k pr (os ++ [x]) t (tkE_le he) hk (fun y hy => ?_) ht (by rw [List.length_append, List.length_singleton]; omega) (fun y hy => HE y (by rw [hy]; rfl)) (fun e' c hc c1' po' ph' h1 h2 h3 h4 => ?_)
      · rcases List.mem_append.mp hy with hy | hy
        · have := hos y hy; omega
        · rw [List.mem_singleton] at hy; subst hy; omega
      · obtain ⟨g1, g2, -⟩ := hG _ e' c (tkE_le he) hc
        have hE := tkE_gte hK
        rw [hc, bd_ok] at HE HK
        refine (ih e' cs (c1 ++ opL po ++ c1') (x :: po') ph' g2 (by omega) (fun y hy => ?_) h3 h4 (fun y hy => HE y (by show bd (lpD tp op D n e') _ = _; rw [hy]; rfl)) (fun e2 c2 hc2 c1'' po'' ph'' q1 q2 q3 q4 => HK e2 (c ++ (x, 0) :: c2) (by show bd (lpD tp op D n e') _ = _; rw [hc2]; rfl) c1'' po'' ph'' ?_ q2 q3 q4)).to (by simp only [List.append_assoc]) (by simp only [List.append_assoc, List.singleton_append]) (by rw [List.count_cons_of_ne hx2.2])
        · rcases List.mem_cons.mp hy with rfl | hy
          · omega
          · have := h2 y hy; omega
        · rw [← q1, h1, opL_c]
          simp only [List.append_assoc, List.singleton_append]
theorem R_chF {op : Nat → Option Nat} {D : Nat → Rf} {lv lo ad H : Nat} (hs : StM sh fR B) (h16 : tp.length ≤ 1600) (hD : RdF l G d sh fR B tp b c0 w K f0 g0 o (lv + 1) lo (ad + 1) D) (hG : Gd tp w true H D) (hop : ∀ e x, op e = some x → (opN tp e = some x ∧ lv = 2) ∨ (opO tp e = some x ∧ lv = 1)) (hend : ∀ ph e, enF tp (lv + 1) ph e → op e = none → enF tp lv ph e) (had : 12 * o + ad < 110) (hlo : lv < lo) : RdF l G d sh fR B tp b c0 w K f0 g0 o lv lv ad (chD tp op D) := by
  intro e cs k pr os t he hk hos ht hf HE HK
  have e1 : chD tp op D e = bd (D e) (fun q => bd (lpD tp op D 1600 q.1) (fun q2 => .ok (q2.1, q.2 ++ q2.2))) := rfl
  rw [e1] at HE HK
  refine hD e cs k pr os t he hk (fun x hx => by have := hos x hx; omega) ht (by omega) (fun y hy => HE y (by rw [hy]; rfl)) (fun e' c hc c1 po ph h1 h2 h3 h4 => ?_)
  obtain ⟨g1, g2, -⟩ := hG e e' c he hc
  rw [hc, bd_ok] at HE HK
  exact R_lpF hs hD hG hop hend had hlo hk hos ht hf 1600 e' cs c1 po ph g2 (by omega) (fun x hx => by have := h2 x hx; omega) h3 h4 (fun y hy => HE y (by show bd (lpD tp op D 1600 e') _ = _; rw [hy]; rfl)) (fun e2 c2 hc2 c1' po' ph' q1 q2 q3 q4 => HK e2 (c ++ c2) (by show bd (lpD tp op D 1600 e') _ = _; rw [hc2]; rfl) c1' po' ph' (by rw [h1]; exact q1) q2 q3 q4)
theorem enS7 : enS tp 7 e := ⟨fun z => by omega, fun z => by omega⟩
theorem enS.tk {k ph : Nat} (h : enS tp 5 e) (hk : tsK k = false) : endK tp k ph e := ⟨fun _ => ⟨h.2 (by decide), h.1 (by decide)⟩, fun z => by rw [hk] at z; cases z⟩
theorem enF.tk {k ph : Nat} (h : enF tp 1 ph e) (hp : ph = 1 ∨ ph = 2) : endK tp k ph e := ⟨h.1, fun _ => ⟨by omega, h.2.1 (by decide), h.2.2 (by decide)⟩⟩
theorem R_par {sS sT : Nat → Rf} (hs : StM sh fR B) (h16 : tp.length ≤ 1600) (ho : o + m = 7) (hS : o < 7 → RdS l G d sh fR B tp b c0 w K f0 g0 (o + 1) 5 5 sS) (hSG : o < 7 → ∃ H, Gd tp w false H sS) (hT : o < 7 → RdF l G d sh fR B tp b c0 w K f0 g0 (o + 1) 1 1 0 sT) (hTG : o < 7 → ∃ H, Gd tp w true H sT) : RdS l G d sh fR B tp b c0 w K f0 g0 o 7 7 (parD tp w m sS sT) := by
  intro e cs k ph pr bg os t he hp hts hos ht hf HE HK
  by_cases h4 : tkK tp e = 4
  · refine O_brk hs h4 (HE _ ?_)
    unfold parD
    rw [isSg_of (by omega), isW_of (by omega), isW_of (by omega), isW_of (by omega), factS_non (Or.inr (by omega))]
    simp [h4]
  unfold parD at HE HK
  have hfl : (flatF ((k, ph, false, pr, os) :: t)).length + ([] : List Nat).length ≤ 12 * (o + 1) + 0 := by
    show (flatF t ++ os).length + 0 ≤ _
    rw [List.length_append]; omega
  have hfl5 : (flatF ((k, ph, false, pr, os) :: t)).length + ([] : List Nat).length ≤ 12 * (o + 1) + 5 := by omega
  have htl : ((k, ph, false, pr, os) :: t).length ≤ o + 1 := by rw [List.length_cons]; omega
  have fin : ∀ e' c, (∀ c1 po, c = c1 ++ opL po → (∀ x ∈ po, 7 ≤ rkO x) → enS tp 7 e' → Lq l G d sh fR B tp b c0 w K f0 g0 e' (cs ++ c1) ((k, ph, false, pr, os ++ po) :: t) o true) → Lq l G d sh fR B tp b c0 w K f0 g0 e' (cs ++ c) ((k, ph, false, pr, os) :: t) o true := fun e' c h => (h c [] (by rw [show opL [] = [] from rfl, List.append_nil]) (fun x hx => by cases hx) enS7).to rfl (by rw [List.append_nil]) rfl
  by_cases c40 : isSg tp e 40 = true
  · rw [if_pos c40] at HE HK
    refine O_par hs c40 (by omega) (fun o7 => ?_) (fun o7 => HE _ (by unfold opn; rw [if_pos (by omega)]; rfl))
    have hopn : opn tp m e = .ok (tkE tp e) := by unfold opn; rw [if_neg (by omega)]
    rw [hopn, bd_ok] at HE HK
    refine hS (by omega) (tkE tp e) cs 2 0 0 true [] _ (tkE_le he) (by decide) (fun z => by cases z) (fun x hx => by cases hx) htl hfl5 (fun y hy => HE y (by rw [hy]; rfl)) (fun e' c hc c1 po h1 h2 h3 => ?_)
    rw [hc, bd_ok] at HE HK
    have hc0 := cnt0 (po := po) (lv := 5) (by omega) h2
    refine G_cls' hs (Or.inl rfl) (h3.tk rfl) (by rw [List.nil_append, hc0]; omega) (fun e3 hx => ?_) (fun x hx => HE x (by show bd (exS tp 41 e') _ = _; rw [show exS tp 41 e' = .error x from hx]; rfl))
    have hx' : exS tp 41 e' = .ok e3 := hx
    exact (fin e3 c (HK e3 c (by show bd (exS tp 41 e') _ = _; rw [hx']; rfl))).to (by rw [h1, List.nil_append]; simp) rfl (by rw [List.nil_append, hc0]; omega)
  rw [if_neg c40] at HE HK
  have pr2 : ∀ x kx, (x = 36 ∧ kx = 27) ∨ (x = 37 ∧ kx = 28) → isW tp e kx = true → (∀ y, paiD tp m sS x (tkE tp e) = .error y → Le B tp b c0 K f0 g0 y) → (∀ e' c, paiD tp m sS x (tkE tp e) = .ok (e', c) → ∀ c1 po, c = c1 ++ opL po → (∀ x ∈ po, 7 ≤ rkO x) → enS tp 7 e' → Lq l G d sh fR B tp b c0 w K f0 g0 e' (cs ++ c1) ((k, ph, false, pr, os ++ po) :: t) o true) → Lq l G d sh fR B tp b c0 w K f0 g0 e cs ((k, ph, bg, pr, os) :: t) o false := by
    intro x kx hx hw HE HK
    unfold paiD at HE HK
    have hx44 : x ≠ 44 := by omega
    refine O_pair (x := x) (kx := kx) hs (by omega) hw (by omega) (fun z o7 => ?_) (fun z o7 => HE _ (by rw [if_pos z]; unfold opn; rw [if_pos (by omega)]; rfl)) (fun z => HE _ (by rw [z]; rfl))
    have hopn : opn tp m (tkE tp e) = .ok (tkE tp (tkE tp e)) := by unfold opn; rw [if_neg (by omega)]
    rw [if_pos z, hopn, bd_ok] at HE HK
    rw [if_neg hx44]
    refine hS (by omega) (tkE tp (tkE tp e)) cs 3 0 x true [] _ (tkE_le (tkE_le he)) (by decide) (fun z => by cases z) (fun x hx => by cases hx) htl hfl5 (fun y hy => HE y (by rw [hy]; rfl)) (fun e1 q1 hq1 c1 po1 h1 h2 h3 => ?_)
    rw [hq1, bd_ok] at HE HK
    dsimp only at HE HK
    have hc0 := cnt0 (po := po1) (lv := 5) (by omega) h2
    obtain ⟨H, hSG'⟩ := hSG (by omega)
    obtain ⟨-, g2, -⟩ := hSG' _ e1 q1 (tkE_le (tkE_le he)) hq1
    refine G_com' hs (Or.inl rfl) (h3.tk rfl) (by rw [List.nil_append, hc0]; omega) (fun e2 hx2 => ?_) (fun y hy => HE y (by rw [hy]; rfl))
    rw [hx2, bd_ok] at HE HK
    have g3 := (exS_ok hx2 g2).2.2.2
    rw [List.nil_append, hc0, Nat.sub_zero]
    refine hS (by omega) e2 _ 4 0 x false [] _ g3 (by decide) (fun z => by cases z) (fun x hx => by cases hx) htl hfl5 (fun y hy => HE y (by rw [hy]; rfl)) (fun e3 q2 hq2 c2 po2 h1' h2' h3' => ?_)
    rw [hq2, bd_ok] at HE HK
    dsimp only at HE HK
    have hc0' := cnt0 (po := po2) (lv := 5) (by omega) h2'
    refine G_cls' hs (Or.inr (Or.inl rfl)) (h3'.tk rfl) (by rw [List.nil_append, hc0']; omega) (fun e4 hx4 => ?_) (fun y hy => HE y (by rw [show exS tp 41 e3 = .error y from hy]; rfl))
    have hx' : exS tp 41 e3 = .ok e4 := hx4
    exact (fin e4 _ (HK e4 (q1 ++ q2 ++ [(x, 0)]) (by rw [hx']; rfl))).to (by rw [h1, h1', List.nil_append]; simp) rfl (by rw [List.nil_append, hc0']; omega)
  by_cases c22 : isW tp e 22 = true
  · rw [if_pos c22] at HE HK
    unfold choD at HE HK
    refine O_pair (x := 44) hs (by omega) c22 (by omega) (fun z o7 => ?_) (fun z o7 => HE _ (by rw [if_pos z]; unfold opn; rw [if_pos (by omega)]; rfl)) (fun z => HE _ (by rw [z]; rfl))
    have hopn : opn tp m (tkE tp e) = .ok (tkE tp (tkE tp e)) := by unfold opn; rw [if_neg (by omega)]
    rw [if_pos z, hopn, bd_ok] at HE HK
    rw [if_pos rfl]
    obtain ⟨H, hSG'⟩ := hSG (by omega)
    obtain ⟨H', hTG'⟩ := hTG (by omega)
    refine hT (by omega) (tkE tp (tkE tp e)) cs 6 44 [] _ (tkE_le (tkE_le he)) rfl (fun x hx => by cases hx) htl hfl (fun y hy => HE y (by rw [hy]; rfl)) (fun e1 q1 hq1 c1 po1 ph1 h1 h2 h3 h3' => ?_)
    rw [hq1, bd_ok] at HE HK
    dsimp only at HE HK
    obtain ⟨-, g2, -⟩ := hTG' _ e1 q1 (tkE_le (tkE_le he)) hq1
    refine G_com' hs (Or.inr rfl) (h3'.tk h3) (by rw [List.nil_append]; omega) (fun e2 hx2 => ?_) (fun y hy => HE y (by rw [hy]; rfl))
    rw [hx2, bd_ok] at HE HK
    have g3 := (exS_ok hx2 g2).2.2.2
    rw [List.nil_append, Nat.add_sub_cancel]
    refine hS (by omega) e2 _ 3 0 44 false [] _ g3 (by decide) (fun z => by cases z) (fun x hx => by cases hx) htl hfl5 (fun y hy => HE y (by rw [hy]; rfl)) (fun e3 q2 hq2 c2 po2 h1' h2' h4' => ?_)
    rw [hq2, bd_ok] at HE HK
    dsimp only at HE HK
    have hc0' := cnt0 (po := po2) (lv := 5) (by omega) h2'
    obtain ⟨-, g4, -⟩ := hSG' _ e3 q2 g3 hq2
    refine G_com' hs (Or.inl rfl) (h4'.tk rfl) (by rw [List.nil_append, hc0']; omega) (fun e4 hx4 => ?_) (fun y hy => HE y (by rw [hy]; rfl))
    rw [hx4, bd_ok] at HE HK
    have g5 := (exS_ok hx4 g4).2.2.2
    rw [List.nil_append, hc0', Nat.sub_zero]
    refine hS (by omega) e4 _ 4 0 44 false [] _ g5 (by decide) (fun z => by cases z) (fun x hx => by cases hx) htl hfl5 (fun y hy => HE y (by rw [hy]; rfl)) (fun e5 q3 hq3 c3 po3 h1'' h2'' h4'' => ?_)
    rw [hq3, bd_ok] at HE HK
    dsimp only at HE HK
    have hc0'' := cnt0 (po := po3) (lv := 5) (by omega) h2''
    refine G_cls' hs (Or.inr (Or.inl rfl)) (h4''.tk rfl) (by rw [List.nil_append, hc0'']; omega) (fun e6 hx6 => ?_) (fun y hy => HE y (by rw [show exS tp 41 e5 = .error y from hy]; rfl))
    have hx' : exS tp 41 e5 = .ok e6 := hx6
    exact (fin e6 _ (HK e6 (q1 ++ q2 ++ q3 ++ [(44, 0)]) (by rw [hx']; rfl))).to (by rw [h1, h1', h1'', List.nil_append]; simp) rfl (by rw [List.nil_append, hc0'']; omega)
  rw [if_neg c22] at HE HK
  by_cases c27 : isW tp e 27 = true
  · rw [if_pos c27] at HE HK
    exact pr2 36 27 (Or.inl ⟨rfl, rfl⟩) c27 HE HK
  rw [if_neg c27] at HE HK
  by_cases c28 : isW tp e 28 = true
  · rw [if_pos c28] at HE HK
    exact pr2 37 28 (Or.inr ⟨rfl, rfl⟩) c28 HE HK
  rw [if_neg c28] at HE HK
  refine O_leaf hs h4 hts (by simpa using c40) (by simpa using c22) (by simpa using c27) (by simpa using c28) ?_
  cases hfs : factS tp w e with
  | some s =>
    rw [hfs] at HK
    exact fin _ _ (HK _ _ rfl)
  | none =>
    rw [hfs] at HE HK
    dsimp only at HE HK ⊢
    by_cases c2 : tkK tp e = 2
    · rw [if_pos c2] at HK ⊢
      exact fin _ _ (HK _ _ rfl)
    · rw [if_neg c2] at HE ⊢
      exact HE _ rfl
theorem R_fac {S sF sT : Nat → Rf} {HS : Nat} (hs : StM sh fR B) (h16 : tp.length ≤ 1600) (ho : o + m = 7) (hS : RdS l G d sh fR B tp b c0 w K f0 g0 o 5 5 S) (hSG : Gd tp w false HS S) (hF : o < 7 → RdF l G d sh fR B tp b c0 w K f0 g0 (o + 1) 3 4 2 sF) (hT : o < 7 → RdF l G d sh fR B tp b c0 w K f0 g0 (o + 1) 1 1 0 sT) : RdF l G d sh fR B tp b c0 w K f0 g0 o 3 4 2 (facD tp m S sF sT) := by
  intro e cs k pr os t he hk hos ht hf HE HK
  unfold facD at HE HK
  have hts : tsF (k, 0, true, pr, os) = true := by unfold tsF; rw [Bool.and_true]; exact hk
  have hfl : (flatF ((k, 0, true, pr, os) :: t)).length < 110 := by
    show (flatF t ++ os).length < 110
    rw [List.length_append]; omega
  by_cases c25 : isW tp e 25 = true
  · rw [if_pos c25] at HE HK
    refine O_not hs hts c25 hfl (fun hop => ?_) (fun o7 => HE _ (by unfold opn; rw [if_pos (by omega)]; rfl))
    have o7 : o < 7 := by
      by_cases z : o < 7
      · exact z
      · unfold opn at hop; rw [if_pos (by omega)] at hop; cases hop
    have hopn : opn tp m e = .ok (tkE tp e) := by unfold opn; rw [if_neg (by omega)]
    rw [hopn, bd_ok] at HE HK
    refine hF o7 (tkE tp e) cs k pr (os ++ [43]) t (tkE_le he) hk (fun x hx => ?_) (by omega) (by rw [List.length_append, List.length_singleton]; omega) (fun y hy => HE y (by rw [hy]; rfl)) (fun e' c hc c1 po ph h1 h2 h3 h4 => ?_)
    · rcases List.mem_append.mp hx with hx | hx
      · exact hos x hx
      · rw [List.mem_singleton] at hx; subst hx; decide
    · exact (HK e' (c ++ [(43, 0)]) (by rw [hc]; rfl) c1 (43 :: po) ph (by rw [h1, opL_c, List.append_assoc]) (fun x hx => by
        rcases List.mem_cons.mp hx with rfl | hx
        · decide
        · exact h2 x hx) h3 h4).to rfl (by simp only [List.append_assoc, List.singleton_append]) (by rw [List.count_cons_self]; omega)
  rw [if_neg c25] at HE HK
  by_cases c91 : isSg tp e 91 = true
  · rw [if_pos c91] at HE HK
    refine O_brc hs hts c91 (by omega) (fun o7 => ?_) (fun o7 => HE _ (by unfold opn; rw [if_pos (by omega)]; rfl))
    have hopn : opn tp m e = .ok (tkE tp e) := by unfold opn; rw [if_neg (by omega)]
    rw [hopn, bd_ok] at HE HK
    refine hT (by omega) (tkE tp e) cs 5 0 [] _ (tkE_le he) rfl (fun x hx => by cases hx) (by rw [List.length_cons]; omega) (by show (flatF t ++ os).length + 0 ≤ _; rw [List.length_append]; omega) (fun y hy => HE y (by rw [hy]; rfl)) (fun e' c hc c1 po ph h1 h2 h3 h4 => ?_)
    rw [hc, bd_ok] at HE HK
    dsimp only at HE HK
    refine G_cls' hs (Or.inr (Or.inr rfl)) (h4.tk h3) (by rw [List.nil_append]; omega) (fun e3 hx => ?_) (fun x hx => HE x (by rw [show exS tp 93 e' = .error x from hx]; rfl))
    have hx' : exS tp 93 e' = .ok e3 := hx
    exact (HK e3 c (by rw [hx']; rfl) c [] 2 (by rw [show opL [] = [] from rfl, List.append_nil]) (fun x hx => by cases hx) (Or.inr rfl) ⟨fun z => by omega, fun z => by omega, fun z => by omega⟩).to (by rw [h1, List.nil_append]; simp) (by rw [List.append_nil]; rfl) (by rw [List.nil_append, List.count_nil]; omega)
  rw [if_neg c91] at HE HK
  by_cases c26 : isW tp e 26 = true
  · rw [if_pos c26] at HE HK
    exact O_all hs hts c26 ((HK _ _ rfl [(30, 0)] [] 2 rfl (fun x hx => by cases hx) (Or.inr rfl) ⟨fun z => by omega, fun z => by omega, fun z => by omega⟩).to rfl (by rw [List.append_nil]) rfl)
  rw [if_neg c26] at HE HK
  refine hS e cs k 0 pr true os t he (by decide) (fun _ => ⟨by simpa using c25, by simpa using c91, by simpa using c26⟩) (fun x hx => by have := hos x hx; omega) ht (by omega) (fun y hy => HE y (by rw [hy]; rfl)) (fun e1 q1 hq1 c1 po1 h1 h2 h3 => ?_)
  rw [hq1, bd_ok] at HE HK
  dsimp only at HE HK
  obtain ⟨-, g2, -⟩ := hSG _ e1 q1 he hq1
  refine G_cmp' hs hk ⟨h3.2 (by decide), h3.1 (by decide)⟩ (fun x hx => by have := hos x hx; omega) h2 hfl (fun y hy => ?_) (fun x hx => HE x (by rw [hx]; rfl))
  rw [hy, bd_ok] at HE HK
  obtain ⟨k1, k2, k3⟩ := cmpD_K hy
  have hr4 : rkO y.2 = 4 ∧ y.2 ≠ 43 := by rcases k3 with z | z | z <;> rw [z] <;> decide
  refine hS y.1 _ k 1 pr false (os ++ [y.2]) t (by rw [k2]; exact tkE_le g2) (by decide) (fun z => by rw [tsF_f] at z; cases z) (fun x hx => ?_) ht (by rw [List.length_append, List.length_singleton]; omega) (fun z hz => HE z (by rw [hz]; rfl)) (fun e3 q2 hq2 c2 po2 h1' h2' h3' => ?_)
  · rcases List.mem_append.mp hx with hx | hx
    · have := hos x hx; omega
    · rw [List.mem_singleton] at hx; subst hx; omega
  · have hc0 := cnt0 (po := po2) (lv := 5) (by omega) h2'
    exact (HK e3 (q1 ++ q2 ++ [(y.2, 0)]) (by rw [hq2]; rfl) (q1 ++ c2) (y.2 :: po2) 1 (by rw [h1', opL_c]; simp only [List.append_assoc]) (fun x hx => by
      rcases List.mem_cons.mp hx with rfl | hx
      · omega
      · have := h2' x hx; omega) (Or.inl rfl) ⟨fun _ => ⟨h3'.2 (by decide), h3'.1 (by decide)⟩, fun z => by omega, fun z => by omega⟩).to (by rw [h1]; simp only [List.append_assoc]) (by simp only [List.append_assoc, List.singleton_append]) (by rw [List.count_cons_of_ne hr4.2, hc0, Nat.add_zero])
theorem R_sum {D : Nat → Rf} {H : Nat} (hs : StM sh fR B) (h16 : tp.length ≤ 1600) (ho : o ≤ 7) (hD : RdS l G d sh fR B tp b c0 w K f0 g0 o 7 7 D) (hG : Gd tp w false H D) : RdS l G d sh fR B tp b c0 w K f0 g0 o 5 5 (chD tp (opA tp) (chD tp (opM tp) D)) :=
  R_ch (lv := 5) hs h16 (R_ch (lv := 6) hs h16 hD hG (fun e x h => Or.inr ⟨h, rfl⟩) (fun e _ h => ⟨fun _ => h, fun z => by omega⟩) (by omega)) (chD_gd hG opM_t) (fun e x h => Or.inl ⟨h, rfl⟩) (fun e h1 h => ⟨fun _ => h1.1 (by omega), fun _ => h⟩) (by omega)
theorem R_test {D : Nat → Rf} {H : Nat} (hs : StM sh fR B) (h16 : tp.length ≤ 1600) (ho : o ≤ 7) (hD : RdF l G d sh fR B tp b c0 w K f0 g0 o 3 4 2 D) (hG : Gd tp w true H D) : RdF l G d sh fR B tp b c0 w K f0 g0 o 1 1 0 (chD tp (opO tp) (chD tp (opN tp) D)) :=
  R_chF (lv := 1) (lo := 2) hs h16 (R_chF (lv := 2) (lo := 4) hs h16 hD hG (fun e x h => Or.inl ⟨h, rfl⟩) (fun ph e h1 h => ⟨h1.1, fun _ => h, fun z => by omega⟩) (by omega) (by decide)) (chD_gd hG opN_t) (fun e x h => Or.inr ⟨h, rfl⟩) (fun ph e h1 h => ⟨h1.1, fun _ => h1.2.1 (by omega), fun _ => h⟩) (by omega) (by decide)
theorem R_lvl (hs : StM sh fR B) (h16 : tp.length ≤ 1600) : ∀ m o, o + m = 7 → RdS l G d sh fR B tp b c0 w K f0 g0 o 5 5 (lvF tp w m).1 ∧ RdF l G d sh fR B tp b c0 w K f0 g0 o 3 4 2 (lvF tp w m).2.1 ∧ RdF l G d sh fR B tp b c0 w K f0 g0 o 1 1 0 (lvF tp w m).2.2
  | 0, o, ho => by
    have hP : RdS l G d sh fR B tp b c0 w K f0 g0 o 7 7 (parD tp w 0 (fun _ => .error (5, 0)) (fun _ => .error (5, 0))) := R_par hs h16 ho (fun z => by omega) (fun z => by omega) (fun z => by omega) (fun z => by omega)
    have hS : RdS l G d sh fR B tp b c0 w K f0 g0 o 5 5 (lvF tp w 0).1 := R_sum hs h16 (by omega) hP (parD_gd (H := 0) (fun z => absurd rfl z) (fun z => absurd rfl z))
    have hF : RdF l G d sh fR B tp b c0 w K f0 g0 o 3 4 2 (lvF tp w 0).2.1 := R_fac hs h16 ho hS (lvF_gd 0).1 (fun z => by omega) (fun z => by omega)
    exact ⟨hS, hF, R_test hs h16 (by omega) hF (lvF_gd 0).2.1⟩
  | m + 1, o, ho => by
    obtain ⟨i1, i2, i3⟩ := R_lvl hs h16 m (o + 1) (by omega)
    have hP : RdS l G d sh fR B tp b c0 w K f0 g0 o 7 7 (parD tp w (m + 1) (lvF tp w m).1 (lvF tp w m).2.2) := R_par hs h16 ho (fun _ => i1) (fun _ => ⟨_, (lvF_gd m).1⟩) (fun _ => i3) (fun _ => ⟨_, (lvF_gd m).2.2⟩)
    have hS : RdS l G d sh fR B tp b c0 w K f0 g0 o 5 5 (lvF tp w (m + 1)).1 := R_sum hs h16 (by omega) hP (parD_gd (H := 5 * (m + 1)) (fun _ => (lvF_gd m).1.mono (by omega)) (fun _ => (lvF_gd m).2.2.mono (by omega)))
    have hF : RdF l G d sh fR B tp b c0 w K f0 g0 o 3 4 2 (lvF tp w (m + 1)).2.1 := R_fac hs h16 ho hS (lvF_gd (m + 1)).1 (fun _ => i2) (fun _ => i3)
    exact ⟨hS, hF, R_test hs h16 (by omega) hF (lvF_gd (m + 1)).2.1⟩
end RLV
