/-! the reference: the next token; what is asked of it, faults -/
theorem packM_inj : ∀ (n : Nat) {a b : List Nat}, a.length ≤ n → (∀ c ∈ a, 1 ≤ c ∧ c ≤ 26) → (∀ c ∈ b, 1 ≤ c ∧ c ≤ 26) → packM a = packM b → a = b := by
  have nil : ∀ {b : List Nat}, packM b = 0 → b = [] := fun {b} h => by
    by_cases hb : b = []
    · exact hb
    · rw [← List.dropLast_concat_getLast hb, packM_snoc] at h
      omega
  intro n
  induction n with
  | zero =>
    intro a b ha _ _ h
    have : a = [] := List.eq_nil_of_length_eq_zero (by omega)
    subst this
    exact (nil h.symm).symm
  | succ n ih =>
    intro a b ha ha' hb' h
    by_cases hb : b = []
    · subst hb
      exact nil h
    by_cases hA : a = []
    · subst hA
      exact (nil h.symm).symm
    have ea := List.dropLast_concat_getLast hA
    have eb := List.dropLast_concat_getLast hb
    have ca := ha' _ (List.getLast_mem hA)
    have cb := hb' _ (List.getLast_mem hb)
    rw [← ea, ← eb, packM_snoc, packM_snoc] at h
    have e1 : a.getLast hA = b.getLast hb := by omega
    have e2 := ih (a := a.dropLast) (b := b.dropLast) (by rw [List.length_dropLast]; omega) (fun c hc => ha' c ((List.dropLast_sublist a).subset hc)) (fun c hc => hb' c ((List.dropLast_sublist b).subset hc)) (by omega)
    rw [← ea, ← eb, e1, e2]
theorem tkW_mem {tp : List Nat} {e : Nat} : ∀ c ∈ tkW tp e, 1 ≤ c ∧ c ≤ 26 := ltrs_mem 6 _
theorem tkW_len {tp : List Nat} {e : Nat} : (tkW tp e).length ≤ 6 := by unfold tkW; rw [ltrs_len]; exact cnt_le _ _
theorem packM_w {w : List Nat} (hl : w.length ≤ 6) (hw : ∀ c ∈ w, 1 ≤ c ∧ c ≤ 26) : packM w < 2 ^ 48 := by
  have h1 := packM_lt w.length w rfl (fun c hc => (hw c hc).2)
  have h2 : 256 ^ w.length ≤ 256 ^ 6 := Nat.pow_le_pow_right (by decide) hl
  have h3 : (256 : Nat) ^ 6 = 2 ^ 48 := by decide
  omega
theorem packM_owk : ∀ k, k < 29 → packM (ow k) < 2 ^ 48 := by decide +kernel
/-- a word's number is an own word's -/
theorem own_i {w : List Nat} {k : Nat} (hl : w.length ≤ 6) (hw : ∀ c ∈ w, 1 ≤ c ∧ c ≤ 26) (hk : k < 29) : lN (packM w) = lN (packM (ow k)) ↔ w = ow k := by
  have h1 := packM_w hl hw
  have h2 := packM_owk k hk
  rw [pk_lEQ (by omega) (by omega)]
  exact ⟨fun h => packM_inj _ (Nat.le_refl _) hw (ow_mem k hk) h, fun h => by rw [h]⟩
section MLF
variable {l : Launch} {G : Gx} {d : Nat} {sh : Sh} {fR : FRt} {B : Nat} {f : FI} {g : FL} {tp : List Nat}
theorem M_ahead {K : FI → FL → Prop} {b : Nat} (hs : StM sh fR B) (hM : MK f B tp) (h5 : f B 5 = nI b) (hb : b ≤ tp.length) (h6 : 0 < b → ∃ v, v ≤ 9999 ∧ f B 6 = nI v) (h9 : f B 9 = -1) (H : ∀ f' g', Fh B f f' → Fg B g g' → MTk f' g' B tp b → K f' g') : Cl l G (d + 1) 0 0 mX12_ahead [.ref B] (sh, f, g, fR) (qv sh fR K) := by
  have h16 := hM.2.1
  have hsl := tkS_le hb
  refine VX12_ahead hs (fun w hw => ?_)
  rw [hw, h5]
  refine L_ah5 hs hM _ b rfl hb ?_
  refine VX12_ahead_41 hs ?_
  rw [hM.1, nI_ltI (by omega) (by omega)]
  obtain ⟨s, hS⟩ : ∃ s, s = tkS tp b := ⟨_, rfl⟩
  rw [← hS] at hsl ⊢
  obtain ⟨F, hF⟩ : ∃ F : FI, F = up2 (up2 (up2 (up2 f B 4 (nI s)) B 5 (nI s)) B 3 (nI 0)) B 12 (-1) := ⟨_, rfl⟩
  rw [← hF]
  have hFh : Fh B f F := by rw [hF]; exact (((Fh.rf.up (by decide)).up (by decide)).up (by decide)).up (by decide)
  have F4 : F B 4 = nI s := by rw [hF, up2_k (by decide), up2_k (by decide), up2_k (by decide), up2_eq]
  have F5 : F B 5 = nI s := by rw [hF, up2_k (by decide), up2_k (by decide), up2_eq]
  have F3 : F B 3 = nI 0 := by rw [hF, up2_k (by decide), up2_eq]
  have F12 : F B 12 = -1 := by rw [hF, up2_eq]
  have hMF := hM.fh hFh
  refine ⟨fun hlt => ?_, fun hlt => ?_⟩
  · have hE : tkE tp b = s + tkN tp s := by unfold tkE; rw [← hS, if_neg (by omega)]
    have hbb := bt_lt hM.2.2.2 s
    rw [clN (by omega), hM.2.2.1 s hlt]
    refine ⟨inbN (by omega) (by decide), M_isLt hs hbb ?_⟩
    rw [hMF.2.2.1 s hlt]
    refine ⟨inbN (by omega) (by decide), M_isDg hs hbb ?_⟩
    have k135 : ∀ F' : FI, (∀ r k, ¬ (r = B ∧ k = 12) → F' r k = F r k) → (isLt (bt tp s) = true ∨ isDg (bt tp s) = true → F' B 12 = (if glu tp s then nI s else -1)) → (isLt (bt tp s) = false → isDg (bt tp s) = false → F' B 12 = -1) → LpX12_ahead_135 l G d (qv sh fR K) sh fR B F' g (nI s) (bI (isLt (bt tp s))) (bI (isDg (bt tp s))) := by
      intro F' e1 e2 e2'
      have hF1 : Fh B F F' := fun r k z => e1 r k (fun y => z ⟨y.1, by omega⟩)
      have hM1 := hMF.fh hF1
      have hns : ¬ nI s = (-1 : Int32) := nI_m1 (by omega)
      refine VX12_ahead_135 hs ?_
      cases cL : isLt (bt tp s) with
      | true =>
        have hN : tkN tp s = cnt isLt tp 6 s := by unfold tkN; rw [if_pos cL]
        have hK : tkK tp b = if glu tp s || isLt (bt tp (tkE tp b)) then 4 else 1 := by unfold tkK; rw [← hS, if_neg (by omega), if_pos cL]
        rw [hN] at hE
        have e12 := e2 (Or.inl cL)
        refine ⟨fun _ => ?_, fun c => absurd c (by decide)⟩
        refine VX12_ahead_176 hs ⟨fun c => absurd c (by decide), fun _ => ⟨fun c => absurd c (by decide), fun _ => ?_⟩⟩
        rw [isLD cL]
        obtain ⟨F2, hF2⟩ : ∃ F2 : FI, F2 = up2 (up2 (up2 (up2 F' B 6 (nI 0)) B 3 (nI 3)) B 5 (nI s + nI 1)) B 3 (nI 1) := ⟨_, rfl⟩
        rw [← hF2]
        have hFF : Fh B F' F2 := by rw [hF2]; exact (((Fh.rf.up (by decide)).up (by decide)).up (by decide)).up (by decide)
        refine L_ahW (v12 := if glu tp s then nI s else -1) hs 6 0 s 0 F2 _ rfl (by omega) (by decide) (hM1.fh hFF) (by rw [hF2, up2_k (by decide), up2_k (by decide), up2_k (by decide), up2_k (by decide), e12]) up2_eq (fun f' g' d1 d2 d3 d4 d5 d6 d7 d8 => ⟨_, _, rfl, rfl, H f' g' (((hFh.tr hF1).tr hFF).tr d1) (Fg.rf.up.tr d2) ⟨?_, ?_, fun k4 => ?_, fun _ => ⟨0, by decide, by rw [d5, hF2, up2_k (by decide), up2_k (by decide), up2_k (by decide), up2_eq]⟩, fun _ => by rw [d3, hF2, up2_eq]; decide, by rw [(((hFh.tr hF1).tr hFF).tr d1) _ _ (by omega)]; exact h9⟩⟩)
        · rw [d4, hF2, up2_k (by decide), up2_k (by decide), up2_k (by decide), up2_k (by decide), e1 _ _ (by omega), F4, hS]
        · rw [← hE] at d7
          rw [d7, hK]
          unfold tkB
          rw [← hS]
          cases hg : glu tp s with
          | true =>
            rw [if_neg (fun z => hns z.2), Bool.true_or, if_pos rfl]; rfl
          | false =>
            rw [Bool.false_or]
            cases hl : isLt (bt tp (tkE tp b)) with
            | true => rw [if_pos ⟨rfl, rfl⟩]; rfl
            | false => rw [if_neg (fun z => by cases z.1)]; rfl
        · rw [hK] at k4 ⊢
          by_cases hq : (glu tp s || isLt (bt tp (tkE tp b))) = true
          · rw [if_pos hq] at k4; exact absurd rfl k4
          · rw [if_neg hq]
            have hl : isLt (bt tp (tkE tp b)) = false := by
              cases hl : isLt (bt tp (tkE tp b)) with
              | false => rfl
              | true => rw [hl, Bool.or_true] at hq; exact absurd rfl hq
            rw [← hE] at d8
            refine ⟨by rw [d3, hF2, up2_eq], d8 hl, fun _ => ⟨?_, ?_⟩, fun z => by omega⟩
            · rw [d6]; unfold tkW packM; rw [← hS]
            · rw [d5, hF2, up2_k (by decide), up2_k (by decide), up2_k (by decide), up2_eq]
      | false =>
        refine ⟨fun c => absurd rfl c, fun _ => ?_⟩
        cases cD : isDg (bt tp s) with
        | true =>
          have hN : tkN tp s = cnt isDg tp 4 s := by unfold tkN; rw [cL, if_pos cD]; rfl
          have hK : tkK tp b = if glu tp s || isDg (bt tp (tkE tp b)) then 4 else 2 := by unfold tkK; rw [← hS, if_neg (by omega), cL, if_pos cD]; rfl
          have hV : tkV tp b = dgs tp 4 s 0 := by unfold tkV; rw [← hS, if_pos cD]
          rw [hN] at hE
          have e12 := e2 (Or.inr cD)
          refine ⟨fun _ => ?_, fun c => absurd c (by decide)⟩
          refine VX12_ahead_176 hs ⟨fun _ => ⟨fun _ => ?_, fun c => absurd rfl c⟩, fun c => absurd rfl c⟩
          obtain ⟨F2, hF2⟩ : ∃ F2 : FI, F2 = up2 (up2 (up2 (up2 F' B 6 (nI 0)) B 3 (nI 3)) B 5 (nI s + nI 1)) B 3 (nI 2) := ⟨_, rfl⟩
          rw [← hF2]
          have hFF : Fh B F' F2 := by rw [hF2]; exact (((Fh.rf.up (by decide)).up (by decide)).up (by decide)).up (by decide)
          refine L_ahD (v12 := if glu tp s then nI s else -1) hs 4 0 s 0 F2 rfl (by omega) (hM1.fh hFF) (by rw [hF2, up2_k (by decide), up2_k (by decide), up2_k (by decide), up2_k (by decide), e12]) (by rw [hF2, up2_k (by decide), up2_k (by decide), up2_k (by decide), up2_eq]) (fun f' d1 d3 d4 d6 d7 d8 => ⟨_, _, rfl, rfl, H f' _ (((hFh.tr hF1).tr hFF).tr d1) Fg.rf.up ⟨?_, ?_, fun k4 => ?_, fun _ => ⟨_, by have := dgs_lt (tp := tp) 4 s 0; omega, d6⟩, fun _ => by rw [d3, hF2, up2_eq]; decide, by rw [(((hFh.tr hF1).tr hFF).tr d1) _ _ (by omega)]; exact h9⟩⟩)
          · rw [d4, hF2, up2_k (by decide), up2_k (by decide), up2_k (by decide), up2_k (by decide), e1 _ _ (by omega), F4, hS]
          · rw [← hE] at d7
            rw [d7, hK]
            unfold tkB
            rw [← hS]
            cases hg : glu tp s with
            | true =>
              rw [if_neg (fun z => hns z.2), Bool.true_or, if_pos rfl]; rfl
            | false =>
              rw [Bool.false_or]
              cases hl : isDg (bt tp (tkE tp b)) with
              | true => rw [if_pos ⟨rfl, rfl⟩]; rfl
              | false => rw [if_neg (fun z => by cases z.1)]; rfl
          · rw [hK] at k4 ⊢
            by_cases hq : (glu tp s || isDg (bt tp (tkE tp b))) = true
            · rw [if_pos hq] at k4; exact absurd rfl k4
            · rw [if_neg hq]
              have hl : isDg (bt tp (tkE tp b)) = false := by
                cases hl : isDg (bt tp (tkE tp b)) with
                | false => rfl
                | true => rw [hl, Bool.or_true] at hq; exact absurd rfl hq
              rw [← hE] at d8
              exact ⟨by rw [d3, hF2, up2_eq], d8 hl, fun z => by omega, fun _ => by rw [hV]; exact d6⟩
        | false =>
          have hN : tkN tp s = 1 := by unfold tkN; rw [cL, cD]; rfl
          have hK : tkK tp b = 3 := by unfold tkK; rw [← hS, if_neg (by omega), cL, cD]; rfl
          have hV : tkV tp b = bt tp s := by unfold tkV; rw [← hS, cD]; rfl
          rw [hN] at hE
          refine ⟨fun c => absurd rfl c, fun _ => ⟨inbN (by omega) (by decide), ?_⟩⟩
          rw [clN (by omega), hM1.2.2.1 s hlt, nI_add]
          refine ⟨_, _, rfl, rfl, H _ _ ((hFh.tr hF1).tr ((((Fh.rf.up (by decide)).up (by decide)).up (by decide)).up (by decide))) Fg.rf.up ⟨?_, ?_, fun _ => ⟨?_, ?_, fun z => by omega, fun _ => ?_⟩, fun _ => ⟨bt tp s, by omega, up2_eq⟩, fun z => by omega, by rw [up2_k (by decide), up2_k (by decide), up2_k (by decide), up2_k (by decide), e1 _ _ (by omega), hFh _ _ (by omega)]; exact h9⟩⟩
          · rw [up2_k (by decide), up2_k (by decide), up2_k (by decide), up2_k (by decide), e1 _ _ (by omega), F4, hS]
          · rw [up2_k (by decide), up2_k (by decide), up2_k (by decide), up2_k (by decide), e2' cL cD, hK]; rfl
          · rw [up2_k (by decide), up2_k (by decide), up2_eq, hK]
          · rw [up2_k (by decide), up2_eq, hE]
          · rw [up2_eq, hV]
    have k98 : isLt (bt tp s) = true ∨ isDg (bt tp s) = true → LpX12_ahead_98 l G d (qv sh fR K) sh fR B F g (nI s) (bI (isLt (bt tp s))) (bI (isDg (bt tp s))) := by
      intro hld
      have n2 : isLt (bt tp s) = false → isDg (bt tp s) = false → False := fun z1 z2 => by rcases hld with z | z <;> first | (rw [z1] at z; cases z) | (rw [z2] at z; cases z)
      have yes : glu tp s = true → LpX12_ahead_130 l G d (qv sh fR K) sh fR B F g (nI s) (bI (isLt (bt tp s))) (bI (isDg (bt tp s))) := fun hg => VX12_ahead_130 hs (k135 _ (fun r k z => up2_ne z) (fun _ => by rw [up2_eq, if_pos hg]) (fun z1 z2 => (n2 z1 z2).elim))
      have no : glu tp s = false → LpX12_ahead_135 l G d (qv sh fR K) sh fR B F g (nI s) (bI (isLt (bt tp s))) (bI (isDg (bt tp s))) := fun hg => k135 F (fun _ _ _ => rfl) (fun _ => by rw [F12, hg]; rfl) (fun z1 z2 => (n2 z1 z2).elim)
      refine VX12_ahead_98 hs ⟨fun c => no ?_, fun c => ?_⟩
      · have : s = 0 := by
          by_cases h0 : s = 0
          · exact h0
          · exact absurd c (nI_nle (by omega) (by omega))
        unfold glu; rw [this]; rfl
      · have h0 : 0 < s := by
          by_cases h0 : s = 0
          · rw [h0] at c; exact absurd (by decide) c
          · omega
        have hpb := bt_lt hM.2.2.2 (s - 1)
        have hg : glu tp s = (isLt (bt tp (s - 1)) || isDg (bt tp (s - 1))) := by unfold glu; simp [h0]
        rw [pk_sub (by omega), clN (by omega), hMF.2.2.1 (s - 1) (by omega)]
        refine ⟨inbN (by omega) (by decide), M_isLt hs hpb (bI_cs' (fun c1 => ?_) (fun c1 => yes (by rw [hg, c1]; rfl)))⟩
        rw [hMF.2.2.1 (s - 1) (by omega)]
        exact ⟨inbN (by omega) (by decide), M_isDg hs hpb (bI_cs (fun c2 => no (by rw [hg, c1, c2]; rfl)) (fun c2 => yes (by rw [hg, c2, Bool.or_true])))⟩
    refine bI_cs' (fun cL => bI_cs (fun cD => ?_) (fun cD => k98 (Or.inr cD))) (fun cL => k98 (Or.inl cL))
    exact k135 F (fun _ _ _ => rfl) (fun z => by rcases z with z | z <;> first | (rw [cL] at z; cases z) | (rw [cD] at z; cases z)) (fun _ _ => F12)
  · have hE : tkE tp b = s := by unfold tkE; rw [← hS, if_pos (by omega)]
    have hK : tkK tp b = 0 := by unfold tkK; rw [← hS, if_pos (by omega)]
    have h6F : 0 < b → ∃ v, v ≤ 9999 ∧ F B 6 = nI v := fun h0 => by
      obtain ⟨v, h1, h2⟩ := h6 h0
      exact ⟨v, h1, by rw [hF, up2_k (by decide), up2_k (by decide), up2_k (by decide), up2_k (by decide)]; exact h2⟩
    exact ⟨_, _, rfl, rfl, H F g hFh Fg.rf ⟨by rw [F4, hS], by rw [F12, hK]; rfl, fun _ => ⟨by rw [F3, hK], by rw [F5, hE], fun z => by omega, fun z => by omega⟩, h6F, fun z => by omega, by rw [hFh _ _ (by omega)]; exact h9⟩⟩
theorem M_isOwn {K : Int32 → FI → FL → Prop} {w : List Nat} (hs : StM sh fR B) (hl : w.length ≤ 6) (hw : ∀ c ∈ w, 1 ≤ c ∧ c ≤ 26) (H : K (bI (ownI w).isSome) f g) : Cl l G d 0 0 mX12_isOwn [.ref B, .long (lN (packM w))] (sh, f, g, fR) (qi sh fR K) := by
  have hq : ∀ k n, k < 29 → packM (ow k) = n → (lN (packM w) = lN n ↔ w = ow k) := fun k n hk e => by rw [← e]; exact own_i hl hw hk
  have yes : ∀ k, k < 29 → w = ow k → (qi sh fR K) (some (.int (nI 1))) (sh, f, g, fR) := fun k hk e => by
    rw [(ownI_i hk).mpr e] at H
    exact ⟨_, _, _, rfl, rfl, H⟩
  have no : (∀ k, k < 29 → w ≠ ow k) → (qi sh fR K) (some (.int (nI 0))) (sh, f, g, fR) := fun h => by
    cases e : ownI w with
    | none => rw [e] at H; exact ⟨_, _, _, rfl, rfl, H⟩
    | some k => exact absurd (ownF_in e).1.symm (h k (ownF_in e).2)
  refine VX12_isOwn hs ?_
  refine ⟨fun c => yes 0 (by decide) ((hq 0 126943972647277 (by decide) (by decide +kernel)).mp c), fun c0 => ?_⟩
  refine ⟨fun c => yes 1 (by decide) ((hq 1 1970170228 (by decide) (by decide +kernel)).mp c), fun c1 => ?_⟩
  refine ⟨fun c => yes 2 (by decide) ((hq 2 131294707347319 (by decide) (by decide +kernel)).mp c), fun c2 => ?_⟩
  refine ⟨fun c => yes 3 (by decide) ((hq 3 7038329 (by decide) (by decide +kernel)).mp c), fun c3 => ?_⟩
  refine ⟨fun c4 => ?_, fun c => yes 4 (by decide) ((hq 4 1885434984 (by decide) (by decide +kernel)).mp c)⟩
  refine ⟨fun c => yes 5 (by decide) ((hq 5 431198331257 (by decide) (by decide +kernel)).mp c), fun c5 => ?_⟩
  refine ⟨fun c => yes 6 (by decide) ((hq 6 1785686382 (by decide) (by decide +kernel)).mp c), fun c6 => ?_⟩
  refine ⟨fun c => yes 7 (by decide) ((hq 7 24948 (by decide) (by decide +kernel)).mp c), fun c7 => ?_⟩
  refine ⟨fun c => yes 8 (by decide) ((hq 8 500085515630 (by decide) (by decide +kernel)).mp c), fun c8 => ?_⟩
  refine ⟨fun c9 => ?_, fun c => yes 9 (by decide) ((hq 9 1819243379 (by decide) (by decide +kernel)).mp c)⟩
  refine ⟨fun c => yes 10 (by decide) ((hq 10 431416635507 (by decide) (by decide +kernel)).mp c), fun c10 => ?_⟩
  refine ⟨fun c => yes 11 (by decide) ((hq 11 482804460403 (by decide) (by decide +kernel)).mp c), fun c11 => ?_⟩
  refine ⟨fun c => yes 12 (by decide) ((hq 12 491327153267 (by decide) (by decide +kernel)).mp c), fun c12 => ?_⟩
  refine ⟨fun c => yes 13 (by decide) ((hq 13 512735409267 (by decide) (by decide +kernel)).mp c), fun c13 => ?_⟩
  refine ⟨fun c14 => ?_, fun c => yes 14 (by decide) ((hq 14 1953063787 (by decide) (by decide +kernel)).mp c)⟩
  refine ⟨fun c => yes 15 (by decide) ((hq 15 121450625394034 (by decide) (by decide +kernel)).mp c), fun c15 => ?_⟩
  refine ⟨fun c => yes 16 (by decide) ((hq 16 1718775661 (by decide) (by decide +kernel)).mp c), fun c16 => ?_⟩
  refine ⟨fun c => yes 17 (by decide) ((hq 17 1668771428 (by decide) (by decide +kernel)).mp c), fun c17 => ?_⟩
  refine ⟨fun c => yes 18 (by decide) ((hq 18 112616079453799 (by decide) (by decide +kernel)).mp c), fun c18 => ?_⟩
  refine ⟨fun c19 => ?_, fun c => yes 19 (by decide) ((hq 19 439720963187 (by decide) (by decide +kernel)).mp c)⟩
  refine ⟨fun c => yes 20 (by decide) ((hq 20 491327153273 (by decide) (by decide +kernel)).mp c), fun c20 => ?_⟩
  refine ⟨fun c => yes 21 (by decide) ((hq 21 418363302244 (by decide) (by decide +kernel)).mp c), fun c21 => ?_⟩
  refine ⟨fun c => yes 22 (by decide) ((hq 22 26982 (by decide) (by decide +kernel)).mp c), fun c22 => ?_⟩
  refine ⟨fun c => yes 23 (by decide) ((hq 23 28530 (by decide) (by decide +kernel)).mp c), fun c23 => ?_⟩
  refine ⟨fun c24 => ?_, fun c => yes 24 (by decide) ((hq 24 6385252 (by decide) (by decide +kernel)).mp c)⟩
  refine ⟨fun c => yes 25 (by decide) ((hq 25 7237492 (by decide) (by decide +kernel)).mp c), fun c25 => ?_⟩
  refine ⟨fun c => yes 26 (by decide) ((hq 26 6384748 (by decide) (by decide +kernel)).mp c), fun c26 => ?_⟩
  refine ⟨fun c => yes 27 (by decide) ((hq 27 7170414 (by decide) (by decide +kernel)).mp c), fun c27 => ?_⟩
  refine ⟨fun c28 => ?_, fun c => yes 28 (by decide) ((hq 28 7168376 (by decide) (by decide +kernel)).mp c)⟩
  refine no (fun k hk e => ?_)
  by_cases z : k = 0
  · subst z; exact c0 ((hq 0 126943972647277 (by decide) (by decide +kernel)).mpr e)
  have z0 := z
  clear z
  by_cases z : k = 1
  · subst z; exact c1 ((hq 1 1970170228 (by decide) (by decide +kernel)).mpr e)
  have z1 := z
  clear z
  by_cases z : k = 2
  · subst z; exact c2 ((hq 2 131294707347319 (by decide) (by decide +kernel)).mpr e)
  have z2 := z
  clear z
  by_cases z : k = 3
  · subst z; exact c3 ((hq 3 7038329 (by decide) (by decide +kernel)).mpr e)
  have z3 := z
  clear z
  by_cases z : k = 4
  · subst z; exact c4 ((hq 4 1885434984 (by decide) (by decide +kernel)).mpr e)
  have z4 := z
  clear z
  by_cases z : k = 5
  · subst z; exact c5 ((hq 5 431198331257 (by decide) (by decide +kernel)).mpr e)
  have z5 := z
  clear z
  by_cases z : k = 6
  · subst z; exact c6 ((hq 6 1785686382 (by decide) (by decide +kernel)).mpr e)
  have z6 := z
  clear z
  by_cases z : k = 7
  · subst z; exact c7 ((hq 7 24948 (by decide) (by decide +kernel)).mpr e)
  have z7 := z
  clear z
  by_cases z : k = 8
  · subst z; exact c8 ((hq 8 500085515630 (by decide) (by decide +kernel)).mpr e)
  have z8 := z
  clear z
  by_cases z : k = 9
  · subst z; exact c9 ((hq 9 1819243379 (by decide) (by decide +kernel)).mpr e)
  have z9 := z
  clear z
  by_cases z : k = 10
  · subst z; exact c10 ((hq 10 431416635507 (by decide) (by decide +kernel)).mpr e)
  have z10 := z
  clear z
  by_cases z : k = 11
  · subst z; exact c11 ((hq 11 482804460403 (by decide) (by decide +kernel)).mpr e)
  have z11 := z
  clear z
  by_cases z : k = 12
  · subst z; exact c12 ((hq 12 491327153267 (by decide) (by decide +kernel)).mpr e)
  have z12 := z
  clear z
  by_cases z : k = 13
  · subst z; exact c13 ((hq 13 512735409267 (by decide) (by decide +kernel)).mpr e)
  have z13 := z
  clear z
  by_cases z : k = 14
  · subst z; exact c14 ((hq 14 1953063787 (by decide) (by decide +kernel)).mpr e)
  have z14 := z
  clear z
  by_cases z : k = 15
  · subst z; exact c15 ((hq 15 121450625394034 (by decide) (by decide +kernel)).mpr e)
  have z15 := z
  clear z
  by_cases z : k = 16
  · subst z; exact c16 ((hq 16 1718775661 (by decide) (by decide +kernel)).mpr e)
  have z16 := z
  clear z
  by_cases z : k = 17
  · subst z; exact c17 ((hq 17 1668771428 (by decide) (by decide +kernel)).mpr e)
  have z17 := z
  clear z
  by_cases z : k = 18
  · subst z; exact c18 ((hq 18 112616079453799 (by decide) (by decide +kernel)).mpr e)
  have z18 := z
  clear z
  by_cases z : k = 19
  · subst z; exact c19 ((hq 19 439720963187 (by decide) (by decide +kernel)).mpr e)
  have z19 := z
  clear z
  by_cases z : k = 20
  · subst z; exact c20 ((hq 20 491327153273 (by decide) (by decide +kernel)).mpr e)
  have z20 := z
  clear z
  by_cases z : k = 21
  · subst z; exact c21 ((hq 21 418363302244 (by decide) (by decide +kernel)).mpr e)
  have z21 := z
  clear z
  by_cases z : k = 22
  · subst z; exact c22 ((hq 22 26982 (by decide) (by decide +kernel)).mpr e)
  have z22 := z
  clear z
  by_cases z : k = 23
  · subst z; exact c23 ((hq 23 28530 (by decide) (by decide +kernel)).mpr e)
  have z23 := z
  clear z
  by_cases z : k = 24
  · subst z; exact c24 ((hq 24 6385252 (by decide) (by decide +kernel)).mpr e)
  have z24 := z
  clear z
  by_cases z : k = 25
  · subst z; exact c25 ((hq 25 7237492 (by decide) (by decide +kernel)).mpr e)
  have z25 := z
  clear z
  by_cases z : k = 26
  · subst z; exact c26 ((hq 26 6384748 (by decide) (by decide +kernel)).mpr e)
  have z26 := z
  clear z
  by_cases z : k = 27
  · subst z; exact c27 ((hq 27 7170414 (by decide) (by decide +kernel)).mpr e)
  have z27 := z
  clear z
  by_cases z : k = 28
  · subst z; exact c28 ((hq 28 7168376 (by decide) (by decide +kernel)).mpr e)
  have z28 := z
  clear z
  omega
end MLF
