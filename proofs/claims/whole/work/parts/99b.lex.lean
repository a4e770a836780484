/-! the text of a stream as both sides read it: bytes, tokens -/
def bt (tp : List Nat) (i : Nat) : Nat := tp.getD i 0
def isBl (c : Nat) : Bool := c == 32 || c == 10
def isLt (c : Nat) : Bool := decide (97 ≤ c) && decide (c ≤ 122)
def isDg (c : Nat) : Bool := decide (48 ≤ c) && decide (c ≤ 57)
/-- how many of the next n bytes, at the most, are such -/
def cnt (P : Nat → Bool) (tp : List Nat) : Nat → Nat → Nat
  | 0, _ => 0
  | n + 1, i => if P (bt tp i) then cnt P tp n (i + 1) + 1 else 0
def ltrs (tp : List Nat) : Nat → Nat → List Nat
  | 0, _ => []
  | n + 1, i => if isLt (bt tp i) then (bt tp i - 96) :: ltrs tp n (i + 1) else []
def dgs (tp : List Nat) : Nat → Nat → Nat → Nat
  | 0, _, a => a
  | n + 1, i, a => if isDg (bt tp i) then dgs tp n (i + 1) (10 * a + bt tp i - 48) else a
/-- the token behind e: first byte, end, kind (0 end, 1 word, 2 number, 3 sign, 4 broken), where it is broken, letters, value -/
def tkS (tp : List Nat) (e : Nat) : Nat := e + cnt isBl tp tp.length e
def tkN (tp : List Nat) (s : Nat) : Nat := if isLt (bt tp s) then cnt isLt tp 6 s else if isDg (bt tp s) then cnt isDg tp 4 s else 1
def tkE (tp : List Nat) (e : Nat) : Nat := if tp.length ≤ tkS tp e then tkS tp e else tkS tp e + tkN tp (tkS tp e)
def glu (tp : List Nat) (s : Nat) : Bool := decide (0 < s) && (isLt (bt tp (s - 1)) || isDg (bt tp (s - 1)))
def tkK (tp : List Nat) (e : Nat) : Nat :=
  if tp.length ≤ tkS tp e then 0
  else if isLt (bt tp (tkS tp e)) then (if glu tp (tkS tp e) || isLt (bt tp (tkE tp e)) then 4 else 1)
  else if isDg (bt tp (tkS tp e)) then (if glu tp (tkS tp e) || isDg (bt tp (tkE tp e)) then 4 else 2)
  else 3
def tkB (tp : List Nat) (e : Nat) : Nat := if glu tp (tkS tp e) then tkS tp e else tkE tp e
def tkW (tp : List Nat) (e : Nat) : List Nat := ltrs tp 6 (tkS tp e)
def tkV (tp : List Nat) (e : Nat) : Nat := if isDg (bt tp (tkS tp e)) then dgs tp 4 (tkS tp e) 0 else bt tp (tkS tp e)
theorem isLD {c : Nat} (h : isLt c = true) : isDg c = false := by
  unfold isLt at h; unfold isDg
  simp only [Bool.and_eq_true, decide_eq_true_eq, Bool.and_eq_false_iff, decide_eq_false_iff_not] at h ⊢
  omega
theorem isLt_i {c : Nat} : isLt c = true ↔ 97 ≤ c ∧ c ≤ 122 := by unfold isLt; simp
theorem isDg_i {c : Nat} : isDg c = true ↔ 48 ≤ c ∧ c ≤ 57 := by unfold isDg; simp
theorem isBl_i {c : Nat} : isBl c = true ↔ c = 32 ∨ c = 10 := by unfold isBl; simp
theorem bt_out {tp : List Nat} {i : Nat} (h : tp.length ≤ i) : bt tp i = 0 := by
  unfold bt
  rw [List.getD_eq_getElem?_getD, List.getElem?_eq_none h]; rfl
theorem bt_in {tp : List Nat} {i : Nat} (h : i < tp.length) : tp[i]? = some (bt tp i) := by
  unfold bt
  rw [List.getD_eq_getElem?_getD, List.getElem?_eq_getElem h]; rfl
theorem bt_lt {tp : List Nat} (hb : ∀ b ∈ tp, b < 256) (i : Nat) : bt tp i < 256 := by
  by_cases h : i < tp.length
  · exact hb _ (List.mem_of_getElem? (bt_in h))
  · rw [bt_out (by omega)]; omega
theorem in_of {P : Nat → Bool} {tp : List Nat} {i : Nat} (h0 : P 0 = false) (h : P (bt tp i) = true) : i < tp.length := by
  by_cases q : i < tp.length
  · exact q
  · rw [bt_out (by omega), h0] at h; cases h
section CN
variable {P : Nat → Bool} {tp : List Nat}
theorem cnt_le : ∀ n i, cnt P tp n i ≤ n
  | 0, _ => Nat.le_refl _
  | n + 1, i => by
    unfold cnt
    split
    · have := cnt_le n (i + 1); omega
    · omega
theorem cnt_len (h0 : P 0 = false) : ∀ n i, i ≤ tp.length → i + cnt P tp n i ≤ tp.length
  | 0, i, h => h
  | n + 1, i, h => by
    unfold cnt
    split
    · rename_i c
      have := in_of h0 c
      have := cnt_len h0 n (i + 1) (by omega)
      omega
    · omega
theorem cnt_out : ∀ n i, cnt P tp n i < n → P (bt tp (i + cnt P tp n i)) = false
  | 0, i, h => by omega
  | n + 1, i, h => by
    unfold cnt at h ⊢
    by_cases c : P (bt tp i) = true
    · rw [if_pos c] at h ⊢
      have := cnt_out n (i + 1) (by omega)
      rw [show i + (cnt P tp n (i + 1) + 1) = i + 1 + cnt P tp n (i + 1) by omega]
      exact this
    · rw [if_neg c]
      simpa using c
theorem cnt_ins : ∀ n i j, j < cnt P tp n i → P (bt tp (i + j)) = true
  | 0, i, j, h => by unfold cnt at h; omega
  | n + 1, i, j, h => by
    unfold cnt at h
    by_cases c : P (bt tp i) = true
    · rw [if_pos c] at h
      match j with
      | 0 => exact c
      | j + 1 =>
        have := cnt_ins n (i + 1) j (by omega)
        rw [show i + (j + 1) = i + 1 + j by omega]
        exact this
    · rw [if_neg c] at h; omega
end CN
section TK
variable {tp : List Nat} {e : Nat}
theorem tkS_ge : e ≤ tkS tp e := by unfold tkS; omega
theorem tkS_le (h : e ≤ tp.length) : tkS tp e ≤ tp.length := cnt_len (by decide) _ _ h
theorem tkS_nb (h : tkS tp e < tp.length) : isBl (bt tp (tkS tp e)) = false := by
  unfold tkS at h ⊢
  exact cnt_out _ _ (by omega)
theorem tkN_pos {s : Nat} : 0 < tkN tp s := by
  unfold tkN
  split
  · rename_i c; unfold cnt; rw [if_pos c]; omega
  · split
    · rename_i c; unfold cnt; rw [if_pos c]; omega
    · omega
theorem tkN_le {s : Nat} : tkN tp s ≤ 6 := by
  unfold tkN
  split
  · exact cnt_le _ _
  · split
    · exact Nat.le_trans (cnt_le _ _) (by decide)
    · omega
theorem tkN_len {s : Nat} (h : s < tp.length) : s + tkN tp s ≤ tp.length := by
  unfold tkN
  split
  · exact cnt_len (by decide) _ _ (by omega)
  · split
    · exact cnt_len (by decide) _ _ (by omega)
    · omega
theorem tkE_ge : tkS tp e ≤ tkE tp e := by unfold tkE; split <;> omega
theorem tkE_le (h : e ≤ tp.length) : tkE tp e ≤ tp.length := by
  unfold tkE
  split
  · exact tkS_le h
  · exact tkN_len (by omega)
theorem tkE_gt (h : tkK tp e ≠ 0) : tkS tp e < tkE tp e ∧ tkS tp e < tp.length := by
  unfold tkK at h
  by_cases c : tp.length ≤ tkS tp e
  · rw [if_pos c] at h; exact absurd rfl h
  · unfold tkE
    rw [if_neg c]
    have := @tkN_pos tp (tkS tp e)
    omega
theorem tkE_e : e ≤ tkE tp e := Nat.le_trans tkS_ge tkE_ge
theorem tkE_gte (h : tkK tp e ≠ 0) : e < tkE tp e := Nat.lt_of_le_of_lt tkS_ge (tkE_gt h).1
theorem tkK_le : tkK tp e ≤ 4 := by
  unfold tkK
  repeat' split
  all_goals omega
/-- what stands ahead of a token's end -/
theorem glu_E (h4 : tkK tp e ≠ 4) (h0 : tkK tp e ≠ 0) : glu tp (tkE tp e) = true ↔ tkK tp e = 1 ∨ tkK tp e = 2 := by
  obtain ⟨h1, h2⟩ := tkE_gt h0
  have hE : tkE tp e = tkS tp e + tkN tp (tkS tp e) := by unfold tkE; rw [if_neg (by omega)]
  unfold tkK at h4 ⊢
  rw [if_neg (by omega)] at h4 ⊢
  have h3 : 0 < tkE tp e := by omega
  unfold tkN at hE
  by_cases c : isLt (bt tp (tkS tp e)) = true
  · rw [if_pos c] at hE h4 ⊢
    by_cases c2 : (glu tp (tkS tp e) || isLt (bt tp (tkE tp e))) = true
    · rw [if_pos c2] at h4; exact absurd rfl h4
    · rw [if_neg c2]
      refine ⟨fun _ => Or.inl rfl, fun _ => ?_⟩
      have := cnt_ins (P := isLt) (tp := tp) 6 (tkS tp e) (tkE tp e - 1 - tkS tp e) (by omega)
      rw [show tkS tp e + (tkE tp e - 1 - tkS tp e) = tkE tp e - 1 by omega] at this
      unfold glu
      rw [this]; simp [h3]
  · rw [if_neg c] at hE h4 ⊢
    by_cases c2 : isDg (bt tp (tkS tp e)) = true
    · rw [if_pos c2] at hE h4 ⊢
      by_cases c3 : (glu tp (tkS tp e) || isDg (bt tp (tkE tp e))) = true
      · rw [if_pos c3] at h4; exact absurd rfl h4
      · rw [if_neg c3]
        refine ⟨fun _ => Or.inr rfl, fun _ => ?_⟩
        have := cnt_ins (P := isDg) (tp := tp) 4 (tkS tp e) (tkE tp e - 1 - tkS tp e) (by omega)
        rw [show tkS tp e + (tkE tp e - 1 - tkS tp e) = tkE tp e - 1 by omega] at this
        unfold glu
        rw [this]; simp [h3]
    · rw [if_neg c2] at hE ⊢
      refine ⟨fun z => ?_, fun z => by omega⟩
      unfold glu at z
      rw [hE, show tkS tp e + 1 - 1 = tkS tp e by omega] at z
      simp [c, c2] at z
/-- a token is glued to what stands ahead only where no blank is between -/
theorem glu_S (h : tkS tp e ≠ e) : glu tp (tkS tp e) = false := by
  have h1 : e ≤ tkS tp e := tkS_ge
  have := cnt_ins (P := isBl) (tp := tp) tp.length e (tkS tp e - 1 - e) (by unfold tkS at h h1 ⊢; omega)
  rw [show e + (tkS tp e - 1 - e) = tkS tp e - 1 by omega] at this
  rw [isBl_i] at this
  unfold glu
  rcases this with q | q <;> rw [q] <;> simp [isLt, isDg]
theorem tkS_step (h : e < tp.length) (hb : isBl (bt tp e) = true) : tkS tp (e + 1) = tkS tp e := by
  have h2 : ∀ n i, i ≤ tp.length → tp.length ≤ n + i → cnt isBl tp (n + 1) i = cnt isBl tp n i := by
    intro n
    induction n with
    | zero =>
      intro i _ hi
      unfold cnt
      rw [bt_out (by omega)]; rfl
    | succ n ih =>
      intro i h1 hi
      show (if isBl (bt tp i) then cnt isBl tp (n + 1) (i + 1) + 1 else 0) = (if isBl (bt tp i) then cnt isBl tp n (i + 1) + 1 else 0)
      by_cases c : isBl (bt tp i) = true
      · have := in_of (P := isBl) (by decide) c
        rw [ih (i + 1) (by omega) (by omega)]
      · rw [if_neg c, if_neg c]
  unfold tkS
  have h3 : cnt isBl tp tp.length e = cnt isBl tp (tp.length - 1) (e + 1) + 1 := by
    rw [show tp.length = tp.length - 1 + 1 by omega, cnt, if_pos hb]; rfl
  have h4 := h2 (tp.length - 1) (e + 1) (by omega) (by omega)
  rw [show tp.length - 1 + 1 = tp.length by omega] at h4
  omega
theorem tkS_stop (h : tp.length ≤ e ∨ isBl (bt tp e) = false) : tkS tp e = e := by
  unfold tkS
  have : cnt isBl tp tp.length e = 0 := by
    cases hl : tp.length with
    | zero => rfl
    | succ n =>
      unfold cnt
      rw [if_neg]
      rcases h with q | q
      · rw [bt_out q]; decide
      · rw [q]; decide
  omega
theorem ltrs_len : ∀ n i, (ltrs tp n i).length = cnt isLt tp n i
  | 0, _ => rfl
  | n + 1, i => by
    unfold ltrs cnt
    split
    · rw [List.length_cons, ltrs_len n (i + 1)]
    · rfl
theorem ltrs_mem : ∀ n i, ∀ c ∈ ltrs tp n i, 1 ≤ c ∧ c ≤ 26
  | 0, _, c, h => by cases h
  | n + 1, i, c, h => by
    unfold ltrs at h
    split at h
    · rename_i q
      rw [isLt_i] at q
      rcases List.mem_cons.mp h with rfl | h
      · omega
      · exact ltrs_mem n (i + 1) c h
    · cases h
theorem dgs_lt : ∀ n i a, dgs tp n i a < (a + 1) * 10 ^ n
  | 0, _, a => by unfold dgs; omega
  | n + 1, i, a => by
    unfold dgs
    split
    · rename_i q
      rw [isDg_i] at q
      have := dgs_lt n (i + 1) (10 * a + bt tp i - 48)
      have h2 : (10 * a + bt tp i - 48 + 1) * 10 ^ n ≤ (10 * (a + 1)) * 10 ^ n := Nat.mul_le_mul_right _ (by omega)
      rw [Nat.pow_succ]
      have h3 : (10 * (a + 1)) * 10 ^ n = (a + 1) * (10 ^ n * 10) := by
        rw [Nat.mul_comm 10 (a + 1), Nat.mul_assoc, Nat.mul_comm 10 (10 ^ n)]
      omega
    · have : a + 1 ≤ (a + 1) * 10 ^ (n + 1) := Nat.le_mul_of_pos_right _ (Nat.pow_pos (by decide))
      omega
theorem tkV_num (h : tkK tp e = 2) : tkV tp e ≤ 9999 := by
  unfold tkV
  split
  · have := dgs_lt (tp := tp) 4 (tkS tp e) 0
    omega
  · rename_i c
    unfold tkK at h
    rw [if_neg c] at h
    (repeat' split at h) <;> omega
theorem tkV_lt (hb : ∀ b ∈ tp, b < 256) : tkV tp e ≤ 9999 := by
  unfold tkV
  split
  · have := dgs_lt (tp := tp) 4 (tkS tp e) 0
    omega
  · have := bt_lt hb (tkS tp e)
    omega
end TK
