/-! Math.min, max, floorDiv, floorMod -/
theorem dJ_min_0 : decode prog_15_method_69_code 0 = .ok (.iload_n 0, 1) := by decide +kernel
theorem dJ_min_1 : decode prog_15_method_69_code 1 = .ok (.iload_n 1, 1) := by decide +kernel
theorem dJ_min_2 : decode prog_15_method_69_code 2 = .ok (.if_icmp .gt 7, 3) := by decide +kernel
theorem dJ_min_5 : decode prog_15_method_69_code 5 = .ok (.iload_n 0, 1) := by decide +kernel
theorem dJ_min_6 : decode prog_15_method_69_code 6 = .ok (.goto 4, 3) := by decide +kernel
theorem dJ_min_9 : decode prog_15_method_69_code 9 = .ok (.iload_n 1, 1) := by decide +kernel
theorem dJ_min_10 : decode prog_15_method_69_code 10 = .ok (.ireturn, 1) := by decide +kernel
theorem dJ_max_0 : decode prog_15_method_65_code 0 = .ok (.iload_n 0, 1) := by decide +kernel
theorem dJ_max_1 : decode prog_15_method_65_code 1 = .ok (.iload_n 1, 1) := by decide +kernel
theorem dJ_max_2 : decode prog_15_method_65_code 2 = .ok (.if_icmp .lt 7, 3) := by decide +kernel
theorem dJ_max_5 : decode prog_15_method_65_code 5 = .ok (.iload_n 0, 1) := by decide +kernel
theorem dJ_max_6 : decode prog_15_method_65_code 6 = .ok (.goto 4, 3) := by decide +kernel
theorem dJ_max_9 : decode prog_15_method_65_code 9 = .ok (.iload_n 1, 1) := by decide +kernel
theorem dJ_max_10 : decode prog_15_method_65_code 10 = .ok (.ireturn, 1) := by decide +kernel
theorem dJ_fd_0 : decode prog_15_method_47_code 0 = .ok (.iload_n 0, 1) := by decide +kernel
theorem dJ_fd_1 : decode prog_15_method_47_code 1 = .ok (.iload_n 1, 1) := by decide +kernel
theorem dJ_fd_2 : decode prog_15_method_47_code 2 = .ok (.idiv, 1) := by decide +kernel
theorem dJ_fd_3 : decode prog_15_method_47_code 3 = .ok (.istore_n 2, 1) := by decide +kernel
theorem dJ_fd_4 : decode prog_15_method_47_code 4 = .ok (.iload_n 0, 1) := by decide +kernel
theorem dJ_fd_5 : decode prog_15_method_47_code 5 = .ok (.iload_n 1, 1) := by decide +kernel
theorem dJ_fd_6 : decode prog_15_method_47_code 6 = .ok (.ixor, 1) := by decide +kernel
theorem dJ_fd_7 : decode prog_15_method_47_code 7 = .ok (.ifCond .ge 14, 3) := by decide +kernel
theorem dJ_fd_10 : decode prog_15_method_47_code 10 = .ok (.iload_n 2, 1) := by decide +kernel
theorem dJ_fd_11 : decode prog_15_method_47_code 11 = .ok (.iload_n 1, 1) := by decide +kernel
theorem dJ_fd_12 : decode prog_15_method_47_code 12 = .ok (.imul, 1) := by decide +kernel
theorem dJ_fd_13 : decode prog_15_method_47_code 13 = .ok (.iload_n 0, 1) := by decide +kernel
theorem dJ_fd_14 : decode prog_15_method_47_code 14 = .ok (.if_icmp .eq 7, 3) := by decide +kernel
theorem dJ_fd_17 : decode prog_15_method_47_code 17 = .ok (.iload_n 2, 1) := by decide +kernel
theorem dJ_fd_18 : decode prog_15_method_47_code 18 = .ok (.iconst 1, 1) := by decide +kernel
theorem dJ_fd_19 : decode prog_15_method_47_code 19 = .ok (.isub, 1) := by decide +kernel
theorem dJ_fd_20 : decode prog_15_method_47_code 20 = .ok (.ireturn, 1) := by decide +kernel
theorem dJ_fd_21 : decode prog_15_method_47_code 21 = .ok (.iload_n 2, 1) := by decide +kernel
theorem dJ_fd_22 : decode prog_15_method_47_code 22 = .ok (.ireturn, 1) := by decide +kernel
theorem dJ_fm_0 : decode prog_15_method_50_code 0 = .ok (.iload_n 0, 1) := by decide +kernel
theorem dJ_fm_1 : decode prog_15_method_50_code 1 = .ok (.iload_n 1, 1) := by decide +kernel
theorem dJ_fm_2 : decode prog_15_method_50_code 2 = .ok (.irem, 1) := by decide +kernel
theorem dJ_fm_3 : decode prog_15_method_50_code 3 = .ok (.istore_n 2, 1) := by decide +kernel
theorem dJ_fm_4 : decode prog_15_method_50_code 4 = .ok (.iload_n 0, 1) := by decide +kernel
theorem dJ_fm_5 : decode prog_15_method_50_code 5 = .ok (.iload_n 1, 1) := by decide +kernel
theorem dJ_fm_6 : decode prog_15_method_50_code 6 = .ok (.ixor, 1) := by decide +kernel
theorem dJ_fm_7 : decode prog_15_method_50_code 7 = .ok (.ifCond .ge 11, 3) := by decide +kernel
theorem dJ_fm_10 : decode prog_15_method_50_code 10 = .ok (.iload_n 2, 1) := by decide +kernel
theorem dJ_fm_11 : decode prog_15_method_50_code 11 = .ok (.ifCond .eq 7, 3) := by decide +kernel
theorem dJ_fm_14 : decode prog_15_method_50_code 14 = .ok (.iload_n 2, 1) := by decide +kernel
theorem dJ_fm_15 : decode prog_15_method_50_code 15 = .ok (.iload_n 1, 1) := by decide +kernel
theorem dJ_fm_16 : decode prog_15_method_50_code 16 = .ok (.iadd, 1) := by decide +kernel
theorem dJ_fm_17 : decode prog_15_method_50_code 17 = .ok (.ireturn, 1) := by decide +kernel
theorem dJ_fm_18 : decode prog_15_method_50_code 18 = .ok (.iload_n 2, 1) := by decide +kernel
theorem dJ_fm_19 : decode prog_15_method_50_code 19 = .ok (.ireturn, 1) := by decide +kernel
section J1
variable {l : Launch} {G : Gx} {d : Nat} {sh : Sh} {fR : FRt} {f : FI} {g : FL} {K : Int32 → FI → FL → Prop}
theorem D_min {a b : Int32} (H1 : b < a → K b f g) (H2 : ¬ b < a → K a f g) : Cl l G d 0 0 mJ_min [.int a, .int b] (sh, f, g, fR) (qi sh fR K) := by
  refine Cl.ofF (L0 := [some (.int a), some (.int b)]) (by decide +kernel) rfl rfl ?_
  refine S_iload_n (pc := 0) dJ_min_0 rfl rfl ?_
  refine S_iload_n (pc := 1) dJ_min_1 rfl rfl ?_
  refine S_icmp_gt (pc := 2) (tgt := 9) dJ_min_2 rfl (fun c => ?_) (fun c => ?_)
  · refine S_iload_n (pc := 9) dJ_min_9 rfl rfl ?_
    exact S_ireturn dJ_min_10 rfl ⟨_, _, _, rfl, rfl, H1 c⟩
  · refine S_iload_n (pc := 5) dJ_min_5 rfl rfl ?_
    refine S_goto (pc := 6) (tgt := 10) dJ_min_6 rfl ?_
    exact S_ireturn dJ_min_10 rfl ⟨_, _, _, rfl, rfl, H2 c⟩
theorem D_max {a b : Int32} (H1 : a < b → K b f g) (H2 : ¬ a < b → K a f g) : Cl l G d 0 0 mJ_max [.int a, .int b] (sh, f, g, fR) (qi sh fR K) := by
  refine Cl.ofF (L0 := [some (.int a), some (.int b)]) (by decide +kernel) rfl rfl ?_
  refine S_iload_n (pc := 0) dJ_max_0 rfl rfl ?_
  refine S_iload_n (pc := 1) dJ_max_1 rfl rfl ?_
  refine S_icmp_lt (pc := 2) (tgt := 9) dJ_max_2 rfl (fun c => ?_) (fun c => ?_)
  · refine S_iload_n (pc := 9) dJ_max_9 rfl rfl ?_
    exact S_ireturn dJ_max_10 rfl ⟨_, _, _, rfl, rfl, H1 c⟩
  · refine S_iload_n (pc := 5) dJ_max_5 rfl rfl ?_
    refine S_goto (pc := 6) (tgt := 10) dJ_max_6 rfl ?_
    exact S_ireturn dJ_max_10 rfl ⟨_, _, _, rfl, rfl, H2 c⟩
theorem D_minN {a b : Nat} (ha : a < 2 ^ 31) (hb : b < 2 ^ 31) (H : K (nI (minS a b)) f g) : Cl l G d 0 0 mJ_min [.int (nI a), .int (nI b)] (sh, f, g, fR) (qi sh fR K) := by
  refine D_min (fun c => ?_) (fun c => ?_)
  · rw [nI_ltI hb ha] at c
    unfold minS at H
    rwa [if_neg (by omega)] at H
  · rw [nI_ltI hb ha] at c
    unfold minS at H
    by_cases e : a < b
    · rwa [if_pos e] at H
    · rw [if_neg e] at H
      have : a = b := by omega
      rwa [this]
theorem D_maxN {a b : Nat} (ha : a < 2 ^ 31) (hb : b < 2 ^ 31) (H : K (nI (maxS a b)) f g) : Cl l G d 0 0 mJ_max [.int (nI a), .int (nI b)] (sh, f, g, fR) (qi sh fR K) := by
  refine D_max (fun c => ?_) (fun c => ?_)
  · rw [nI_ltI ha hb] at c
    unfold maxS at H
    rwa [if_neg (by omega)] at H
  · rw [nI_ltI ha hb] at c
    unfold maxS at H
    by_cases e : b < a
    · rwa [if_pos e] at H
    · rw [if_neg e] at H
      have : a = b := by omega
      rwa [this]
theorem xor_pos (a b : Int32) : 0 ≤ a ^^^ b ↔ (a.toInt < 0 ↔ b.toInt < 0) := by
  have e : (a ^^^ b).toBitVec.msb = (a.toBitVec.msb ^^ b.toBitVec.msb) := by rw [Int32.toBitVec_xor, BitVec.msb_xor]
  rw [BitVec.msb_eq_toInt, BitVec.msb_eq_toInt, BitVec.msb_eq_toInt] at e
  replace e : decide ((a ^^^ b).toInt < 0) = (decide (a.toInt < 0) ^^ decide (b.toInt < 0)) := e
  rw [Kit.i32_nonneg]
  by_cases h1 : a.toInt < 0 <;> by_cases h2 : b.toInt < 0
  · simp [h1, h2] at e ⊢; omega
  · simp [h1, h2] at e ⊢; omega
  · simp [h1, h2] at e ⊢; omega
  · simp [h1, h2] at e ⊢; omega
theorem i32_remF (x y : Int32) : (x - (x / y) * y).toInt = x.toInt.tmod y.toInt := by
  have a := (x % y).toInt_lt; have b := (x % y).le_toInt
  rw [Int32.toInt_mod] at a b
  rw [Int32.toInt_sub, Int32.toInt_mul, Int32.toInt_div, Int.bmod_mul_bmod, Int.sub_bmod_bmod, Int.mul_comm, ← Int.tmod_def]
  exact Kit.bmod32 b a
theorem nI1_toInt : (nI 1).toInt = 1 := by decide
theorem D_floorDiv {a b : Int32} (ha : rng a.toInt) (hb : rng b.toInt) (h0 : ¬ b = 0) (H : ∀ z : Int32, z.toInt = Int.fdiv a.toInt b.toInt → K z f g) : Cl l G d 0 0 mJ_floorDiv [.int a, .int b] (sh, f, g, fR) (qi sh fR K) := by
  have c0 : ¬ b.toInt = 0 := fun z => h0 (Int32.toInt_inj.mp (by rw [z]; rfl))
  have ha1 := ha.1
  have ha2 := ha.2
  have hb1 := hb.1
  have hb2 := hb.2
  have hd : (a / b).toInt = a.toInt.tdiv b.toInt := Kit.i32_div (by omega)
  have hdr : (-1000000 : Int) ≤ a.toInt.tdiv b.toInt ∧ a.toInt.tdiv b.toInt ≤ 1000000 := by
    have h1 := Int.natAbs_tdiv_le_natAbs a.toInt b.toInt
    omega
  have hmod : a.toInt.tmod b.toInt = a.toInt - b.toInt * a.toInt.tdiv b.toInt := Int.tmod_def a.toInt b.toInt
  have hmul : ((a / b) * b = a) ↔ a.toInt.tmod b.toInt = 0 := by
    have e := i32_remF a b
    constructor
    · intro z
      rw [← e, z]
      simp
    · intro z
      rw [z] at e
      have : a - a / b * b = 0 := Int32.toInt_inj.mp (by rw [e]; rfl)
      have h2 := congrArg (fun u => u + a / b * b) this
      simp only [Int32.sub_add_cancel, Int32.zero_add] at h2
      exact h2.symm
  refine Cl.ofF (L0 := [some (.int a), some (.int b), none]) (by decide +kernel) rfl rfl ?_
  refine S_iload_n (pc := 0) dJ_fd_0 rfl rfl ?_
  refine S_iload_n (pc := 1) dJ_fd_1 rfl rfl ?_
  refine S_idiv (pc := 2) dJ_fd_2 h0 ?_
  refine S_istore_n (pc := 3) (L' := [some (.int a), some (.int b), some (.int (a / b))]) dJ_fd_3 rfl (by decide) rfl ?_
  refine S_iload_n (pc := 4) dJ_fd_4 rfl rfl ?_
  refine S_iload_n (pc := 5) dJ_fd_5 rfl rfl ?_
  refine S_ixor (pc := 6) dJ_fd_6 ?_
  refine S_if_ge (pc := 7) (tgt := 21) dJ_fd_7 rfl (fun c => ?_) (fun c => ?_)
  · rw [xor_pos] at c
    refine S_iload_n (pc := 21) dJ_fd_21 rfl rfl ?_
    refine S_ireturn dJ_fd_22 rfl ⟨_, _, _, rfl, rfl, H _ ?_⟩
    rw [hd, fdiv_of c0]
    by_cases hm : a.toInt.tmod b.toInt = 0
    · rw [if_pos hm]
    · rw [if_neg hm, if_neg (by simp only [ne_eq, eq_iff_iff, Decidable.not_not]; exact c)]
  · rw [xor_pos] at c
    refine S_iload_n (pc := 10) dJ_fd_10 rfl rfl ?_
    refine S_iload_n (pc := 11) dJ_fd_11 rfl rfl ?_
    refine S_imul (pc := 12) dJ_fd_12 ?_
    refine S_iload_n (pc := 13) dJ_fd_13 rfl rfl ?_
    refine S_icmp_eq (pc := 14) (tgt := 21) dJ_fd_14 rfl (fun c2 => ?_) (fun c2 => ?_)
    · refine S_iload_n (pc := 21) dJ_fd_21 rfl rfl ?_
      refine S_ireturn dJ_fd_22 rfl ⟨_, _, _, rfl, rfl, H _ ?_⟩
      rw [hd, fdiv_of c0, if_pos (hmul.mp c2)]
    · refine S_iload_n (pc := 17) dJ_fd_17 rfl rfl ?_
      refine S_iconst (pc := 18) dJ_fd_18 ic1 ?_
      refine S_isub (pc := 19) dJ_fd_19 ?_
      refine S_ireturn dJ_fd_20 rfl ⟨_, _, _, rfl, rfl, H _ ?_⟩
      rw [fdiv_of c0, if_neg (fun z => c2 (hmul.mpr z)), if_pos (by simp only [ne_eq, eq_iff_iff]; exact c), Kit.i32_sub (by rw [hd, nI1_toInt]; omega) (by rw [hd, nI1_toInt]; omega), hd, nI1_toInt]
theorem D_floorMod {a b : Int32} (ha : rng a.toInt) (hb : rng b.toInt) (h0 : ¬ b = 0) (H : ∀ z : Int32, z.toInt = a.toInt - b.toInt * Int.fdiv a.toInt b.toInt → K z f g) : Cl l G d 0 0 mJ_floorMod [.int a, .int b] (sh, f, g, fR) (qi sh fR K) := by
  have c0 : ¬ b.toInt = 0 := fun z => h0 (Int32.toInt_inj.mp (by rw [z]; rfl))
  have ha1 := ha.1
  have ha2 := ha.2
  have hb1 := hb.1
  have hb2 := hb.2
  have hm := i32_remF a b
  have hmod : a.toInt.tmod b.toInt = a.toInt - b.toInt * a.toInt.tdiv b.toInt := Int.tmod_def a.toInt b.toInt
  have hmr : (-1000000 : Int) ≤ a.toInt.tmod b.toInt ∧ a.toInt.tmod b.toInt ≤ 1000000 := by
    have h1 : (a.toInt.tmod b.toInt).natAbs ≤ a.toInt.natAbs := by
      rw [Int.natAbs_tmod]
      exact Nat.mod_le _ _
    omega
  have hz : (a - a / b * b = 0) ↔ a.toInt.tmod b.toInt = 0 := by
    rw [← hm]
    constructor
    · intro z; rw [z]; rfl
    · intro z; exact Int32.toInt_inj.mp (by rw [z]; rfl)
  refine Cl.ofF (L0 := [some (.int a), some (.int b), none]) (by decide +kernel) rfl rfl ?_
  refine S_iload_n (pc := 0) dJ_fm_0 rfl rfl ?_
  refine S_iload_n (pc := 1) dJ_fm_1 rfl rfl ?_
  refine S_irem (pc := 2) dJ_fm_2 h0 ?_
  refine S_istore_n (pc := 3) (L' := [some (.int a), some (.int b), some (.int (a - a / b * b))]) dJ_fm_3 rfl (by decide) rfl ?_
  refine S_iload_n (pc := 4) dJ_fm_4 rfl rfl ?_
  refine S_iload_n (pc := 5) dJ_fm_5 rfl rfl ?_
  refine S_ixor (pc := 6) dJ_fm_6 ?_
  have same : (a.toInt < 0 ↔ b.toInt < 0) → (a - a / b * b).toInt = a.toInt - b.toInt * Int.fdiv a.toInt b.toInt := by
    intro c
    rw [hm, hmod, fdiv_of c0]
    by_cases hq : a.toInt.tmod b.toInt = 0
    · rw [if_pos hq]
    · rw [if_neg hq, if_neg (by simp only [ne_eq, eq_iff_iff, Decidable.not_not]; exact c)]
  refine S_if_ge (pc := 7) (tgt := 18) dJ_fm_7 rfl (fun c => ?_) (fun c => ?_)
  · rw [xor_pos] at c
    refine S_iload_n (pc := 18) dJ_fm_18 rfl rfl ?_
    exact S_ireturn dJ_fm_19 rfl ⟨_, _, _, rfl, rfl, H _ (same c)⟩
  · rw [xor_pos] at c
    refine S_iload_n (pc := 10) dJ_fm_10 rfl rfl ?_
    refine S_if_eq (pc := 11) (tgt := 18) dJ_fm_11 rfl (fun c2 => ?_) (fun c2 => ?_)
    · refine S_iload_n (pc := 18) dJ_fm_18 rfl rfl ?_
      refine S_ireturn dJ_fm_19 rfl ⟨_, _, _, rfl, rfl, H _ ?_⟩
      rw [hm, hmod, fdiv_of c0, if_pos (hz.mp c2)]
    · refine S_iload_n (pc := 14) dJ_fm_14 rfl rfl ?_
      refine S_iload_n (pc := 15) dJ_fm_15 rfl rfl ?_
      refine S_iadd (pc := 16) dJ_fm_16 ?_
      refine S_ireturn dJ_fm_17 rfl ⟨_, _, _, rfl, rfl, H _ ?_⟩
      rw [fdiv_of c0, if_neg (fun z => c2 (hz.mpr z)), if_pos (by simp only [ne_eq, eq_iff_iff]; exact c), Kit.i32_add (by rw [hm]; omega) (by rw [hm]; omega), hm, hmod, Int.mul_sub]
      omega
end J1
