/-! the class' reader is made: the own words -/
def NR0 : List (Nat × Nat) := [(11, 16), (20, 1600), (20, 6), (1, 1), (6, 15), (20, 4), (20, 4), (20, 4), (20, 4), (3, 3), (20, 1600), (20, 96), (3, 3), (20, 1600), (20, 96), (3, 3), (20, 1600), (20, 96), (3, 3), (20, 1600), (20, 96), (6, 15), (20, 4), (20, 4), (20, 4), (20, 4), (3, 3), (20, 1600), (20, 96), (3, 3), (20, 1600), (20, 96), (3, 3), (20, 1600), (20, 96), (3, 3), (20, 1600), (20, 96), (9, 15)]
def RR0 (x : Nat) : List (Nat × Nat × Nat) := [(0, 6, x + 21), (21, 14, x + 35), (35, 1, x + 37), (35, 0, x + 36), (21, 13, x + 32), (32, 1, x + 34), (32, 0, x + 33), (21, 12, x + 29), (29, 1, x + 31), (29, 0, x + 30), (21, 11, x + 26), (26, 1, x + 28), (26, 0, x + 27), (21, 10, x + 25), (21, 9, x + 24), (21, 8, x + 23), (21, 7, x + 22), (0, 5, x + 4), (4, 14, x + 18), (18, 1, x + 20), (18, 0, x + 19), (4, 13, x + 15), (15, 1, x + 17), (15, 0, x + 16), (4, 12, x + 12), (12, 1, x + 14), (12, 0, x + 13), (4, 11, x + 9), (9, 1, x + 11), (9, 0, x + 10), (4, 10, x + 8), (4, 9, x + 7), (4, 8, x + 6), (4, 7, x + 5), (0, 3, x + 3), (0, 2, x + 2), (0, 0, x + 1)]
def IL : Nat → List (Nat × Nat × Int32)
  | 0 => [(3, 0, nI 1)]
  | w + 1 => (39, w, nI (packC (ow w))) :: IL w
theorem IL29 : IL 29 = [(39, 28, (nI 24621)), (39, 27, (nI 14637)), (39, 26, (nI 12673)), (39, 25, (nI 20974)), (39, 24, (nI 4545)), (39, 23, (nI 591)), (39, 22, (nI 201)), (39, 21, (nI 4232449)), (39, 20, (nI 26346674)), (39, 19, (nI 20325414)), (39, 18, (nI 249881990)), (39, 17, (nI 146147)), (39, 16, (nI 441926)), (39, 15, (nI 609302190)), (39, 14, (nI 363828)), (39, 13, (nI 20587575)), (39, 12, (nI 20055218)), (39, 11, (nI 20286768)), (39, 10, (nI 20463172)), (39, 9, (nI 642540)), (39, 8, (nI 14855668)), (39, 7, (nI 641)), (39, 6, (nI 468458)), (39, 5, (nI 26259620)), (39, 4, (nI 282672)), (39, 3, (nI 25771)), (39, 2, (nI 787626295)), (39, 1, (nI 665045)), (39, 0, (nI 437439123)), (3, 0, (nI 1))] := rfl
def chN (i : Nat) : Nat := (chS i).toNatClampNeg
/-- packed, letters, words ahead of the byte i -/
def stW : Nat → Nat × Nat × Nat
  | 0 => (0, 0, 0)
  | i + 1 => if chN i = 32 then (0, 0, (stW i).2.2 + 1) else ((stW i).1 + 32 ^ (stW i).2.1 * (chN i - 96), (stW i).2.1 + 1, (stW i).2.2)
def stI (i : Nat) : Prop := chS i = nI (chN i) ∧ (stW i).2.2 < 29 ∧ (chN i = 32 ∧ (stW i).1 = packC (ow (stW i).2.2) ∨ chN i ≠ 32 ∧ 97 ≤ chN i ∧ chN i ≤ 122 ∧ (stW i).2.1 < 6 ∧ (stW i).1 < 32 ^ (stW i).2.1)
def stB (i : Nat) : Bool := decide (chS i = nI (chN i)) && decide ((stW i).2.2 < 29) && (decide (chN i = 32) && decide ((stW i).1 = packC (ow (stW i).2.2)) || decide (chN i ≠ 32) && decide (97 ≤ chN i) && decide (chN i ≤ 122) && decide ((stW i).2.1 < 6) && decide ((stW i).1 < 32 ^ (stW i).2.1))
theorem stB_all : (List.range 150).all stB = true := by decide +kernel
theorem stI_all {i : Nat} (hi : i < 150) : stI i := by
  have h := List.all_eq_true.mp stB_all i (List.mem_range.mpr hi)
  unfold stB at h
  simp only [Bool.and_eq_true, Bool.or_eq_true, decide_eq_true_eq] at h
  obtain ⟨⟨h1, h2⟩, h3⟩ := h
  refine ⟨h1, h2, ?_⟩
  rcases h3 with ⟨a, b⟩ | ⟨⟨⟨⟨a, b⟩, c⟩, d⟩, e⟩
  · exact Or.inl ⟨a, b⟩
  · exact Or.inr ⟨a, b, c, d, e⟩
theorem stW_150 : stW 150 = (0, 0, 29) := by decide +kernel
section RMK
variable {l : Launch} {G : Gx} {d : Nat} {sh : Sh} {f : FI} {g : FL} {fR : FRt} {x : Nat}
def RR1 (x : Nat) : List (Nat × Nat × Nat) := (38, 7, x + 26) :: (38, 6, x + 21) :: (38, 3, x + 1) :: (38, 0, x + 39) :: RR0 x
def NR1 : List (Nat × Nat) := NR0 ++ [(20, 29)]
theorem L_wds (hx : sh.length = x) (hx0 : 0 < x) : ∀ (n i p lt w : Nat) (c7 : Option Value), n + i = 150 → stW i = (p, lt, w) → WP l G (Zq G 1 29 (fun r h => r = none ∧ h = gi sh f g fR x NR1 (RR1 x) (IL 29) [])) mX9_init (rmd (d + 4) 1 29) 0 0 41 [some (.ref (x + 38)), some (.ref (x + 1)), some (.ref (x + 21)), some (.int (nI p)), some (.int (nI lt)), some (.int (nI w)), some (.int (nI i)), c7] [] (gi sh f g fR x NR1 (RR1 x) (IL w) []) := by
  intro n
  have hRl : RmOK (rmd (d + 4) 1 29) (d + 1) mS_len := ⟨by show d + 1 + 1 ≤ d + 4; omega, by show 8 + (1 + 11) + 64 * (d + 1) ≤ 64 * (d + 4); omega⟩
  have hRc : RmOK (rmd (d + 4) 1 29) (d + 3) mS_chr := ⟨by show d + 3 + 1 ≤ d + 4; omega, by show 8 + (2 + 11) + 64 * (d + 3) ≤ 64 * (d + 4); omega⟩
  induction n with
  | zero =>
    intro i p lt w c7 hn hst
    have hi : i = 150 := by omega
    subst hi
    rw [stW_150] at hst
    cases hst
    refine S_iload (pc := 41) dX9_init_41 rfl ?_
    refine S_strLen (d := d) (pc := 43) rfl dX9_init_43 dX9_init_45 rfl hRl ?_
    refine S_icmp_ge (pc := 48) (tgt := 117) dX9_init_48 rfl (fun _ => ?_) (fun c => absurd (nI_le (Nat.le_refl _) (by decide)) c)
    exact S_vreturn (R := rmd (d + 4) 1 29) (pc := 117) dX9_init_117 rfl ⟨rfl, rfl⟩
  | succ n ih =>
    intro i p lt w c7 hn hst
    have hi : i < 150 := by omega
    obtain ⟨hc, hw, hcase⟩ := stI_all hi
    rw [hst] at hw hcase
    dsimp only at hw hcase
    refine S_iload (pc := 41) dX9_init_41 rfl ?_
    refine S_strLen (d := d) (pc := 43) rfl dX9_init_43 dX9_init_45 rfl hRl ?_
    refine S_icmp_ge (pc := 48) (tgt := 117) dX9_init_48 rfl (fun c => absurd c (nI_ge hi (by decide))) (fun _ => ?_)
    refine S_iload (pc := 51) dX9_init_51 rfl ?_
    refine S_bipush (pc := 53) (v := nI 29) dX9_init_53 (by decide) ?_
    refine S_icmp_ge (pc := 55) (tgt := 117) dX9_init_55 rfl (fun c => absurd c (nI_ge hw (by decide))) (fun _ => ?_)
    refine S_strChr (d := d) (i := i) (j := 6) (pc := 58) hi rfl dX9_init_58 dX9_init_60 rfl dX9_init_62 rfl hRc ?_
    refine S_istore (pc := 65) (L' := [some (.ref (x + 38)), some (.ref (x + 1)), some (.ref (x + 21)), some (.int (nI p)), some (.int (nI lt)), some (.int (nI w)), some (.int (nI i)), some (.int (chS i))]) dX9_init_65 (by decide) rfl ?_
    refine S_iload (pc := 67) dX9_init_67 rfl ?_
    refine S_bipush (pc := 69) (v := nI 32) dX9_init_69 (by decide) ?_
    have hl256 : chN i < 2 ^ 31 := by rcases hcase with z | z <;> omega
    refine S_icmp_ne (pc := 71) (tgt := 93) dX9_init_71 rfl (fun c => ?_) (fun c => ?_)
    · rw [hc, nI_eq hl256 (by decide)] at c
      obtain ⟨c0, c1, c2, c3, c4⟩ : chN i ≠ 32 ∧ 97 ≤ chN i ∧ chN i ≤ 122 ∧ lt < 6 ∧ p < 32 ^ lt := by
        rcases hcase with z | z
        · exact absurd z.1 c
        · exact z
      have hst' : stW (i + 1) = (p + 32 ^ lt * (chN i - 96), lt + 1, w) := by
        show (if chN i = 32 then _ else _) = _
        rw [if_neg c, hst]
      refine S_iload_n (pc := 93) (i := 3) dX9_init_93 rfl rfl ?_
      refine S_iload (pc := 94) dX9_init_94 rfl ?_
      refine S_bipush (pc := 96) (v := nI 97) dX9_init_96 (by decide) ?_
      refine S_isub (pc := 98) dX9_init_98 ?_
      refine S_iconst (pc := 99) (v := nI 1) dX9_init_99 (by decide) ?_
      refine S_iadd (pc := 100) dX9_init_100 ?_
      refine S_iconst (pc := 101) (v := nI 5) dX9_init_101 (by decide) ?_
      refine S_iload (pc := 102) dX9_init_102 rfl ?_
      refine S_imul (pc := 104) dX9_init_104 ?_
      refine S_ishl (pc := 105) dX9_init_105 ?_
      refine S_ior (pc := 106) dX9_init_106 ?_
      rw [hc, pk_sub c1, nI_add, show chN i - 97 + 1 = chN i - 96 by omega, pk_pack c3 c4 (by omega)]
      refine S_istore_n (pc := 107) (i := 3) (L' := [some (.ref (x + 38)), some (.ref (x + 1)), some (.ref (x + 21)), some (.int (nI (p + 32 ^ lt * (chN i - 96)))), some (.int (nI lt)), some (.int (nI w)), some (.int (nI i)), some (.int (nI (chN i)))]) dX9_init_107 rfl (by decide) rfl ?_
      refine S_iinc (pc := 108) (v := nI 1) (L' := [some (.ref (x + 38)), some (.ref (x + 1)), some (.ref (x + 21)), some (.int (nI (p + 32 ^ lt * (chN i - 96)))), some (.int (nI (lt + 1))), some (.int (nI w)), some (.int (nI i)), some (.int (nI (chN i)))]) dX9_init_108 rfl (by decide) (by rw [nI_add]; rfl) ?_
      refine S_iinc (pc := 111) (v := nI 1) (L' := [some (.ref (x + 38)), some (.ref (x + 1)), some (.ref (x + 21)), some (.int (nI (p + 32 ^ lt * (chN i - 96)))), some (.int (nI (lt + 1))), some (.int (nI w)), some (.int (nI (i + 1))), some (.int (nI (chN i)))]) dX9_init_111 rfl (by decide) (by rw [nI_add]; rfl) ?_
      refine S_goto (pc := 114) (tgt := 41) dX9_init_114 rfl ?_
      exact ih (i + 1) _ _ _ _ (by omega) hst'
    · rw [hc, nI_eq hl256 (by decide)] at c
      have hp : p = packC (ow w) := by
        rcases hcase with z | z
        · exact z.2
        · exact absurd c z.1
      have hst' : stW (i + 1) = (0, 0, w + 1) := by
        show (if chN i = 32 then _ else _) = _
        rw [if_pos c, hst]
      refine S_aload_n (pc := 74) (i := 0) dX9_init_74 rfl rfl ?_
      refine I_getR (pc := 75) (i := 38) (t := x + 39) dX9_init_75 flX9_11 hx rfl (fun _ => rfl) rfl ?_
      refine S_iload (pc := 78) dX9_init_78 rfl ?_
      refine S_iload_n (pc := 80) (i := 3) dX9_init_80 rfl rfl ?_
      refine I_iast (pc := 81) (i := 39) (j := w) dX9_init_81 hx hx0 rfl (by decide) hw ?_
      have eI : (39, w, nI p) :: IL w = IL (w + 1) := by rw [hp]; rfl
      rw [eI]
      refine S_iinc (pc := 82) (v := nI 1) (L' := [some (.ref (x + 38)), some (.ref (x + 1)), some (.ref (x + 21)), some (.int (nI p)), some (.int (nI lt)), some (.int (nI (w + 1))), some (.int (nI i)), some (.int (chS i))]) dX9_init_82 rfl (by decide) (by rw [nI_add]; rfl) ?_
      refine S_iconst (pc := 85) (v := nI 0) dX9_init_85 (by decide) ?_
      refine S_istore_n (pc := 86) (i := 3) (L' := [some (.ref (x + 38)), some (.ref (x + 1)), some (.ref (x + 21)), some (.int (nI 0)), some (.int (nI lt)), some (.int (nI (w + 1))), some (.int (nI i)), some (.int (chS i))]) dX9_init_86 rfl (by decide) rfl ?_
      refine S_iconst (pc := 87) (v := nI 0) dX9_init_87 (by decide) ?_
      refine S_istore (pc := 88) (L' := [some (.ref (x + 38)), some (.ref (x + 1)), some (.ref (x + 21)), some (.int (nI 0)), some (.int (nI 0)), some (.int (nI (w + 1))), some (.int (nI i)), some (.int (chS i))]) dX9_init_88 (by decide) rfl ?_
      refine S_goto (pc := 90) (tgt := 111) dX9_init_90 rfl ?_
      refine S_iinc (pc := 111) (v := nI 1) (L' := [some (.ref (x + 38)), some (.ref (x + 1)), some (.ref (x + 21)), some (.int (nI 0)), some (.int (nI 0)), some (.int (nI (w + 1))), some (.int (nI (i + 1))), some (.int (chS i))]) dX9_init_111 rfl (by decide) (by rw [nI_add]; rfl) ?_
      refine S_goto (pc := 114) (tgt := 41) dX9_init_114 rfl ?_
      exact ih (i + 1) _ _ _ _ (by omega) hst'
theorem I_X9 (hx : sh.length = x) (hx0 : 0 < x) : Cl l G (d + 4) 1 29 mX9_init [.ref (x + 38), .ref (x + 1), .ref (x + 21)] (gi sh f g fR x NR0 (RR0 x) [(3, 0, (nI 1))] []) (fun r h => r = none ∧ h = gi sh f g fR x NR1 (RR1 x) (IL 29) []) := by
  refine Cl.of (L0 := [some (.ref (x + 38)), some (.ref (x + 1)), some (.ref (x + 21)), none, none, none, none, none]) miX9_init rfl rfl ?_
  refine S_aload_n (pc := 0) (i := 0) dX9_init_0 rfl rfl ?_
  refine S_objInit (pc := 1) dX9_init_1 mlX9_3 miO mcO ⟨by show 1 ≤ d + 4; omega, by show 0 + 12 ≤ 64 * (d + 4); omega⟩ ?_
  refine S_aload_n (pc := 4) (i := 0) dX9_init_4 rfl rfl ?_
  refine S_bipush (pc := 5) (v := nI 29) dX9_init_5 (by decide) ?_
  refine S_newa20 (pc := 7) (N := 29) (kc := 0) (ks := 0) dX9_init_7 (gw 39 rfl rfl) (by decide) (by decide) (by decide) ?_
  refine I_nw hx rfl rfl rfl ?_
  show WP _ _ _ _ _ 0 0 9 [some (.ref (x + 38)), some (.ref (x + 1)), some (.ref (x + 21)), none, none, none, none, none] [.ref (x + 39), .ref (x + 38)] (gi sh f g fR x NR1 (RR0 x) [(3, 0, (nI 1))] [])
  refine I_putR (pc := 9) (i := 38) dX9_init_9 flX9_11 hx hx0 rfl (ff_9_0 rfl rfl) (fun _ => rfl) (fun _ => rfl) (fun _ => rfl) ?_
  refine S_aload_n (pc := 12) (i := 0) dX9_init_12 rfl rfl ?_
  refine S_aload_n (pc := 13) (i := 1) dX9_init_13 rfl rfl ?_
  refine I_putR (pc := 14) (i := 38) dX9_init_14 flX9_15 hx hx0 rfl (ff_9_3 rfl rfl) (fun _ => rfl) (fun _ => rfl) (fun _ => rfl) ?_
  refine S_aload_n (pc := 17) (i := 0) dX9_init_17 rfl rfl ?_
  refine S_aload_n (pc := 18) (i := 2) dX9_init_18 rfl rfl ?_
  refine I_putR (pc := 19) (i := 38) dX9_init_19 flX9_18 hx hx0 rfl (nf_9_6) (fun _ => rfl) (fun _ => rfl) (fun _ => rfl) ?_
  refine S_aload_n (pc := 22) (i := 0) dX9_init_22 rfl rfl ?_
  refine S_aload_n (pc := 23) (i := 2) dX9_init_23 rfl rfl ?_
  refine I_getR (pc := 24) (i := 21) (t := x + 26) dX9_init_24 flX9_22 hx rfl (fun _ => rfl) rfl ?_
  refine I_putR (pc := 27) (i := 38) dX9_init_27 flX9_28 hx hx0 rfl (nf_9_7) (fun _ => rfl) (fun _ => rfl) (fun _ => rfl) ?_
  refine S_iconst (pc := 30) (v := nI 0) dX9_init_30 (by decide) ?_
  refine S_istore_n (pc := 31) (i := 3) (L' := [some (.ref (x + 38)), some (.ref (x + 1)), some (.ref (x + 21)), some (.int (nI 0)), none, none, none, none]) dX9_init_31 rfl (by decide) rfl ?_
  refine S_iconst (pc := 32) (v := nI 0) dX9_init_32 (by decide) ?_
  refine S_istore (pc := 33) (L' := [some (.ref (x + 38)), some (.ref (x + 1)), some (.ref (x + 21)), some (.int (nI 0)), some (.int (nI 0)), none, none, none]) dX9_init_33 (by decide) rfl ?_
  refine S_iconst (pc := 35) (v := nI 0) dX9_init_35 (by decide) ?_
  refine S_istore (pc := 36) (L' := [some (.ref (x + 38)), some (.ref (x + 1)), some (.ref (x + 21)), some (.int (nI 0)), some (.int (nI 0)), some (.int (nI 0)), none, none]) dX9_init_36 (by decide) rfl ?_
  refine S_iconst (pc := 38) (v := nI 0) dX9_init_38 (by decide) ?_
  refine S_istore (pc := 39) (L' := [some (.ref (x + 38)), some (.ref (x + 1)), some (.ref (x + 21)), some (.int (nI 0)), some (.int (nI 0)), some (.int (nI 0)), some (.int (nI 0)), none]) dX9_init_39 (by decide) rfl ?_
  exact L_wds hx hx0 150 0 0 0 0 none rfl rfl
end RMK
