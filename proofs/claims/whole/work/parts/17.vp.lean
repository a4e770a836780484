set_option maxHeartbeats 2000000 in
set_option maxRecDepth 4000 in
theorem VX0_copyFrom {l : Launch} {G : Gx} {d : Nat} {Q : Option Value → Hp → Prop} {sh : Sh} {fR : FRt} {x y : Nat} {f : FI} {g : FL}  (hs : StW sh fR x) (hy : StW sh fR y)
    (H : acOK (nI 0) (nI 0) (f (y + 14) 5) 512 512 ∧ acOK (nI 0) (nI 0) (f (y + 14) 5) 512 512 ∧ acOK (nI 0) (nI 0) (f (y + 14) 5) 512 512 ∧ acOK (nI 0) (nI 0) (f (y + 14) 5) 512 512 ∧ acOK (nI 0) (nI 0) (f (y + 14) 5) 512 512 ∧ Q none (sh, (cpy (cpy (cpy (cpy (cpy (up2 f (x + 14) 5 (f (y + 14) 5)) (y + 15) (x + 15) 0 0 (f (y + 14) 5).toNatClampNeg) (y + 16) (x + 16) 0 0 (f (y + 14) 5).toNatClampNeg) (y + 17) (x + 17) 0 0 (f (y + 14) 5).toNatClampNeg) (y + 18) (x + 18) 0 0 (f (y + 14) 5).toNatClampNeg) (y + 19) (x + 19) 0 0 (f (y + 14) 5).toNatClampNeg), g, fR)) :
    Cl l G (d + 1) 0 0 mX0_copyFrom [.ref (x + 14), .ref (y + 14)] (sh, f, g, fR) Q := by
  refine Cl.of (L0 := [some (.ref (x + 14)), some (.ref (y + 14))]) miX0_copyFrom rfl rfl ?_
  refine S_aload_n (pc := 0) dX0_copyFrom_0 rfl rfl ?_
  refine S_aload_n (pc := 1) dX0_copyFrom_1 rfl rfl ?_
  refine S_get (pc := 2) (v := .int (f (y + 14) 5)) dX0_copyFrom_2 flX0_25 (sW_14 hy) rfl ?_
  refine S_putI (pc := 5) dX0_copyFrom_5 flX0_25 (sW_14 hs) (Nat.succ_pos _) (nf_0_5) rfl rfl (fun _ => rfl) ?_
  refine S_aload_n (pc := 8) dX0_copyFrom_8 rfl rfl ?_
  refine S_getR (pc := 9) dX0_copyFrom_9 flX0_9 (sW_14 hy) rfl (rW_14_0 hy) ?_
  refine S_iconst (pc := 12) dX0_copyFrom_12 ic0 ?_
  refine S_aload_n (pc := 13) dX0_copyFrom_13 rfl rfl ?_
  refine S_getR (pc := 14) dX0_copyFrom_14 flX0_9 (sW_14 hs) rfl (rW_14_0 hs) ?_
  refine S_iconst (pc := 17) dX0_copyFrom_17 ic0 ?_
  refine S_aload_n (pc := 18) dX0_copyFrom_18 rfl rfl ?_
  refine S_get (pc := 19) (v := .int ((up2 f (x + 14) 5 (f (y + 14) 5)) (x + 14) 5)) dX0_copyFrom_19 flX0_25 (sW_14 hs) rfl ?_
  refine S_eqi (x := f (y + 14) 5) up2_eq ?_
  obtain ⟨hb1, H⟩ := H
  refine S_acpy (pc := 22) dX0_copyFrom_22 mlX0_29 (sW_15 hy) (sW_15 hs) (Or.inl rfl) (Nat.succ_pos _) hb1 acR ?_
  show WP _ _ _ _ _ _ _ 25 _ _ (sh, (cpy (up2 f (x + 14) 5 (f (y + 14) 5)) (y + 15) (x + 15) 0 0 (f (y + 14) 5).toNatClampNeg), g, fR)
  refine S_aload_n (pc := 25) dX0_copyFrom_25 rfl rfl ?_
  refine S_getR (pc := 26) dX0_copyFrom_26 flX0_13 (sW_14 hy) rfl (rW_14_1 hy) ?_
  refine S_iconst (pc := 29) dX0_copyFrom_29 ic0 ?_
  refine S_aload_n (pc := 30) dX0_copyFrom_30 rfl rfl ?_
  refine S_getR (pc := 31) dX0_copyFrom_31 flX0_13 (sW_14 hs) rfl (rW_14_1 hs) ?_
  refine S_iconst (pc := 34) dX0_copyFrom_34 ic0 ?_
  refine S_aload_n (pc := 35) dX0_copyFrom_35 rfl rfl ?_
  refine S_get (pc := 36) (v := .int ((cpy (up2 f (x + 14) 5 (f (y + 14) 5)) (y + 15) (x + 15) 0 0 (f (y + 14) 5).toNatClampNeg) (x + 14) 5)) dX0_copyFrom_36 flX0_25 (sW_14 hs) rfl ?_
  refine S_eqi (x := f (y + 14) 5) ((cpy_r (by omega)).trans up2_eq) ?_
  obtain ⟨hb2, H⟩ := H
  refine S_acpy (pc := 39) dX0_copyFrom_39 mlX0_29 (sW_16 hy) (sW_16 hs) (Or.inl rfl) (Nat.succ_pos _) hb2 acR ?_
  show WP _ _ _ _ _ _ _ 42 _ _ (sh, (cpy (cpy (up2 f (x + 14) 5 (f (y + 14) 5)) (y + 15) (x + 15) 0 0 (f (y + 14) 5).toNatClampNeg) (y + 16) (x + 16) 0 0 (f (y + 14) 5).toNatClampNeg), g, fR)
  refine S_aload_n (pc := 42) dX0_copyFrom_42 rfl rfl ?_
  refine S_getR (pc := 43) dX0_copyFrom_43 flX0_16 (sW_14 hy) rfl (rW_14_2 hy) ?_
  refine S_iconst (pc := 46) dX0_copyFrom_46 ic0 ?_
  refine S_aload_n (pc := 47) dX0_copyFrom_47 rfl rfl ?_
  refine S_getR (pc := 48) dX0_copyFrom_48 flX0_16 (sW_14 hs) rfl (rW_14_2 hs) ?_
  refine S_iconst (pc := 51) dX0_copyFrom_51 ic0 ?_
  refine S_aload_n (pc := 52) dX0_copyFrom_52 rfl rfl ?_
  refine S_get (pc := 53) (v := .int ((cpy (cpy (up2 f (x + 14) 5 (f (y + 14) 5)) (y + 15) (x + 15) 0 0 (f (y + 14) 5).toNatClampNeg) (y + 16) (x + 16) 0 0 (f (y + 14) 5).toNatClampNeg) (x + 14) 5)) dX0_copyFrom_53 flX0_25 (sW_14 hs) rfl ?_
  refine S_eqi (x := f (y + 14) 5) ((cpy_r (by omega)).trans ((cpy_r (by omega)).trans up2_eq)) ?_
  obtain ⟨hb3, H⟩ := H
  refine S_acpy (pc := 56) dX0_copyFrom_56 mlX0_29 (sW_17 hy) (sW_17 hs) (Or.inl rfl) (Nat.succ_pos _) hb3 acR ?_
  show WP _ _ _ _ _ _ _ 59 _ _ (sh, (cpy (cpy (cpy (up2 f (x + 14) 5 (f (y + 14) 5)) (y + 15) (x + 15) 0 0 (f (y + 14) 5).toNatClampNeg) (y + 16) (x + 16) 0 0 (f (y + 14) 5).toNatClampNeg) (y + 17) (x + 17) 0 0 (f (y + 14) 5).toNatClampNeg), g, fR)
  refine S_aload_n (pc := 59) dX0_copyFrom_59 rfl rfl ?_
  refine S_getR (pc := 60) dX0_copyFrom_60 flX0_19 (sW_14 hy) rfl (rW_14_3 hy) ?_
  refine S_iconst (pc := 63) dX0_copyFrom_63 ic0 ?_
  refine S_aload_n (pc := 64) dX0_copyFrom_64 rfl rfl ?_
  refine S_getR (pc := 65) dX0_copyFrom_65 flX0_19 (sW_14 hs) rfl (rW_14_3 hs) ?_
  refine S_iconst (pc := 68) dX0_copyFrom_68 ic0 ?_
  refine S_aload_n (pc := 69) dX0_copyFrom_69 rfl rfl ?_
  refine S_get (pc := 70) (v := .int ((cpy (cpy (cpy (up2 f (x + 14) 5 (f (y + 14) 5)) (y + 15) (x + 15) 0 0 (f (y + 14) 5).toNatClampNeg) (y + 16) (x + 16) 0 0 (f (y + 14) 5).toNatClampNeg) (y + 17) (x + 17) 0 0 (f (y + 14) 5).toNatClampNeg) (x + 14) 5)) dX0_copyFrom_70 flX0_25 (sW_14 hs) rfl ?_
  refine S_eqi (x := f (y + 14) 5) ((cpy_r (by omega)).trans ((cpy_r (by omega)).trans ((cpy_r (by omega)).trans up2_eq))) ?_
  obtain ⟨hb4, H⟩ := H
  refine S_acpy (pc := 73) dX0_copyFrom_73 mlX0_29 (sW_18 hy) (sW_18 hs) (Or.inl rfl) (Nat.succ_pos _) hb4 acR ?_
  show WP _ _ _ _ _ _ _ 76 _ _ (sh, (cpy (cpy (cpy (cpy (up2 f (x + 14) 5 (f (y + 14) 5)) (y + 15) (x + 15) 0 0 (f (y + 14) 5).toNatClampNeg) (y + 16) (x + 16) 0 0 (f (y + 14) 5).toNatClampNeg) (y + 17) (x + 17) 0 0 (f (y + 14) 5).toNatClampNeg) (y + 18) (x + 18) 0 0 (f (y + 14) 5).toNatClampNeg), g, fR)
  refine S_aload_n (pc := 76) dX0_copyFrom_76 rfl rfl ?_
  refine S_getR (pc := 77) dX0_copyFrom_77 flX0_22 (sW_14 hy) rfl (rW_14_4 hy) ?_
  refine S_iconst (pc := 80) dX0_copyFrom_80 ic0 ?_
  refine S_aload_n (pc := 81) dX0_copyFrom_81 rfl rfl ?_
  refine S_getR (pc := 82) dX0_copyFrom_82 flX0_22 (sW_14 hs) rfl (rW_14_4 hs) ?_
  refine S_iconst (pc := 85) dX0_copyFrom_85 ic0 ?_
  refine S_aload_n (pc := 86) dX0_copyFrom_86 rfl rfl ?_
  refine S_get (pc := 87) (v := .int ((cpy (cpy (cpy (cpy (up2 f (x + 14) 5 (f (y + 14) 5)) (y + 15) (x + 15) 0 0 (f (y + 14) 5).toNatClampNeg) (y + 16) (x + 16) 0 0 (f (y + 14) 5).toNatClampNeg) (y + 17) (x + 17) 0 0 (f (y + 14) 5).toNatClampNeg) (y + 18) (x + 18) 0 0 (f (y + 14) 5).toNatClampNeg) (x + 14) 5)) dX0_copyFrom_87 flX0_25 (sW_14 hs) rfl ?_
  refine S_eqi (x := f (y + 14) 5) ((cpy_r (by omega)).trans ((cpy_r (by omega)).trans ((cpy_r (by omega)).trans ((cpy_r (by omega)).trans up2_eq)))) ?_
  obtain ⟨hb5, H⟩ := H
  refine S_acpy (pc := 90) dX0_copyFrom_90 mlX0_29 (sW_19 hy) (sW_19 hs) (Or.inl rfl) (Nat.succ_pos _) hb5 acR ?_
  show WP _ _ _ _ _ _ _ 93 _ _ (sh, (cpy (cpy (cpy (cpy (cpy (up2 f (x + 14) 5 (f (y + 14) 5)) (y + 15) (x + 15) 0 0 (f (y + 14) 5).toNatClampNeg) (y + 16) (x + 16) 0 0 (f (y + 14) 5).toNatClampNeg) (y + 17) (x + 17) 0 0 (f (y + 14) 5).toNatClampNeg) (y + 18) (x + 18) 0 0 (f (y + 14) 5).toNatClampNeg) (y + 19) (x + 19) 0 0 (f (y + 14) 5).toNatClampNeg), g, fR)
  exact S_vreturn dX0_copyFrom_93 rfl H
set_option maxHeartbeats 2000000 in
set_option maxRecDepth 4000 in
theorem VX0_add {l : Launch} {G : Gx} {d : Nat} {Q : Option Value → Hp → Prop} {sh : Sh} {fR : FRt} {x : Nat} {f : FI} {g : FL} {a1 : Int32} {a2 : Int32} {a3 : Int32} {a4 : Int32} {a5 : Int32} (hs : StW sh fR x)
    (H : (((f (x + 14) 5) < (nI 512) → inb (f (x + 14) 5) 512 ∧ inb (f (x + 14) 5) 512 ∧ inb (f (x + 14) 5) 512 ∧ inb (f (x + 14) 5) 512 ∧ inb (f (x + 14) 5) 512 ∧ Q none (sh, (up2 (up2 (up2 (up2 (up2 (up2 f (x + 15) (f (x + 14) 5).toNatClampNeg a1) (x + 16) (f (x + 14) 5).toNatClampNeg a2) (x + 17) (f (x + 14) 5).toNatClampNeg a3) (x + 18) (f (x + 14) 5).toNatClampNeg a4) (x + 19) (f (x + 14) 5).toNatClampNeg a5) (x + 14) 5 ((f (x + 14) 5) + (nI 1))), g, fR)) ∧ (¬ (f (x + 14) 5) < (nI 512) → Q none (sh, f, g, fR)))) :
    Cl l G d 0 0 mX0_add [.ref (x + 14), .int a1, .int a2, .int a3, .int a4, .int a5] (sh, f, g, fR) Q := by
  refine Cl.of (L0 := [some (.ref (x + 14)), some (.int a1), some (.int a2), some (.int a3), some (.int a4), some (.int a5)]) miX0_add rfl rfl ?_
  refine S_aload_n (pc := 0) dX0_add_0 rfl rfl ?_
  refine S_get (pc := 1) (v := .int (f (x + 14) 5)) dX0_add_1 flX0_25 (sW_14 hs) rfl ?_
  refine S_sipush (pc := 4) dX0_add_4 sp512 ?_
  refine S_icmp_lt (pc := 7) (tgt := 11) dX0_add_7 rfl (fun hc1 => ?_) (fun hc1 => ?_)
  · replace H := H.1 hc1
    refine S_aload_n (pc := 11) dX0_add_11 rfl rfl ?_
    refine S_getR (pc := 12) dX0_add_12 flX0_9 (sW_14 hs) rfl (rW_14_0 hs) ?_
    refine S_aload_n (pc := 15) dX0_add_15 rfl rfl ?_
    refine S_get (pc := 16) (v := .int (f (x + 14) 5)) dX0_add_16 flX0_25 (sW_14 hs) rfl ?_
    refine S_iload_n (pc := 19) dX0_add_19 rfl rfl ?_
    obtain ⟨hb2, H⟩ := H
    refine S_iast (pc := 20) dX0_add_20 (sW_15 hs) (Nat.succ_pos _) hb2 ?_
    refine S_aload_n (pc := 21) dX0_add_21 rfl rfl ?_
    refine S_getR (pc := 22) dX0_add_22 flX0_13 (sW_14 hs) rfl (rW_14_1 hs) ?_
    refine S_aload_n (pc := 25) dX0_add_25 rfl rfl ?_
    refine S_get (pc := 26) (v := .int ((up2 f (x + 15) (f (x + 14) 5).toNatClampNeg a1) (x + 14) 5)) dX0_add_26 flX0_25 (sW_14 hs) rfl ?_
    refine S_eqi (x := f (x + 14) 5) ((up2_r (by omega)).trans rfl) ?_
    refine S_iload_n (pc := 29) dX0_add_29 rfl rfl ?_
    obtain ⟨hb3, H⟩ := H
    refine S_iast (pc := 30) dX0_add_30 (sW_16 hs) (Nat.succ_pos _) hb3 ?_
    refine S_aload_n (pc := 31) dX0_add_31 rfl rfl ?_
    refine S_getR (pc := 32) dX0_add_32 flX0_16 (sW_14 hs) rfl (rW_14_2 hs) ?_
    refine S_aload_n (pc := 35) dX0_add_35 rfl rfl ?_
    refine S_get (pc := 36) (v := .int ((up2 (up2 f (x + 15) (f (x + 14) 5).toNatClampNeg a1) (x + 16) (f (x + 14) 5).toNatClampNeg a2) (x + 14) 5)) dX0_add_36 flX0_25 (sW_14 hs) rfl ?_
    refine S_eqi (x := f (x + 14) 5) ((up2_r (by omega)).trans ((up2_r (by omega)).trans rfl)) ?_
    refine S_iload_n (pc := 39) dX0_add_39 rfl rfl ?_
    obtain ⟨hb4, H⟩ := H
    refine S_iast (pc := 40) dX0_add_40 (sW_17 hs) (Nat.succ_pos _) hb4 ?_
    refine S_aload_n (pc := 41) dX0_add_41 rfl rfl ?_
    refine S_getR (pc := 42) dX0_add_42 flX0_19 (sW_14 hs) rfl (rW_14_3 hs) ?_
    refine S_aload_n (pc := 45) dX0_add_45 rfl rfl ?_
    refine S_get (pc := 46) (v := .int ((up2 (up2 (up2 f (x + 15) (f (x + 14) 5).toNatClampNeg a1) (x + 16) (f (x + 14) 5).toNatClampNeg a2) (x + 17) (f (x + 14) 5).toNatClampNeg a3) (x + 14) 5)) dX0_add_46 flX0_25 (sW_14 hs) rfl ?_
    refine S_eqi (x := f (x + 14) 5) ((up2_r (by omega)).trans ((up2_r (by omega)).trans ((up2_r (by omega)).trans rfl))) ?_
    refine S_iload (pc := 49) dX0_add_49 rfl ?_
    obtain ⟨hb5, H⟩ := H
    refine S_iast (pc := 51) dX0_add_51 (sW_18 hs) (Nat.succ_pos _) hb5 ?_
    refine S_aload_n (pc := 52) dX0_add_52 rfl rfl ?_
    refine S_getR (pc := 53) dX0_add_53 flX0_22 (sW_14 hs) rfl (rW_14_4 hs) ?_
    refine S_aload_n (pc := 56) dX0_add_56 rfl rfl ?_
    refine S_get (pc := 57) (v := .int ((up2 (up2 (up2 (up2 f (x + 15) (f (x + 14) 5).toNatClampNeg a1) (x + 16) (f (x + 14) 5).toNatClampNeg a2) (x + 17) (f (x + 14) 5).toNatClampNeg a3) (x + 18) (f (x + 14) 5).toNatClampNeg a4) (x + 14) 5)) dX0_add_57 flX0_25 (sW_14 hs) rfl ?_
    refine S_eqi (x := f (x + 14) 5) ((up2_r (by omega)).trans ((up2_r (by omega)).trans ((up2_r (by omega)).trans ((up2_r (by omega)).trans rfl)))) ?_
    refine S_iload (pc := 60) dX0_add_60 rfl ?_
    obtain ⟨hb6, H⟩ := H
    refine S_iast (pc := 62) dX0_add_62 (sW_19 hs) (Nat.succ_pos _) hb6 ?_
    refine S_aload_n (pc := 63) dX0_add_63 rfl rfl ?_
    refine S_dup (pc := 64) dX0_add_64 rfl ?_
    refine S_get (pc := 65) (v := .int ((up2 (up2 (up2 (up2 (up2 f (x + 15) (f (x + 14) 5).toNatClampNeg a1) (x + 16) (f (x + 14) 5).toNatClampNeg a2) (x + 17) (f (x + 14) 5).toNatClampNeg a3) (x + 18) (f (x + 14) 5).toNatClampNeg a4) (x + 19) (f (x + 14) 5).toNatClampNeg a5) (x + 14) 5)) dX0_add_65 flX0_25 (sW_14 hs) rfl ?_
    refine S_eqi (x := f (x + 14) 5) ((up2_r (by omega)).trans ((up2_r (by omega)).trans ((up2_r (by omega)).trans ((up2_r (by omega)).trans ((up2_r (by omega)).trans rfl))))) ?_
    refine S_iconst (pc := 68) dX0_add_68 ic1 ?_
    refine S_iadd (pc := 69) dX0_add_69 ?_
    refine S_putI (pc := 70) dX0_add_70 flX0_25 (sW_14 hs) (Nat.succ_pos _) (nf_0_5) rfl rfl (fun _ => rfl) ?_
    exact S_vreturn dX0_add_73 rfl H
  · replace H := H.2 hc1
    exact S_vreturn dX0_add_10 rfl H
abbrev LpX0_tidy_4 (l : Launch) (G : Gx) (d : Nat) (Q : Option Value → Hp → Prop) (sh : Sh) (fR : FRt) (x : Nat) (f : FI) (g : FL) (a1 : Int32) (a2 : Int32) (a3 : Int32) : Prop := WP l G (Zq G 0 0 Q) mX0_tidy (rmd d 0 0) 0 0 4 [some (.ref (x + 14)), some (.int a1), some (.int a2), some (.int a3)] [] (sh, f, g, fR)
abbrev LpX0_tidy_85 (l : Launch) (G : Gx) (d : Nat) (Q : Option Value → Hp → Prop) (sh : Sh) (fR : FRt) (x : Nat) (f : FI) (g : FL) (a1 : Int32) (a2 : Int32) (a3 : Int32) : Prop := WP l G (Zq G 0 0 Q) mX0_tidy (rmd d 0 0) 0 0 85 [some (.ref (x + 14)), some (.int a1), some (.int a2), some (.int a3)] [] (sh, f, g, fR)
set_option maxHeartbeats 2000000 in
set_option maxRecDepth 4000 in
theorem VX0_tidy {l : Launch} {G : Gx} {d : Nat} {Q : Option Value → Hp → Prop} {sh : Sh} {fR : FRt} {x : Nat} {f : FI} {g : FL} {a1 : Int32} (hs : StW sh fR x)
    (H : LpX0_tidy_4 l G d Q sh fR x f g a1 (nI 0) (nI 0)) :
    Cl l G d 0 0 mX0_tidy [.ref (x + 14), .int a1] (sh, f, g, fR) Q := by
  refine Cl.of (L0 := [some (.ref (x + 14)), some (.int a1), none, none]) miX0_tidy rfl rfl ?_
  refine S_iconst (pc := 0) dX0_tidy_0 ic0 ?_
  refine S_istore_n (pc := 1) (L' := [some (.ref (x + 14)), some (.int a1), some (.int (nI 0)), none]) dX0_tidy_1 rfl (by decide) rfl ?_
  refine S_iconst (pc := 2) dX0_tidy_2 ic0 ?_
  refine S_istore_n (pc := 3) (L' := [some (.ref (x + 14)), some (.int a1), some (.int (nI 0)), some (.int (nI 0))]) dX0_tidy_3 rfl (by decide) rfl ?_
  exact H
set_option maxHeartbeats 2000000 in
set_option maxRecDepth 4000 in
theorem VX0_tidy_4 {l : Launch} {G : Gx} {d : Nat} {Q : Option Value → Hp → Prop} {sh : Sh} {fR : FRt} {x : Nat} {f : FI} {g : FL} {a1 : Int32} {a2 : Int32} {a3 : Int32} (hs : StW sh fR x)
    (H : (((f (x + 14) 5) ≤ a3 → Q none (sh, (up2 f (x + 14) 5 a2), g, fR)) ∧ (¬ (f (x + 14) 5) ≤ a3 → inb a3 512 ∧ (((f (x + 19) a3.toNatClampNeg) ≤ a1 → LpX0_tidy_85 l G d Q sh fR x f g a1 a2 a3) ∧ (¬ (f (x + 19) a3.toNatClampNeg) ≤ a1 → inb a3 512 ∧ inb a2 512 ∧ inb a3 512 ∧ inb a2 512 ∧ inb a3 512 ∧ inb a2 512 ∧ inb a3 512 ∧ inb a2 512 ∧ inb a3 512 ∧ inb a2 512 ∧ LpX0_tidy_85 l G d Q sh fR x (up2 (up2 (up2 (up2 (up2 f (x + 15) a2.toNatClampNeg (f (x + 15) a3.toNatClampNeg)) (x + 16) a2.toNatClampNeg (f (x + 16) a3.toNatClampNeg)) (x + 17) a2.toNatClampNeg (f (x + 17) a3.toNatClampNeg)) (x + 18) a2.toNatClampNeg (f (x + 18) a3.toNatClampNeg)) (x + 19) a2.toNatClampNeg (f (x + 19) a3.toNatClampNeg)) g a1 (a2 + nI 1) a3))))) :
    LpX0_tidy_4 l G d Q sh fR x f g a1 a2 a3 := by
  refine S_iload_n (pc := 4) dX0_tidy_4 rfl rfl ?_
  refine S_aload_n (pc := 5) dX0_tidy_5 rfl rfl ?_
  refine S_get (pc := 6) (v := .int (f (x + 14) 5)) dX0_tidy_6 flX0_25 (sW_14 hs) rfl ?_
  refine S_icmp_ge (pc := 9) (tgt := 91) dX0_tidy_9 rfl (fun hc1 => ?_) (fun hc1 => ?_)
  · replace H := H.1 hc1
    refine S_aload_n (pc := 91) dX0_tidy_91 rfl rfl ?_
    refine S_iload_n (pc := 92) dX0_tidy_92 rfl rfl ?_
    refine S_putI (pc := 93) dX0_tidy_93 flX0_25 (sW_14 hs) (Nat.succ_pos _) (nf_0_5) rfl rfl (fun _ => rfl) ?_
    exact S_vreturn dX0_tidy_96 rfl H
  · replace H := H.2 hc1
    refine S_aload_n (pc := 12) dX0_tidy_12 rfl rfl ?_
    refine S_getR (pc := 13) dX0_tidy_13 flX0_22 (sW_14 hs) rfl (rW_14_4 hs) ?_
    refine S_iload_n (pc := 16) dX0_tidy_16 rfl rfl ?_
    obtain ⟨hb2, H⟩ := H
    refine S_iald (pc := 17) dX0_tidy_17 (sW_19 hs) hb2 ?_
    refine S_iload_n (pc := 18) dX0_tidy_18 rfl rfl ?_
    refine S_icmp_le (pc := 19) (tgt := 85) dX0_tidy_19 rfl (fun hc3 => ?_) (fun hc3 => ?_)
    · replace H := H.1 hc3
      exact H
    · replace H := H.2 hc3
      refine S_aload_n (pc := 22) dX0_tidy_22 rfl rfl ?_
      refine S_getR (pc := 23) dX0_tidy_23 flX0_9 (sW_14 hs) rfl (rW_14_0 hs) ?_
      refine S_iload_n (pc := 26) dX0_tidy_26 rfl rfl ?_
      refine S_aload_n (pc := 27) dX0_tidy_27 rfl rfl ?_
      refine S_getR (pc := 28) dX0_tidy_28 flX0_9 (sW_14 hs) rfl (rW_14_0 hs) ?_
      refine S_iload_n (pc := 31) dX0_tidy_31 rfl rfl ?_
      obtain ⟨hb4, H⟩ := H
      refine S_iald (pc := 32) dX0_tidy_32 (sW_15 hs) hb4 ?_
      obtain ⟨hb5, H⟩ := H
      refine S_iast (pc := 33) dX0_tidy_33 (sW_15 hs) (Nat.succ_pos _) hb5 ?_
      refine S_aload_n (pc := 34) dX0_tidy_34 rfl rfl ?_
      refine S_getR (pc := 35) dX0_tidy_35 flX0_13 (sW_14 hs) rfl (rW_14_1 hs) ?_
      refine S_iload_n (pc := 38) dX0_tidy_38 rfl rfl ?_
      refine S_aload_n (pc := 39) dX0_tidy_39 rfl rfl ?_
      refine S_getR (pc := 40) dX0_tidy_40 flX0_13 (sW_14 hs) rfl (rW_14_1 hs) ?_
      refine S_iload_n (pc := 43) dX0_tidy_43 rfl rfl ?_
      obtain ⟨hb6, H⟩ := H
      refine S_iald (pc := 44) dX0_tidy_44 (sW_16 hs) hb6 ?_
      refine S_eqi (x := f (x + 16) a3.toNatClampNeg) ((up2_r (by omega)).trans rfl) ?_
      obtain ⟨hb7, H⟩ := H
      refine S_iast (pc := 45) dX0_tidy_45 (sW_16 hs) (Nat.succ_pos _) hb7 ?_
      refine S_aload_n (pc := 46) dX0_tidy_46 rfl rfl ?_
      refine S_getR (pc := 47) dX0_tidy_47 flX0_16 (sW_14 hs) rfl (rW_14_2 hs) ?_
      refine S_iload_n (pc := 50) dX0_tidy_50 rfl rfl ?_
      refine S_aload_n (pc := 51) dX0_tidy_51 rfl rfl ?_
      refine S_getR (pc := 52) dX0_tidy_52 flX0_16 (sW_14 hs) rfl (rW_14_2 hs) ?_
      refine S_iload_n (pc := 55) dX0_tidy_55 rfl rfl ?_
      obtain ⟨hb8, H⟩ := H
      refine S_iald (pc := 56) dX0_tidy_56 (sW_17 hs) hb8 ?_
      refine S_eqi (x := f (x + 17) a3.toNatClampNeg) ((up2_r (by omega)).trans ((up2_r (by omega)).trans rfl)) ?_
      obtain ⟨hb9, H⟩ := H
      refine S_iast (pc := 57) dX0_tidy_57 (sW_17 hs) (Nat.succ_pos _) hb9 ?_
      refine S_aload_n (pc := 58) dX0_tidy_58 rfl rfl ?_
      refine S_getR (pc := 59) dX0_tidy_59 flX0_19 (sW_14 hs) rfl (rW_14_3 hs) ?_
      refine S_iload_n (pc := 62) dX0_tidy_62 rfl rfl ?_
      refine S_aload_n (pc := 63) dX0_tidy_63 rfl rfl ?_
      refine S_getR (pc := 64) dX0_tidy_64 flX0_19 (sW_14 hs) rfl (rW_14_3 hs) ?_
      refine S_iload_n (pc := 67) dX0_tidy_67 rfl rfl ?_
      obtain ⟨hb10, H⟩ := H
      refine S_iald (pc := 68) dX0_tidy_68 (sW_18 hs) hb10 ?_
      refine S_eqi (x := f (x + 18) a3.toNatClampNeg) ((up2_r (by omega)).trans ((up2_r (by omega)).trans ((up2_r (by omega)).trans rfl))) ?_
      obtain ⟨hb11, H⟩ := H
      refine S_iast (pc := 69) dX0_tidy_69 (sW_18 hs) (Nat.succ_pos _) hb11 ?_
      refine S_aload_n (pc := 70) dX0_tidy_70 rfl rfl ?_
      refine S_getR (pc := 71) dX0_tidy_71 flX0_22 (sW_14 hs) rfl (rW_14_4 hs) ?_
      refine S_iload_n (pc := 74) dX0_tidy_74 rfl rfl ?_
      refine S_aload_n (pc := 75) dX0_tidy_75 rfl rfl ?_
      refine S_getR (pc := 76) dX0_tidy_76 flX0_22 (sW_14 hs) rfl (rW_14_4 hs) ?_
      refine S_iload_n (pc := 79) dX0_tidy_79 rfl rfl ?_
      obtain ⟨hb12, H⟩ := H
      refine S_iald (pc := 80) dX0_tidy_80 (sW_19 hs) hb12 ?_
      refine S_eqi (x := f (x + 19) a3.toNatClampNeg) ((up2_r (by omega)).trans ((up2_r (by omega)).trans ((up2_r (by omega)).trans ((up2_r (by omega)).trans rfl)))) ?_
      obtain ⟨hb13, H⟩ := H
      refine S_iast (pc := 81) dX0_tidy_81 (sW_19 hs) (Nat.succ_pos _) hb13 ?_
      refine S_iinc (pc := 82) (v := nI 1) (L' := [some (.ref (x + 14)), some (.int a1), some (.int (a2 + nI 1)), some (.int a3)]) dX0_tidy_82 rfl ic1 rfl ?_
      exact H
set_option maxHeartbeats 2000000 in
set_option maxRecDepth 4000 in
theorem VX0_tidy_85 {l : Launch} {G : Gx} {d : Nat} {Q : Option Value → Hp → Prop} {sh : Sh} {fR : FRt} {x : Nat} {f : FI} {g : FL} {a1 : Int32} {a2 : Int32} {a3 : Int32} (hs : StW sh fR x)
    (H : LpX0_tidy_4 l G d Q sh fR x f g a1 a2 (a3 + nI 1)) :
    LpX0_tidy_85 l G d Q sh fR x f g a1 a2 a3 := by
  refine S_iinc (pc := 85) (v := nI 1) (L' := [some (.ref (x + 14)), some (.int a1), some (.int a2), some (.int (a3 + nI 1))]) dX0_tidy_85 rfl ic1 rfl ?_
  refine S_goto (pc := 88) (tgt := 4) dX0_tidy_88 rfl ?_
  exact H
abbrev LpX2_copyFrom_112 (l : Launch) (G : Gx) (d : Nat) (Q : Option Value → Hp → Prop) (sh : Sh) (fR : FRt) (x y : Nat) (f : FI) (g : FL) (a2 : Int32) : Prop := WP l G (Zq G 0 0 Q) mX2_copyFrom (rmd (d + 1) 0 0) 0 0 112 [some (.ref (x + 5)), some (.ref (y + 5)), some (.int a2)] [] (sh, f, g, fR)
set_option maxHeartbeats 2000000 in
set_option maxRecDepth 4000 in
theorem VX2_copyFrom {l : Launch} {G : Gx} {d : Nat} {Q : Option Value → Hp → Prop} {sh : Sh} {fR : FRt} {x y : Nat} {f : FI} {g : FL}  (hs : StW sh fR x) (hy : StW sh fR y)
    (H : acOK (nI 0) (nI 0) (f (y + 5) 8) 512 512 ∧ acOK (nI 0) (nI 0) (f (y + 5) 8) 512 512 ∧ acOK (nI 0) (nI 0) (f (y + 5) 8) 512 512 ∧ acOK (nI 0) (nI 0) (f (y + 5) 8) 512 512 ∧ acOK (nI 0) (nI 0) (f (y + 5) 8) 512 512 ∧ acOK (nI 0) (nI 0) (f (y + 5) 8) 512 512 ∧ LpX2_copyFrom_112 l G d Q sh fR x y (cpy (cpy (cpy (cpy (cpy (cpy (up2 f (x + 5) 8 (f (y + 5) 8)) (y + 6) (x + 6) 0 0 (f (y + 5) 8).toNatClampNeg) (y + 7) (x + 7) 0 0 (f (y + 5) 8).toNatClampNeg) (y + 8) (x + 8) 0 0 (f (y + 5) 8).toNatClampNeg) (y + 9) (x + 9) 0 0 (f (y + 5) 8).toNatClampNeg) (y + 10) (x + 10) 0 0 (f (y + 5) 8).toNatClampNeg) (y + 11) (x + 11) 0 0 (f (y + 5) 8).toNatClampNeg) g (nI 0)) :
    Cl l G (d + 1) 0 0 mX2_copyFrom [.ref (x + 5), .ref (y + 5)] (sh, f, g, fR) Q := by
  refine Cl.of (L0 := [some (.ref (x + 5)), some (.ref (y + 5)), none]) miX2_copyFrom rfl rfl ?_
  refine S_aload_n (pc := 0) dX2_copyFrom_0 rfl rfl ?_
  refine S_aload_n (pc := 1) dX2_copyFrom_1 rfl rfl ?_
  refine S_get (pc := 2) (v := .int (f (y + 5) 8)) dX2_copyFrom_2 flX2_37 (sW_5 hy) rfl ?_
  refine S_putI (pc := 5) dX2_copyFrom_5 flX2_37 (sW_5 hs) (Nat.succ_pos _) (nf_2_8) rfl rfl (fun _ => rfl) ?_
  refine S_aload_n (pc := 8) dX2_copyFrom_8 rfl rfl ?_
  refine S_getR (pc := 9) dX2_copyFrom_9 flX2_11 (sW_5 hy) rfl (rW_5_0 hy) ?_
  refine S_iconst (pc := 12) dX2_copyFrom_12 ic0 ?_
  refine S_aload_n (pc := 13) dX2_copyFrom_13 rfl rfl ?_
  refine S_getR (pc := 14) dX2_copyFrom_14 flX2_11 (sW_5 hs) rfl (rW_5_0 hs) ?_
  refine S_iconst (pc := 17) dX2_copyFrom_17 ic0 ?_
  refine S_aload_n (pc := 18) dX2_copyFrom_18 rfl rfl ?_
  refine S_get (pc := 19) (v := .int ((up2 f (x + 5) 8 (f (y + 5) 8)) (x + 5) 8)) dX2_copyFrom_19 flX2_37 (sW_5 hs) rfl ?_
  refine S_eqi (x := f (y + 5) 8) up2_eq ?_
  obtain ⟨hb1, H⟩ := H
  refine S_acpy (pc := 22) dX2_copyFrom_22 mlX2_41 (sW_6 hy) (sW_6 hs) (Or.inl rfl) (Nat.succ_pos _) hb1 acR ?_
  show WP _ _ _ _ _ _ _ 25 _ _ (sh, (cpy (up2 f (x + 5) 8 (f (y + 5) 8)) (y + 6) (x + 6) 0 0 (f (y + 5) 8).toNatClampNeg), g, fR)
  refine S_aload_n (pc := 25) dX2_copyFrom_25 rfl rfl ?_
  refine S_getR (pc := 26) dX2_copyFrom_26 flX2_15 (sW_5 hy) rfl (rW_5_1 hy) ?_
  refine S_iconst (pc := 29) dX2_copyFrom_29 ic0 ?_
  refine S_aload_n (pc := 30) dX2_copyFrom_30 rfl rfl ?_
  refine S_getR (pc := 31) dX2_copyFrom_31 flX2_15 (sW_5 hs) rfl (rW_5_1 hs) ?_
  refine S_iconst (pc := 34) dX2_copyFrom_34 ic0 ?_
  refine S_aload_n (pc := 35) dX2_copyFrom_35 rfl rfl ?_
  refine S_get (pc := 36) (v := .int ((cpy (up2 f (x + 5) 8 (f (y + 5) 8)) (y + 6) (x + 6) 0 0 (f (y + 5) 8).toNatClampNeg) (x + 5) 8)) dX2_copyFrom_36 flX2_37 (sW_5 hs) rfl ?_
  refine S_eqi (x := f (y + 5) 8) ((cpy_r (by omega)).trans up2_eq) ?_
  obtain ⟨hb2, H⟩ := H
  refine S_acpy (pc := 39) dX2_copyFrom_39 mlX2_41 (sW_7 hy) (sW_7 hs) (Or.inl rfl) (Nat.succ_pos _) hb2 acR ?_
  show WP _ _ _ _ _ _ _ 42 _ _ (sh, (cpy (cpy (up2 f (x + 5) 8 (f (y + 5) 8)) (y + 6) (x + 6) 0 0 (f (y + 5) 8).toNatClampNeg) (y + 7) (x + 7) 0 0 (f (y + 5) 8).toNatClampNeg), g, fR)
  refine S_aload_n (pc := 42) dX2_copyFrom_42 rfl rfl ?_
  refine S_getR (pc := 43) dX2_copyFrom_43 flX2_18 (sW_5 hy) rfl (rW_5_2 hy) ?_
  refine S_iconst (pc := 46) dX2_copyFrom_46 ic0 ?_
  refine S_aload_n (pc := 47) dX2_copyFrom_47 rfl rfl ?_
  refine S_getR (pc := 48) dX2_copyFrom_48 flX2_18 (sW_5 hs) rfl (rW_5_2 hs) ?_
  refine S_iconst (pc := 51) dX2_copyFrom_51 ic0 ?_
  refine S_aload_n (pc := 52) dX2_copyFrom_52 rfl rfl ?_
  refine S_get (pc := 53) (v := .int ((cpy (cpy (up2 f (x + 5) 8 (f (y + 5) 8)) (y + 6) (x + 6) 0 0 (f (y + 5) 8).toNatClampNeg) (y + 7) (x + 7) 0 0 (f (y + 5) 8).toNatClampNeg) (x + 5) 8)) dX2_copyFrom_53 flX2_37 (sW_5 hs) rfl ?_
  refine S_eqi (x := f (y + 5) 8) ((cpy_r (by omega)).trans ((cpy_r (by omega)).trans up2_eq)) ?_
  obtain ⟨hb3, H⟩ := H
  refine S_acpy (pc := 56) dX2_copyFrom_56 mlX2_41 (sW_8 hy) (sW_8 hs) (Or.inl rfl) (Nat.succ_pos _) hb3 acR ?_
  show WP _ _ _ _ _ _ _ 59 _ _ (sh, (cpy (cpy (cpy (up2 f (x + 5) 8 (f (y + 5) 8)) (y + 6) (x + 6) 0 0 (f (y + 5) 8).toNatClampNeg) (y + 7) (x + 7) 0 0 (f (y + 5) 8).toNatClampNeg) (y + 8) (x + 8) 0 0 (f (y + 5) 8).toNatClampNeg), g, fR)
  refine S_aload_n (pc := 59) dX2_copyFrom_59 rfl rfl ?_
  refine S_getR (pc := 60) dX2_copyFrom_60 flX2_21 (sW_5 hy) rfl (rW_5_3 hy) ?_
  refine S_iconst (pc := 63) dX2_copyFrom_63 ic0 ?_
  refine S_aload_n (pc := 64) dX2_copyFrom_64 rfl rfl ?_
  refine S_getR (pc := 65) dX2_copyFrom_65 flX2_21 (sW_5 hs) rfl (rW_5_3 hs) ?_
  refine S_iconst (pc := 68) dX2_copyFrom_68 ic0 ?_
  refine S_aload_n (pc := 69) dX2_copyFrom_69 rfl rfl ?_
  refine S_get (pc := 70) (v := .int ((cpy (cpy (cpy (up2 f (x + 5) 8 (f (y + 5) 8)) (y + 6) (x + 6) 0 0 (f (y + 5) 8).toNatClampNeg) (y + 7) (x + 7) 0 0 (f (y + 5) 8).toNatClampNeg) (y + 8) (x + 8) 0 0 (f (y + 5) 8).toNatClampNeg) (x + 5) 8)) dX2_copyFrom_70 flX2_37 (sW_5 hs) rfl ?_
  refine S_eqi (x := f (y + 5) 8) ((cpy_r (by omega)).trans ((cpy_r (by omega)).trans ((cpy_r (by omega)).trans up2_eq))) ?_
  obtain ⟨hb4, H⟩ := H
  refine S_acpy (pc := 73) dX2_copyFrom_73 mlX2_41 (sW_9 hy) (sW_9 hs) (Or.inl rfl) (Nat.succ_pos _) hb4 acR ?_
  show WP _ _ _ _ _ _ _ 76 _ _ (sh, (cpy (cpy (cpy (cpy (up2 f (x + 5) 8 (f (y + 5) 8)) (y + 6) (x + 6) 0 0 (f (y + 5) 8).toNatClampNeg) (y + 7) (x + 7) 0 0 (f (y + 5) 8).toNatClampNeg) (y + 8) (x + 8) 0 0 (f (y + 5) 8).toNatClampNeg) (y + 9) (x + 9) 0 0 (f (y + 5) 8).toNatClampNeg), g, fR)
  refine S_aload_n (pc := 76) dX2_copyFrom_76 rfl rfl ?_
  refine S_getR (pc := 77) dX2_copyFrom_77 flX2_24 (sW_5 hy) rfl (rW_5_4 hy) ?_
  refine S_iconst (pc := 80) dX2_copyFrom_80 ic0 ?_
  refine S_aload_n (pc := 81) dX2_copyFrom_81 rfl rfl ?_
  refine S_getR (pc := 82) dX2_copyFrom_82 flX2_24 (sW_5 hs) rfl (rW_5_4 hs) ?_
  refine S_iconst (pc := 85) dX2_copyFrom_85 ic0 ?_
  refine S_aload_n (pc := 86) dX2_copyFrom_86 rfl rfl ?_
  refine S_get (pc := 87) (v := .int ((cpy (cpy (cpy (cpy (up2 f (x + 5) 8 (f (y + 5) 8)) (y + 6) (x + 6) 0 0 (f (y + 5) 8).toNatClampNeg) (y + 7) (x + 7) 0 0 (f (y + 5) 8).toNatClampNeg) (y + 8) (x + 8) 0 0 (f (y + 5) 8).toNatClampNeg) (y + 9) (x + 9) 0 0 (f (y + 5) 8).toNatClampNeg) (x + 5) 8)) dX2_copyFrom_87 flX2_37 (sW_5 hs) rfl ?_
  refine S_eqi (x := f (y + 5) 8) ((cpy_r (by omega)).trans ((cpy_r (by omega)).trans ((cpy_r (by omega)).trans ((cpy_r (by omega)).trans up2_eq)))) ?_
  obtain ⟨hb5, H⟩ := H
  refine S_acpy (pc := 90) dX2_copyFrom_90 mlX2_41 (sW_10 hy) (sW_10 hs) (Or.inl rfl) (Nat.succ_pos _) hb5 acR ?_
  show WP _ _ _ _ _ _ _ 93 _ _ (sh, (cpy (cpy (cpy (cpy (cpy (up2 f (x + 5) 8 (f (y + 5) 8)) (y + 6) (x + 6) 0 0 (f (y + 5) 8).toNatClampNeg) (y + 7) (x + 7) 0 0 (f (y + 5) 8).toNatClampNeg) (y + 8) (x + 8) 0 0 (f (y + 5) 8).toNatClampNeg) (y + 9) (x + 9) 0 0 (f (y + 5) 8).toNatClampNeg) (y + 10) (x + 10) 0 0 (f (y + 5) 8).toNatClampNeg), g, fR)
  refine S_aload_n (pc := 93) dX2_copyFrom_93 rfl rfl ?_
  refine S_getR (pc := 94) dX2_copyFrom_94 flX2_27 (sW_5 hy) rfl (rW_5_5 hy) ?_
  refine S_iconst (pc := 97) dX2_copyFrom_97 ic0 ?_
  refine S_aload_n (pc := 98) dX2_copyFrom_98 rfl rfl ?_
  refine S_getR (pc := 99) dX2_copyFrom_99 flX2_27 (sW_5 hs) rfl (rW_5_5 hs) ?_
  refine S_iconst (pc := 102) dX2_copyFrom_102 ic0 ?_
  refine S_aload_n (pc := 103) dX2_copyFrom_103 rfl rfl ?_
  refine S_get (pc := 104) (v := .int ((cpy (cpy (cpy (cpy (cpy (up2 f (x + 5) 8 (f (y + 5) 8)) (y + 6) (x + 6) 0 0 (f (y + 5) 8).toNatClampNeg) (y + 7) (x + 7) 0 0 (f (y + 5) 8).toNatClampNeg) (y + 8) (x + 8) 0 0 (f (y + 5) 8).toNatClampNeg) (y + 9) (x + 9) 0 0 (f (y + 5) 8).toNatClampNeg) (y + 10) (x + 10) 0 0 (f (y + 5) 8).toNatClampNeg) (x + 5) 8)) dX2_copyFrom_104 flX2_37 (sW_5 hs) rfl ?_
  refine S_eqi (x := f (y + 5) 8) ((cpy_r (by omega)).trans ((cpy_r (by omega)).trans ((cpy_r (by omega)).trans ((cpy_r (by omega)).trans ((cpy_r (by omega)).trans up2_eq))))) ?_
  obtain ⟨hb6, H⟩ := H
  refine S_acpy (pc := 107) dX2_copyFrom_107 mlX2_41 (sW_11 hy) (sW_11 hs) (Or.inl rfl) (Nat.succ_pos _) hb6 acR ?_
  show WP _ _ _ _ _ _ _ 110 _ _ (sh, (cpy (cpy (cpy (cpy (cpy (cpy (up2 f (x + 5) 8 (f (y + 5) 8)) (y + 6) (x + 6) 0 0 (f (y + 5) 8).toNatClampNeg) (y + 7) (x + 7) 0 0 (f (y + 5) 8).toNatClampNeg) (y + 8) (x + 8) 0 0 (f (y + 5) 8).toNatClampNeg) (y + 9) (x + 9) 0 0 (f (y + 5) 8).toNatClampNeg) (y + 10) (x + 10) 0 0 (f (y + 5) 8).toNatClampNeg) (y + 11) (x + 11) 0 0 (f (y + 5) 8).toNatClampNeg), g, fR)
  refine S_iconst (pc := 110) dX2_copyFrom_110 ic0 ?_
  refine S_istore_n (pc := 111) (L' := [some (.ref (x + 5)), some (.ref (y + 5)), some (.int (nI 0))]) dX2_copyFrom_111 rfl (by decide) rfl ?_
  exact H
set_option maxHeartbeats 2000000 in
set_option maxRecDepth 4000 in
theorem VX2_copyFrom_112 {l : Launch} {G : Gx} {d : Nat} {Q : Option Value → Hp → Prop} {sh : Sh} {fR : FRt} {x y : Nat} {f : FI} {g : FL} {a2 : Int32} (hs : StW sh fR x) (hy : StW sh fR y)
    (H : (((f (x + 5) 8) ≤ a2 → Q none (sh, f, g, fR)) ∧ (¬ (f (x + 5) 8) ≤ a2 → inb a2 512 ∧ inb a2 512 ∧ inb a2 512 ∧ inb a2 512 ∧ LpX2_copyFrom_112 l G d Q sh fR x y (up2 (up2 f (x + 12) a2.toNatClampNeg (vp_nar .boolean (f (y + 12) a2.toNatClampNeg))) (x + 13) a2.toNatClampNeg (vp_nar .boolean ((up2 f (x + 12) a2.toNatClampNeg (vp_nar .boolean (f (y + 12) a2.toNatClampNeg))) (y + 13) a2.toNatClampNeg))) g (a2 + nI 1)))) :
    LpX2_copyFrom_112 l G d Q sh fR x y f g a2 := by
  refine S_iload_n (pc := 112) dX2_copyFrom_112 rfl rfl ?_
  refine S_aload_n (pc := 113) dX2_copyFrom_113 rfl rfl ?_
  refine S_get (pc := 114) (v := .int (f (x + 5) 8)) dX2_copyFrom_114 flX2_37 (sW_5 hs) rfl ?_
  refine S_icmp_ge (pc := 117) (tgt := 150) dX2_copyFrom_117 rfl (fun hc7 => ?_) (fun hc7 => ?_)
  · replace H := H.1 hc7
    exact S_vreturn dX2_copyFrom_150 rfl H
  · replace H := H.2 hc7
    refine S_aload_n (pc := 120) dX2_copyFrom_120 rfl rfl ?_
    refine S_getR (pc := 121) dX2_copyFrom_121 flX2_30 (sW_5 hs) rfl (rW_5_6 hs) ?_
    refine S_iload_n (pc := 124) dX2_copyFrom_124 rfl rfl ?_
    refine S_aload_n (pc := 125) dX2_copyFrom_125 rfl rfl ?_
    refine S_getR (pc := 126) dX2_copyFrom_126 flX2_30 (sW_5 hy) rfl (rW_5_6 hy) ?_
    refine S_iload_n (pc := 129) dX2_copyFrom_129 rfl rfl ?_
    obtain ⟨hb8, H⟩ := H
    refine S_zald (pc := 130) dX2_copyFrom_130 (sW_12 hy) hb8 ?_
    obtain ⟨hb9, H⟩ := H
    refine S_zast (pc := 131) dX2_copyFrom_131 (sW_12 hs) (Nat.succ_pos _) hb9 ?_
    refine S_aload_n (pc := 132) dX2_copyFrom_132 rfl rfl ?_
    refine S_getR (pc := 133) dX2_copyFrom_133 flX2_34 (sW_5 hs) rfl (rW_5_7 hs) ?_
    refine S_iload_n (pc := 136) dX2_copyFrom_136 rfl rfl ?_
    refine S_aload_n (pc := 137) dX2_copyFrom_137 rfl rfl ?_
    refine S_getR (pc := 138) dX2_copyFrom_138 flX2_34 (sW_5 hy) rfl (rW_5_7 hy) ?_
    refine S_iload_n (pc := 141) dX2_copyFrom_141 rfl rfl ?_
    obtain ⟨hb10, H⟩ := H
    refine S_zald (pc := 142) dX2_copyFrom_142 (sW_13 hy) hb10 ?_
    obtain ⟨hb11, H⟩ := H
    refine S_zast (pc := 143) dX2_copyFrom_143 (sW_13 hs) (Nat.succ_pos _) hb11 ?_
    refine S_iinc (pc := 144) (v := nI 1) (L' := [some (.ref (x + 5)), some (.ref (y + 5)), some (.int (a2 + nI 1))]) dX2_copyFrom_144 rfl ic1 rfl ?_
    refine S_goto (pc := 147) (tgt := 112) dX2_copyFrom_147 rfl ?_
    exact H
set_option maxHeartbeats 2000000 in
set_option maxRecDepth 4000 in
theorem VX2_add {l : Launch} {G : Gx} {d : Nat} {Q : Option Value → Hp → Prop} {sh : Sh} {fR : FRt} {x : Nat} {f : FI} {g : FL} {a1 : Int32} {a2 : Int32} {a3 : Int32} {a4 : Int32} {a5 : Int32} {a6 : Int32} {a7 : Int32} (hs : StW sh fR x)
    (H : (((f (x + 5) 8) < (nI 512) → inb (f (x + 5) 8) 512 ∧ inb (f (x + 5) 8) 512 ∧ inb (f (x + 5) 8) 512 ∧ inb (f (x + 5) 8) 512 ∧ inb (f (x + 5) 8) 512 ∧ inb (f (x + 5) 8) 512 ∧ inb (f (x + 5) 8) 512 ∧ inb (f (x + 5) 8) 512 ∧ Q none (sh, (up2 (up2 (up2 (up2 (up2 (up2 (up2 (up2 (up2 f (x + 6) (f (x + 5) 8).toNatClampNeg a1) (x + 7) (f (x + 5) 8).toNatClampNeg a2) (x + 8) (f (x + 5) 8).toNatClampNeg a3) (x + 9) (f (x + 5) 8).toNatClampNeg a4) (x + 10) (f (x + 5) 8).toNatClampNeg a5) (x + 11) (f (x + 5) 8).toNatClampNeg a6) (x + 12) (f (x + 5) 8).toNatClampNeg (vp_nar .boolean a7)) (x + 13) (f (x + 5) 8).toNatClampNeg (nI 1)) (x + 5) 8 ((f (x + 5) 8) + (nI 1))), g, fR)) ∧ (¬ (f (x + 5) 8) < (nI 512) → Q none (sh, f, g, fR)))) :
    Cl l G d 0 0 mX2_add [.ref (x + 5), .int a1, .int a2, .int a3, .int a4, .int a5, .int a6, .int a7] (sh, f, g, fR) Q := by
  refine Cl.of (L0 := [some (.ref (x + 5)), some (.int a1), some (.int a2), some (.int a3), some (.int a4), some (.int a5), some (.int a6), some (.int a7)]) miX2_add rfl rfl ?_
  refine S_aload_n (pc := 0) dX2_add_0 rfl rfl ?_
  refine S_get (pc := 1) (v := .int (f (x + 5) 8)) dX2_add_1 flX2_37 (sW_5 hs) rfl ?_
  refine S_sipush (pc := 4) dX2_add_4 sp512 ?_
  refine S_icmp_lt (pc := 7) (tgt := 11) dX2_add_7 rfl (fun hc1 => ?_) (fun hc1 => ?_)
  · replace H := H.1 hc1
    refine S_aload_n (pc := 11) dX2_add_11 rfl rfl ?_
    refine S_getR (pc := 12) dX2_add_12 flX2_11 (sW_5 hs) rfl (rW_5_0 hs) ?_
    refine S_aload_n (pc := 15) dX2_add_15 rfl rfl ?_
    refine S_get (pc := 16) (v := .int (f (x + 5) 8)) dX2_add_16 flX2_37 (sW_5 hs) rfl ?_
    refine S_iload_n (pc := 19) dX2_add_19 rfl rfl ?_
    obtain ⟨hb2, H⟩ := H
    refine S_iast (pc := 20) dX2_add_20 (sW_6 hs) (Nat.succ_pos _) hb2 ?_
    refine S_aload_n (pc := 21) dX2_add_21 rfl rfl ?_
    refine S_getR (pc := 22) dX2_add_22 flX2_15 (sW_5 hs) rfl (rW_5_1 hs) ?_
    refine S_aload_n (pc := 25) dX2_add_25 rfl rfl ?_
    refine S_get (pc := 26) (v := .int ((up2 f (x + 6) (f (x + 5) 8).toNatClampNeg a1) (x + 5) 8)) dX2_add_26 flX2_37 (sW_5 hs) rfl ?_
    refine S_eqi (x := f (x + 5) 8) ((up2_r (by omega)).trans rfl) ?_
    refine S_iload_n (pc := 29) dX2_add_29 rfl rfl ?_
    obtain ⟨hb3, H⟩ := H
    refine S_iast (pc := 30) dX2_add_30 (sW_7 hs) (Nat.succ_pos _) hb3 ?_
    refine S_aload_n (pc := 31) dX2_add_31 rfl rfl ?_
    refine S_getR (pc := 32) dX2_add_32 flX2_18 (sW_5 hs) rfl (rW_5_2 hs) ?_
    refine S_aload_n (pc := 35) dX2_add_35 rfl rfl ?_
    refine S_get (pc := 36) (v := .int ((up2 (up2 f (x + 6) (f (x + 5) 8).toNatClampNeg a1) (x + 7) (f (x + 5) 8).toNatClampNeg a2) (x + 5) 8)) dX2_add_36 flX2_37 (sW_5 hs) rfl ?_
    refine S_eqi (x := f (x + 5) 8) ((up2_r (by omega)).trans ((up2_r (by omega)).trans rfl)) ?_
    refine S_iload_n (pc := 39) dX2_add_39 rfl rfl ?_
    obtain ⟨hb4, H⟩ := H
    refine S_iast (pc := 40) dX2_add_40 (sW_8 hs) (Nat.succ_pos _) hb4 ?_
    refine S_aload_n (pc := 41) dX2_add_41 rfl rfl ?_
    refine S_getR (pc := 42) dX2_add_42 flX2_21 (sW_5 hs) rfl (rW_5_3 hs) ?_
    refine S_aload_n (pc := 45) dX2_add_45 rfl rfl ?_
    refine S_get (pc := 46) (v := .int ((up2 (up2 (up2 f (x + 6) (f (x + 5) 8).toNatClampNeg a1) (x + 7) (f (x + 5) 8).toNatClampNeg a2) (x + 8) (f (x + 5) 8).toNatClampNeg a3) (x + 5) 8)) dX2_add_46 flX2_37 (sW_5 hs) rfl ?_
    refine S_eqi (x := f (x + 5) 8) ((up2_r (by omega)).trans ((up2_r (by omega)).trans ((up2_r (by omega)).trans rfl))) ?_
    refine S_iload (pc := 49) dX2_add_49 rfl ?_
    obtain ⟨hb5, H⟩ := H
    refine S_iast (pc := 51) dX2_add_51 (sW_9 hs) (Nat.succ_pos _) hb5 ?_
    refine S_aload_n (pc := 52) dX2_add_52 rfl rfl ?_
    refine S_getR (pc := 53) dX2_add_53 flX2_24 (sW_5 hs) rfl (rW_5_4 hs) ?_
    refine S_aload_n (pc := 56) dX2_add_56 rfl rfl ?_
    refine S_get (pc := 57) (v := .int ((up2 (up2 (up2 (up2 f (x + 6) (f (x + 5) 8).toNatClampNeg a1) (x + 7) (f (x + 5) 8).toNatClampNeg a2) (x + 8) (f (x + 5) 8).toNatClampNeg a3) (x + 9) (f (x + 5) 8).toNatClampNeg a4) (x + 5) 8)) dX2_add_57 flX2_37 (sW_5 hs) rfl ?_
    refine S_eqi (x := f (x + 5) 8) ((up2_r (by omega)).trans ((up2_r (by omega)).trans ((up2_r (by omega)).trans ((up2_r (by omega)).trans rfl)))) ?_
    refine S_iload (pc := 60) dX2_add_60 rfl ?_
    obtain ⟨hb6, H⟩ := H
    refine S_iast (pc := 62) dX2_add_62 (sW_10 hs) (Nat.succ_pos _) hb6 ?_
    refine S_aload_n (pc := 63) dX2_add_63 rfl rfl ?_
    refine S_getR (pc := 64) dX2_add_64 flX2_27 (sW_5 hs) rfl (rW_5_5 hs) ?_
    refine S_aload_n (pc := 67) dX2_add_67 rfl rfl ?_
    refine S_get (pc := 68) (v := .int ((up2 (up2 (up2 (up2 (up2 f (x + 6) (f (x + 5) 8).toNatClampNeg a1) (x + 7) (f (x + 5) 8).toNatClampNeg a2) (x + 8) (f (x + 5) 8).toNatClampNeg a3) (x + 9) (f (x + 5) 8).toNatClampNeg a4) (x + 10) (f (x + 5) 8).toNatClampNeg a5) (x + 5) 8)) dX2_add_68 flX2_37 (sW_5 hs) rfl ?_
    refine S_eqi (x := f (x + 5) 8) ((up2_r (by omega)).trans ((up2_r (by omega)).trans ((up2_r (by omega)).trans ((up2_r (by omega)).trans ((up2_r (by omega)).trans rfl))))) ?_
    refine S_iload (pc := 71) dX2_add_71 rfl ?_
    obtain ⟨hb7, H⟩ := H
    refine S_iast (pc := 73) dX2_add_73 (sW_11 hs) (Nat.succ_pos _) hb7 ?_
    refine S_aload_n (pc := 74) dX2_add_74 rfl rfl ?_
    refine S_getR (pc := 75) dX2_add_75 flX2_30 (sW_5 hs) rfl (rW_5_6 hs) ?_
    refine S_aload_n (pc := 78) dX2_add_78 rfl rfl ?_
    refine S_get (pc := 79) (v := .int ((up2 (up2 (up2 (up2 (up2 (up2 f (x + 6) (f (x + 5) 8).toNatClampNeg a1) (x + 7) (f (x + 5) 8).toNatClampNeg a2) (x + 8) (f (x + 5) 8).toNatClampNeg a3) (x + 9) (f (x + 5) 8).toNatClampNeg a4) (x + 10) (f (x + 5) 8).toNatClampNeg a5) (x + 11) (f (x + 5) 8).toNatClampNeg a6) (x + 5) 8)) dX2_add_79 flX2_37 (sW_5 hs) rfl ?_
    refine S_eqi (x := f (x + 5) 8) ((up2_r (by omega)).trans ((up2_r (by omega)).trans ((up2_r (by omega)).trans ((up2_r (by omega)).trans ((up2_r (by omega)).trans ((up2_r (by omega)).trans rfl)))))) ?_
    refine S_iload (pc := 82) dX2_add_82 rfl ?_
    obtain ⟨hb8, H⟩ := H
    refine S_zast (pc := 84) dX2_add_84 (sW_12 hs) (Nat.succ_pos _) hb8 ?_
    refine S_aload_n (pc := 85) dX2_add_85 rfl rfl ?_
    refine S_getR (pc := 86) dX2_add_86 flX2_34 (sW_5 hs) rfl (rW_5_7 hs) ?_
    refine S_aload_n (pc := 89) dX2_add_89 rfl rfl ?_
    refine S_get (pc := 90) (v := .int ((up2 (up2 (up2 (up2 (up2 (up2 (up2 f (x + 6) (f (x + 5) 8).toNatClampNeg a1) (x + 7) (f (x + 5) 8).toNatClampNeg a2) (x + 8) (f (x + 5) 8).toNatClampNeg a3) (x + 9) (f (x + 5) 8).toNatClampNeg a4) (x + 10) (f (x + 5) 8).toNatClampNeg a5) (x + 11) (f (x + 5) 8).toNatClampNeg a6) (x + 12) (f (x + 5) 8).toNatClampNeg (vp_nar .boolean a7)) (x + 5) 8)) dX2_add_90 flX2_37 (sW_5 hs) rfl ?_
    refine S_eqi (x := f (x + 5) 8) ((up2_r (by omega)).trans ((up2_r (by omega)).trans ((up2_r (by omega)).trans ((up2_r (by omega)).trans ((up2_r (by omega)).trans ((up2_r (by omega)).trans ((up2_r (by omega)).trans rfl))))))) ?_
    refine S_iconst (pc := 93) dX2_add_93 ic1 ?_
    obtain ⟨hb9, H⟩ := H
    refine S_zast (pc := 94) dX2_add_94 (sW_13 hs) (Nat.succ_pos _) hb9 ?_
    show WP _ _ _ _ _ _ _ 95 _ _ (sh, (up2 (up2 (up2 (up2 (up2 (up2 (up2 (up2 f (x + 6) (f (x + 5) 8).toNatClampNeg a1) (x + 7) (f (x + 5) 8).toNatClampNeg a2) (x + 8) (f (x + 5) 8).toNatClampNeg a3) (x + 9) (f (x + 5) 8).toNatClampNeg a4) (x + 10) (f (x + 5) 8).toNatClampNeg a5) (x + 11) (f (x + 5) 8).toNatClampNeg a6) (x + 12) (f (x + 5) 8).toNatClampNeg (vp_nar .boolean a7)) (x + 13) (f (x + 5) 8).toNatClampNeg (nI 1)), g, fR)
    refine S_aload_n (pc := 95) dX2_add_95 rfl rfl ?_
    refine S_dup (pc := 96) dX2_add_96 rfl ?_
    refine S_get (pc := 97) (v := .int ((up2 (up2 (up2 (up2 (up2 (up2 (up2 (up2 f (x + 6) (f (x + 5) 8).toNatClampNeg a1) (x + 7) (f (x + 5) 8).toNatClampNeg a2) (x + 8) (f (x + 5) 8).toNatClampNeg a3) (x + 9) (f (x + 5) 8).toNatClampNeg a4) (x + 10) (f (x + 5) 8).toNatClampNeg a5) (x + 11) (f (x + 5) 8).toNatClampNeg a6) (x + 12) (f (x + 5) 8).toNatClampNeg (vp_nar .boolean a7)) (x + 13) (f (x + 5) 8).toNatClampNeg (nI 1)) (x + 5) 8)) dX2_add_97 flX2_37 (sW_5 hs) rfl ?_
    refine S_eqi (x := f (x + 5) 8) ((up2_r (by omega)).trans ((up2_r (by omega)).trans ((up2_r (by omega)).trans ((up2_r (by omega)).trans ((up2_r (by omega)).trans ((up2_r (by omega)).trans ((up2_r (by omega)).trans ((up2_r (by omega)).trans rfl)))))))) ?_
    refine S_iconst (pc := 100) dX2_add_100 ic1 ?_
    refine S_iadd (pc := 101) dX2_add_101 ?_
    refine S_putI (pc := 102) dX2_add_102 flX2_37 (sW_5 hs) (Nat.succ_pos _) (nf_2_8) rfl rfl (fun _ => rfl) ?_
    exact S_vreturn dX2_add_105 rfl H
  · replace H := H.2 hc1
    exact S_vreturn dX2_add_10 rfl H
abbrev LpX2_flyingRow_4 (l : Launch) (G : Gx) (d : Nat) (Q : Option Value → Hp → Prop) (sh : Sh) (fR : FRt) (x : Nat) (f : FI) (g : FL) (a2 : Int32) (a3 : Int32) : Prop := WP l G (Zq G 0 0 Q) mX2_flyingRow (rmd d 0 0) 0 0 4 [some (.ref (x + 5)), none, some (.int a2), some (.int a3)] [] (sh, f, g, fR)
abbrev LpX2_flyingRow_34 (l : Launch) (G : Gx) (d : Nat) (Q : Option Value → Hp → Prop) (sh : Sh) (fR : FRt) (x : Nat) (f : FI) (g : FL) (a2 : Int32) (a3 : Int32) : Prop := WP l G (Zq G 0 0 Q) mX2_flyingRow (rmd d 0 0) 0 0 34 [some (.ref (x + 5)), none, some (.int a2), some (.int a3)] [] (sh, f, g, fR)
set_option maxHeartbeats 2000000 in
set_option maxRecDepth 4000 in
theorem VX2_flyingRow {l : Launch} {G : Gx} {d : Nat} {Q : Option Value → Hp → Prop} {sh : Sh} {fR : FRt} {x : Nat} {f : FI} {g : FL} {a1 : Int32} (hs : StW sh fR x)
    (H : LpX2_flyingRow_4 l G d Q sh fR x f g a1 (nI 0)) :
    Cl l G d 0 0 mX2_flyingRow [.ref (x + 5), .int a1] (sh, f, g, fR) Q := by
  refine Cl.of (L0 := [some (.ref (x + 5)), some (.int a1), none, none]) miX2_flyingRow rfl rfl ?_
  refine S_iload_n (pc := 0) dX2_flyingRow_0 rfl rfl ?_
  refine S_istore_n (pc := 1) (L' := [some (.ref (x + 5)), some (.int a1), some (.int a1), none]) dX2_flyingRow_1 rfl (by decide) rfl ?_
  refine S_iconst (pc := 2) dX2_flyingRow_2 ic0 ?_
  refine S_istore_n (pc := 3) (L' := [some (.ref (x + 5)), some (.int a1), some (.int a1), some (.int (nI 0))]) dX2_flyingRow_3 rfl (by decide) rfl ?_
  exact S_weak (L' := [some (.ref (x + 5)), none, some (.int a1), some (.int (nI 0))]) (ls_e (ls_n (ls_e (ls_e ls_0)))) H
set_option maxHeartbeats 2000000 in
set_option maxRecDepth 4000 in
theorem VX2_flyingRow_4 {l : Launch} {G : Gx} {d : Nat} {Q : Option Value → Hp → Prop} {sh : Sh} {fR : FRt} {x : Nat} {f : FI} {g : FL} {a2 : Int32} {a3 : Int32} (hs : StW sh fR x)
    (H : (((f (x + 5) 8) ≤ a3 → Q (some (.int (-1))) (sh, f, g, fR)) ∧ (¬ (f (x + 5) 8) ≤ a3 → ((a2 < 0 → Q (some (.int (-1))) (sh, f, g, fR)) ∧ (¬ a2 < 0 → inb a3 512 ∧ (((f (x + 13) a3.toNatClampNeg) = 0 → LpX2_flyingRow_34 l G d Q sh fR x f g a2 a3) ∧ (¬ (f (x + 13) a3.toNatClampNeg) = 0 → ((¬ a2 = 0 → LpX2_flyingRow_34 l G d Q sh fR x f g (a2 + (-1)) a3) ∧ (a2 = 0 → Q (some (.int a3)) (sh, f, g, fR)))))))))) :
    LpX2_flyingRow_4 l G d Q sh fR x f g a2 a3 := by
  refine S_iload_n (pc := 4) dX2_flyingRow_4 rfl rfl ?_
  refine S_aload_n (pc := 5) dX2_flyingRow_5 rfl rfl ?_
  refine S_get (pc := 6) (v := .int (f (x + 5) 8)) dX2_flyingRow_6 flX2_37 (sW_5 hs) rfl ?_
  refine S_icmp_ge (pc := 9) (tgt := 40) dX2_flyingRow_9 rfl (fun hc1 => ?_) (fun hc1 => ?_)
  · replace H := H.1 hc1
    refine S_iconst (pc := 40) dX2_flyingRow_40 icm1 ?_
    exact S_ireturn dX2_flyingRow_41 rfl H
  · replace H := H.2 hc1
    refine S_iload_n (pc := 12) dX2_flyingRow_12 rfl rfl ?_
    refine S_if_lt (pc := 13) (tgt := 40) dX2_flyingRow_13 rfl (fun hc2 => ?_) (fun hc2 => ?_)
    · replace H := H.1 hc2
      refine S_iconst (pc := 40) dX2_flyingRow_40 icm1 ?_
      exact S_ireturn dX2_flyingRow_41 rfl H
    · replace H := H.2 hc2
      refine S_aload_n (pc := 16) dX2_flyingRow_16 rfl rfl ?_
      refine S_getR (pc := 17) dX2_flyingRow_17 flX2_34 (sW_5 hs) rfl (rW_5_7 hs) ?_
      refine S_iload_n (pc := 20) dX2_flyingRow_20 rfl rfl ?_
      obtain ⟨hb3, H⟩ := H
      refine S_zald (pc := 21) dX2_flyingRow_21 (sW_13 hs) hb3 ?_
      refine S_if_eq (pc := 22) (tgt := 34) dX2_flyingRow_22 rfl (fun hc4 => ?_) (fun hc4 => ?_)
      · replace H := H.1 hc4
        exact H
      · replace H := H.2 hc4
        refine S_iload_n (pc := 25) dX2_flyingRow_25 rfl rfl ?_
        refine S_if_ne (pc := 26) (tgt := 31) dX2_flyingRow_26 rfl (fun hc5 => ?_) (fun hc5 => ?_)
        · replace H := H.1 hc5
          refine S_iinc (pc := 31) (v := (-1)) (L' := [some (.ref (x + 5)), none, some (.int (a2 + (-1))), some (.int a3)]) dX2_flyingRow_31 rfl icm1 rfl ?_
          exact H
        · replace H := H.2 hc5
          refine S_iload_n (pc := 29) dX2_flyingRow_29 rfl rfl ?_
          exact S_ireturn dX2_flyingRow_30 rfl H
set_option maxHeartbeats 2000000 in
set_option maxRecDepth 4000 in
theorem VX2_flyingRow_34 {l : Launch} {G : Gx} {d : Nat} {Q : Option Value → Hp → Prop} {sh : Sh} {fR : FRt} {x : Nat} {f : FI} {g : FL} {a2 : Int32} {a3 : Int32} (hs : StW sh fR x)
    (H : LpX2_flyingRow_4 l G d Q sh fR x f g a2 (a3 + nI 1)) :
    LpX2_flyingRow_34 l G d Q sh fR x f g a2 a3 := by
  refine S_iinc (pc := 34) (v := nI 1) (L' := [some (.ref (x + 5)), none, some (.int a2), some (.int (a3 + nI 1))]) dX2_flyingRow_34 rfl ic1 rfl ?_
  refine S_goto (pc := 37) (tgt := 4) dX2_flyingRow_37 rfl ?_
  exact H
abbrev LpX2_rowOf_2 (l : Launch) (G : Gx) (d : Nat) (Q : Option Value → Hp → Prop) (sh : Sh) (fR : FRt) (x : Nat) (f : FI) (g : FL) (a1 : Int32) (a2 : Int32) (a3 : Int32) : Prop := WP l G (Zq G 0 0 Q) mX2_rowOf (rmd d 0 0) 0 0 2 [some (.ref (x + 5)), some (.int a1), some (.int a2), some (.int a3)] [] (sh, f, g, fR)
abbrev LpX2_rowOf_41 (l : Launch) (G : Gx) (d : Nat) (Q : Option Value → Hp → Prop) (sh : Sh) (fR : FRt) (x : Nat) (f : FI) (g : FL) (a1 : Int32) (a2 : Int32) (a3 : Int32) : Prop := WP l G (Zq G 0 0 Q) mX2_rowOf (rmd d 0 0) 0 0 41 [some (.ref (x + 5)), some (.int a1), some (.int a2), some (.int a3)] [] (sh, f, g, fR)
set_option maxHeartbeats 2000000 in
set_option maxRecDepth 4000 in
theorem VX2_rowOf {l : Launch} {G : Gx} {d : Nat} {Q : Option Value → Hp → Prop} {sh : Sh} {fR : FRt} {x : Nat} {f : FI} {g : FL} {a1 : Int32} {a2 : Int32} (hs : StW sh fR x)
    (H : LpX2_rowOf_2 l G d Q sh fR x f g a1 a2 (nI 0)) :
    Cl l G d 0 0 mX2_rowOf [.ref (x + 5), .int a1, .int a2] (sh, f, g, fR) Q := by
  refine Cl.of (L0 := [some (.ref (x + 5)), some (.int a1), some (.int a2), none]) miX2_rowOf rfl rfl ?_
  refine S_iconst (pc := 0) dX2_rowOf_0 ic0 ?_
  refine S_istore_n (pc := 1) (L' := [some (.ref (x + 5)), some (.int a1), some (.int a2), some (.int (nI 0))]) dX2_rowOf_1 rfl (by decide) rfl ?_
  exact H
set_option maxHeartbeats 2000000 in
set_option maxRecDepth 4000 in
theorem VX2_rowOf_2 {l : Launch} {G : Gx} {d : Nat} {Q : Option Value → Hp → Prop} {sh : Sh} {fR : FRt} {x : Nat} {f : FI} {g : FL} {a1 : Int32} {a2 : Int32} {a3 : Int32} (hs : StW sh fR x)
    (H : (((f (x + 5) 8) ≤ a3 → Q (some (.int (-1))) (sh, f, g, fR)) ∧ (¬ (f (x + 5) 8) ≤ a3 → inb a3 512 ∧ (((f (x + 13) a3.toNatClampNeg) = 0 → LpX2_rowOf_41 l G d Q sh fR x f g a1 a2 a3) ∧ (¬ (f (x + 13) a3.toNatClampNeg) = 0 → inb a3 512 ∧ ((¬ (f (x + 6) a3.toNatClampNeg) = a1 → LpX2_rowOf_41 l G d Q sh fR x f g a1 a2 a3) ∧ ((f (x + 6) a3.toNatClampNeg) = a1 → inb a3 512 ∧ ((¬ (f (x + 7) a3.toNatClampNeg) = a2 → LpX2_rowOf_41 l G d Q sh fR x f g a1 a2 a3) ∧ ((f (x + 7) a3.toNatClampNeg) = a2 → Q (some (.int a3)) (sh, f, g, fR)))))))))) :
    LpX2_rowOf_2 l G d Q sh fR x f g a1 a2 a3 := by
  refine S_iload_n (pc := 2) dX2_rowOf_2 rfl rfl ?_
  refine S_aload_n (pc := 3) dX2_rowOf_3 rfl rfl ?_
  refine S_get (pc := 4) (v := .int (f (x + 5) 8)) dX2_rowOf_4 flX2_37 (sW_5 hs) rfl ?_
  refine S_icmp_ge (pc := 7) (tgt := 47) dX2_rowOf_7 rfl (fun hc1 => ?_) (fun hc1 => ?_)
  · replace H := H.1 hc1
    refine S_iconst (pc := 47) dX2_rowOf_47 icm1 ?_
    exact S_ireturn dX2_rowOf_48 rfl H
  · replace H := H.2 hc1
    refine S_aload_n (pc := 10) dX2_rowOf_10 rfl rfl ?_
    refine S_getR (pc := 11) dX2_rowOf_11 flX2_34 (sW_5 hs) rfl (rW_5_7 hs) ?_
    refine S_iload_n (pc := 14) dX2_rowOf_14 rfl rfl ?_
    obtain ⟨hb2, H⟩ := H
    refine S_zald (pc := 15) dX2_rowOf_15 (sW_13 hs) hb2 ?_
    refine S_if_eq (pc := 16) (tgt := 41) dX2_rowOf_16 rfl (fun hc3 => ?_) (fun hc3 => ?_)
    · replace H := H.1 hc3
      exact H
    · replace H := H.2 hc3
      refine S_aload_n (pc := 19) dX2_rowOf_19 rfl rfl ?_
      refine S_getR (pc := 20) dX2_rowOf_20 flX2_11 (sW_5 hs) rfl (rW_5_0 hs) ?_
      refine S_iload_n (pc := 23) dX2_rowOf_23 rfl rfl ?_
      obtain ⟨hb4, H⟩ := H
      refine S_iald (pc := 24) dX2_rowOf_24 (sW_6 hs) hb4 ?_
      refine S_iload_n (pc := 25) dX2_rowOf_25 rfl rfl ?_
      refine S_icmp_ne (pc := 26) (tgt := 41) dX2_rowOf_26 rfl (fun hc5 => ?_) (fun hc5 => ?_)
      · replace H := H.1 hc5
        exact H
      · replace H := H.2 hc5
        refine S_aload_n (pc := 29) dX2_rowOf_29 rfl rfl ?_
        refine S_getR (pc := 30) dX2_rowOf_30 flX2_15 (sW_5 hs) rfl (rW_5_1 hs) ?_
        refine S_iload_n (pc := 33) dX2_rowOf_33 rfl rfl ?_
        obtain ⟨hb6, H⟩ := H
        refine S_iald (pc := 34) dX2_rowOf_34 (sW_7 hs) hb6 ?_
        refine S_iload_n (pc := 35) dX2_rowOf_35 rfl rfl ?_
        refine S_icmp_ne (pc := 36) (tgt := 41) dX2_rowOf_36 rfl (fun hc7 => ?_) (fun hc7 => ?_)
        · replace H := H.1 hc7
          exact H
        · replace H := H.2 hc7
          refine S_iload_n (pc := 39) dX2_rowOf_39 rfl rfl ?_
          exact S_ireturn dX2_rowOf_40 rfl H
set_option maxHeartbeats 2000000 in
set_option maxRecDepth 4000 in
theorem VX2_rowOf_41 {l : Launch} {G : Gx} {d : Nat} {Q : Option Value → Hp → Prop} {sh : Sh} {fR : FRt} {x : Nat} {f : FI} {g : FL} {a1 : Int32} {a2 : Int32} {a3 : Int32} (hs : StW sh fR x)
    (H : LpX2_rowOf_2 l G d Q sh fR x f g a1 a2 (a3 + nI 1)) :
    LpX2_rowOf_41 l G d Q sh fR x f g a1 a2 a3 := by
  refine S_iinc (pc := 41) (v := nI 1) (L' := [some (.ref (x + 5)), some (.int a1), some (.int a2), some (.int (a3 + nI 1))]) dX2_rowOf_41 rfl ic1 rfl ?_
  refine S_goto (pc := 44) (tgt := 2) dX2_rowOf_44 rfl ?_
  exact H
abbrev LpX2_firstOn_2 (l : Launch) (G : Gx) (d : Nat) (Q : Option Value → Hp → Prop) (sh : Sh) (fR : FRt) (x : Nat) (f : FI) (g : FL) (a1 : Int32) (a2 : Int32) : Prop := WP l G (Zq G 0 0 Q) mX2_firstOn (rmd d 0 0) 0 0 2 [some (.ref (x + 5)), some (.int a1), some (.int a2)] [] (sh, f, g, fR)
abbrev LpX2_firstOn_31 (l : Launch) (G : Gx) (d : Nat) (Q : Option Value → Hp → Prop) (sh : Sh) (fR : FRt) (x : Nat) (f : FI) (g : FL) (a1 : Int32) (a2 : Int32) : Prop := WP l G (Zq G 0 0 Q) mX2_firstOn (rmd d 0 0) 0 0 31 [some (.ref (x + 5)), some (.int a1), some (.int a2)] [] (sh, f, g, fR)
set_option maxHeartbeats 2000000 in
set_option maxRecDepth 4000 in
theorem VX2_firstOn {l : Launch} {G : Gx} {d : Nat} {Q : Option Value → Hp → Prop} {sh : Sh} {fR : FRt} {x : Nat} {f : FI} {g : FL} {a1 : Int32} (hs : StW sh fR x)
    (H : LpX2_firstOn_2 l G d Q sh fR x f g a1 (nI 0)) :
    Cl l G d 0 0 mX2_firstOn [.ref (x + 5), .int a1] (sh, f, g, fR) Q := by
  refine Cl.of (L0 := [some (.ref (x + 5)), some (.int a1), none]) miX2_firstOn rfl rfl ?_
  refine S_iconst (pc := 0) dX2_firstOn_0 ic0 ?_
  refine S_istore_n (pc := 1) (L' := [some (.ref (x + 5)), some (.int a1), some (.int (nI 0))]) dX2_firstOn_1 rfl (by decide) rfl ?_
  exact H
set_option maxHeartbeats 2000000 in
set_option maxRecDepth 4000 in
theorem VX2_firstOn_2 {l : Launch} {G : Gx} {d : Nat} {Q : Option Value → Hp → Prop} {sh : Sh} {fR : FRt} {x : Nat} {f : FI} {g : FL} {a1 : Int32} {a2 : Int32} (hs : StW sh fR x)
    (H : (((f (x + 5) 8) ≤ a2 → Q (some (.int (-1))) (sh, f, g, fR)) ∧ (¬ (f (x + 5) 8) ≤ a2 → inb a2 512 ∧ (((f (x + 13) a2.toNatClampNeg) = 0 → LpX2_firstOn_31 l G d Q sh fR x f g a1 a2) ∧ (¬ (f (x + 13) a2.toNatClampNeg) = 0 → inb a2 512 ∧ ((¬ (f (x + 6) a2.toNatClampNeg) = a1 → LpX2_firstOn_31 l G d Q sh fR x f g a1 a2) ∧ ((f (x + 6) a2.toNatClampNeg) = a1 → Q (some (.int a2)) (sh, f, g, fR)))))))) :
    LpX2_firstOn_2 l G d Q sh fR x f g a1 a2 := by
  refine S_iload_n (pc := 2) dX2_firstOn_2 rfl rfl ?_
  refine S_aload_n (pc := 3) dX2_firstOn_3 rfl rfl ?_
  refine S_get (pc := 4) (v := .int (f (x + 5) 8)) dX2_firstOn_4 flX2_37 (sW_5 hs) rfl ?_
  refine S_icmp_ge (pc := 7) (tgt := 37) dX2_firstOn_7 rfl (fun hc1 => ?_) (fun hc1 => ?_)
  · replace H := H.1 hc1
    refine S_iconst (pc := 37) dX2_firstOn_37 icm1 ?_
    exact S_ireturn dX2_firstOn_38 rfl H
  · replace H := H.2 hc1
    refine S_aload_n (pc := 10) dX2_firstOn_10 rfl rfl ?_
    refine S_getR (pc := 11) dX2_firstOn_11 flX2_34 (sW_5 hs) rfl (rW_5_7 hs) ?_
    refine S_iload_n (pc := 14) dX2_firstOn_14 rfl rfl ?_
    obtain ⟨hb2, H⟩ := H
    refine S_zald (pc := 15) dX2_firstOn_15 (sW_13 hs) hb2 ?_
    refine S_if_eq (pc := 16) (tgt := 31) dX2_firstOn_16 rfl (fun hc3 => ?_) (fun hc3 => ?_)
    · replace H := H.1 hc3
      exact H
    · replace H := H.2 hc3
      refine S_aload_n (pc := 19) dX2_firstOn_19 rfl rfl ?_
      refine S_getR (pc := 20) dX2_firstOn_20 flX2_11 (sW_5 hs) rfl (rW_5_0 hs) ?_
      refine S_iload_n (pc := 23) dX2_firstOn_23 rfl rfl ?_
      obtain ⟨hb4, H⟩ := H
      refine S_iald (pc := 24) dX2_firstOn_24 (sW_6 hs) hb4 ?_
      refine S_iload_n (pc := 25) dX2_firstOn_25 rfl rfl ?_
      refine S_icmp_ne (pc := 26) (tgt := 31) dX2_firstOn_26 rfl (fun hc5 => ?_) (fun hc5 => ?_)
      · replace H := H.1 hc5
        exact H
      · replace H := H.2 hc5
        refine S_iload_n (pc := 29) dX2_firstOn_29 rfl rfl ?_
        exact S_ireturn dX2_firstOn_30 rfl H
set_option maxHeartbeats 2000000 in
set_option maxRecDepth 4000 in
theorem VX2_firstOn_31 {l : Launch} {G : Gx} {d : Nat} {Q : Option Value → Hp → Prop} {sh : Sh} {fR : FRt} {x : Nat} {f : FI} {g : FL} {a1 : Int32} {a2 : Int32} (hs : StW sh fR x)
    (H : LpX2_firstOn_2 l G d Q sh fR x f g a1 (a2 + nI 1)) :
    LpX2_firstOn_31 l G d Q sh fR x f g a1 a2 := by
  refine S_iinc (pc := 31) (v := nI 1) (L' := [some (.ref (x + 5)), some (.int a1), some (.int (a2 + nI 1))]) dX2_firstOn_31 rfl ic1 rfl ?_
  refine S_goto (pc := 34) (tgt := 2) dX2_firstOn_34 rfl ?_
  exact H
abbrev LpX2_firstWith_2 (l : Launch) (G : Gx) (d : Nat) (Q : Option Value → Hp → Prop) (sh : Sh) (fR : FRt) (x : Nat) (f : FI) (g : FL) (a1 : Int32) (a2 : Int32) : Prop := WP l G (Zq G 0 0 Q) mX2_firstWith (rmd d 0 0) 0 0 2 [some (.ref (x + 5)), some (.int a1), some (.int a2)] [] (sh, f, g, fR)
abbrev LpX2_firstWith_48 (l : Launch) (G : Gx) (d : Nat) (Q : Option Value → Hp → Prop) (sh : Sh) (fR : FRt) (x : Nat) (f : FI) (g : FL) (a1 : Int32) (a2 : Int32) : Prop := WP l G (Zq G 0 0 Q) mX2_firstWith (rmd d 0 0) 0 0 48 [some (.ref (x + 5)), some (.int a1), some (.int a2)] [] (sh, f, g, fR)
set_option maxHeartbeats 2000000 in
set_option maxRecDepth 4000 in
theorem VX2_firstWith {l : Launch} {G : Gx} {d : Nat} {Q : Option Value → Hp → Prop} {sh : Sh} {fR : FRt} {x : Nat} {f : FI} {g : FL} {a1 : Int32} (hs : StW sh fR x)
    (H : LpX2_firstWith_2 l G d Q sh fR x f g a1 (nI 0)) :
    Cl l G d 0 0 mX2_firstWith [.ref (x + 5), .int a1] (sh, f, g, fR) Q := by
  refine Cl.of (L0 := [some (.ref (x + 5)), some (.int a1), none]) miX2_firstWith rfl rfl ?_
  refine S_iconst (pc := 0) dX2_firstWith_0 ic0 ?_
  refine S_istore_n (pc := 1) (L' := [some (.ref (x + 5)), some (.int a1), some (.int (nI 0))]) dX2_firstWith_1 rfl (by decide) rfl ?_
  exact H
set_option maxHeartbeats 2000000 in
set_option maxRecDepth 4000 in
theorem VX2_firstWith_2 {l : Launch} {G : Gx} {d : Nat} {Q : Option Value → Hp → Prop} {sh : Sh} {fR : FRt} {x : Nat} {f : FI} {g : FL} {a1 : Int32} {a2 : Int32} (hs : StW sh fR x)
    (H : (((f (x + 5) 8) ≤ a2 → Q (some (.int (-1))) (sh, f, g, fR)) ∧ (¬ (f (x + 5) 8) ≤ a2 → inb a2 512 ∧ (((f (x + 13) a2.toNatClampNeg) = 0 → LpX2_firstWith_48 l G d Q sh fR x f g a1 a2) ∧ (¬ (f (x + 13) a2.toNatClampNeg) = 0 → inb a2 512 ∧ ((a1 < (f (x + 8) a2.toNatClampNeg) → LpX2_firstWith_48 l G d Q sh fR x f g a1 a2) ∧ (¬ a1 < (f (x + 8) a2.toNatClampNeg) → inb a2 512 ∧ inb a2 512 ∧ ((((f (x + 8) a2.toNatClampNeg) + (f (x + 9) a2.toNatClampNeg)) ≤ a1 → LpX2_firstWith_48 l G d Q sh fR x f g a1 a2) ∧ (¬ ((f (x + 8) a2.toNatClampNeg) + (f (x + 9) a2.toNatClampNeg)) ≤ a1 → Q (some (.int a2)) (sh, f, g, fR)))))))))) :
    LpX2_firstWith_2 l G d Q sh fR x f g a1 a2 := by
  refine S_iload_n (pc := 2) dX2_firstWith_2 rfl rfl ?_
  refine S_aload_n (pc := 3) dX2_firstWith_3 rfl rfl ?_
  refine S_get (pc := 4) (v := .int (f (x + 5) 8)) dX2_firstWith_4 flX2_37 (sW_5 hs) rfl ?_
  refine S_icmp_ge (pc := 7) (tgt := 54) dX2_firstWith_7 rfl (fun hc1 => ?_) (fun hc1 => ?_)
  · replace H := H.1 hc1
    refine S_iconst (pc := 54) dX2_firstWith_54 icm1 ?_
    exact S_ireturn dX2_firstWith_55 rfl H
  · replace H := H.2 hc1
    refine S_aload_n (pc := 10) dX2_firstWith_10 rfl rfl ?_
    refine S_getR (pc := 11) dX2_firstWith_11 flX2_34 (sW_5 hs) rfl (rW_5_7 hs) ?_
    refine S_iload_n (pc := 14) dX2_firstWith_14 rfl rfl ?_
    obtain ⟨hb2, H⟩ := H
    refine S_zald (pc := 15) dX2_firstWith_15 (sW_13 hs) hb2 ?_
    refine S_if_eq (pc := 16) (tgt := 48) dX2_firstWith_16 rfl (fun hc3 => ?_) (fun hc3 => ?_)
    · replace H := H.1 hc3
      exact H
    · replace H := H.2 hc3
      refine S_aload_n (pc := 19) dX2_firstWith_19 rfl rfl ?_
      refine S_getR (pc := 20) dX2_firstWith_20 flX2_18 (sW_5 hs) rfl (rW_5_2 hs) ?_
      refine S_iload_n (pc := 23) dX2_firstWith_23 rfl rfl ?_
      obtain ⟨hb4, H⟩ := H
      refine S_iald (pc := 24) dX2_firstWith_24 (sW_8 hs) hb4 ?_
      refine S_iload_n (pc := 25) dX2_firstWith_25 rfl rfl ?_
      refine S_icmp_gt (pc := 26) (tgt := 48) dX2_firstWith_26 rfl (fun hc5 => ?_) (fun hc5 => ?_)
      · replace H := H.1 hc5
        exact H
      · replace H := H.2 hc5
        refine S_iload_n (pc := 29) dX2_firstWith_29 rfl rfl ?_
        refine S_aload_n (pc := 30) dX2_firstWith_30 rfl rfl ?_
        refine S_getR (pc := 31) dX2_firstWith_31 flX2_18 (sW_5 hs) rfl (rW_5_2 hs) ?_
        refine S_iload_n (pc := 34) dX2_firstWith_34 rfl rfl ?_
        obtain ⟨hb6, H⟩ := H
        refine S_iald (pc := 35) dX2_firstWith_35 (sW_8 hs) hb6 ?_
        refine S_aload_n (pc := 36) dX2_firstWith_36 rfl rfl ?_
        refine S_getR (pc := 37) dX2_firstWith_37 flX2_21 (sW_5 hs) rfl (rW_5_3 hs) ?_
        refine S_iload_n (pc := 40) dX2_firstWith_40 rfl rfl ?_
        obtain ⟨hb7, H⟩ := H
        refine S_iald (pc := 41) dX2_firstWith_41 (sW_9 hs) hb7 ?_
        refine S_iadd (pc := 42) dX2_firstWith_42 ?_
        refine S_icmp_ge (pc := 43) (tgt := 48) dX2_firstWith_43 rfl (fun hc8 => ?_) (fun hc8 => ?_)
        · replace H := H.1 hc8
          exact H
        · replace H := H.2 hc8
          refine S_iload_n (pc := 46) dX2_firstWith_46 rfl rfl ?_
          exact S_ireturn dX2_firstWith_47 rfl H
set_option maxHeartbeats 2000000 in
set_option maxRecDepth 4000 in
theorem VX2_firstWith_48 {l : Launch} {G : Gx} {d : Nat} {Q : Option Value → Hp → Prop} {sh : Sh} {fR : FRt} {x : Nat} {f : FI} {g : FL} {a1 : Int32} {a2 : Int32} (hs : StW sh fR x)
    (H : LpX2_firstWith_2 l G d Q sh fR x f g a1 (a2 + nI 1)) :
    LpX2_firstWith_48 l G d Q sh fR x f g a1 a2 := by
  refine S_iinc (pc := 48) (v := nI 1) (L' := [some (.ref (x + 5)), some (.int a1), some (.int (a2 + nI 1))]) dX2_firstWith_48 rfl ic1 rfl ?_
  refine S_goto (pc := 51) (tgt := 2) dX2_firstWith_51 rfl ?_
  exact H
abbrev LpX2_tidy_4 (l : Launch) (G : Gx) (d : Nat) (Q : Option Value → Hp → Prop) (sh : Sh) (fR : FRt) (x : Nat) (f : FI) (g : FL) (a1 : Int32) (a2 : Int32) (a3 : Int32) : Prop := WP l G (Zq G 0 0 Q) mX2_tidy (rmd (d + 1) 0 0) 0 0 4 [some (.ref (x + 5)), some (.int a1), some (.int a2), some (.int a3)] [] (sh, f, g, fR)
abbrev LpX2_tidy_31 (l : Launch) (G : Gx) (d : Nat) (Q : Option Value → Hp → Prop) (sh : Sh) (fR : FRt) (x : Nat) (f : FI) (g : FL) (a1 : Int32) (a2 : Int32) (a3 : Int32) : Prop := WP l G (Zq G 0 0 Q) mX2_tidy (rmd (d + 1) 0 0) 0 0 31 [some (.ref (x + 5)), some (.int a1), some (.int a2), some (.int a3)] [] (sh, f, g, fR)
abbrev LpX2_tidy_45 (l : Launch) (G : Gx) (d : Nat) (Q : Option Value → Hp → Prop) (sh : Sh) (fR : FRt) (x : Nat) (f : FI) (g : FL) (a1 : Int32) (a2 : Int32) (a3 : Int32) : Prop := WP l G (Zq G 0 0 Q) mX2_tidy (rmd (d + 1) 0 0) 0 0 45 [some (.ref (x + 5)), some (.int a1), some (.int a2), some (.int a3)] [] (sh, f, g, fR)
abbrev LpX2_tidy_42 (l : Launch) (G : Gx) (d : Nat) (Q : Option Value → Hp → Prop) (sh : Sh) (fR : FRt) (x : Nat) (f : FI) (g : FL) (a1 : Int32) (a2 : Int32) (a3 : Int32) : Prop := WP l G (Zq G 0 0 Q) mX2_tidy (rmd (d + 1) 0 0) 0 0 42 [some (.ref (x + 5)), some (.int a1), some (.int a2), some (.int a3)] [] (sh, f, g, fR)
set_option maxHeartbeats 2000000 in
set_option maxRecDepth 4000 in
theorem VX2_tidy {l : Launch} {G : Gx} {d : Nat} {Q : Option Value → Hp → Prop} {sh : Sh} {fR : FRt} {x : Nat} {f : FI} {g : FL} {a1 : Int32} (hs : StW sh fR x)
    (H : LpX2_tidy_4 l G d Q sh fR x f g a1 (nI 0) (nI 0)) :
    Cl l G (d + 1) 0 0 mX2_tidy [.ref (x + 5), .int a1] (sh, f, g, fR) Q := by
  refine Cl.of (L0 := [some (.ref (x + 5)), some (.int a1), none, none]) miX2_tidy rfl rfl ?_
  refine S_iconst (pc := 0) dX2_tidy_0 ic0 ?_
  refine S_istore_n (pc := 1) (L' := [some (.ref (x + 5)), some (.int a1), some (.int (nI 0)), none]) dX2_tidy_1 rfl (by decide) rfl ?_
  refine S_iconst (pc := 2) dX2_tidy_2 ic0 ?_
  refine S_istore_n (pc := 3) (L' := [some (.ref (x + 5)), some (.int a1), some (.int (nI 0)), some (.int (nI 0))]) dX2_tidy_3 rfl (by decide) rfl ?_
  exact H
set_option maxHeartbeats 2000000 in
set_option maxRecDepth 4000 in
theorem VX2_tidy_4 {l : Launch} {G : Gx} {d : Nat} {Q : Option Value → Hp → Prop} {sh : Sh} {fR : FRt} {x : Nat} {f : FI} {g : FL} {a1 : Int32} {a2 : Int32} {a3 : Int32} (hs : StW sh fR x)
    (H : (((f (x + 5) 8) ≤ a3 → Q none (sh, (up2 f (x + 5) 8 a2), g, fR)) ∧ (¬ (f (x + 5) 8) ≤ a3 → inb a3 512 ∧ ((¬ (f (x + 13) a3.toNatClampNeg) = 0 → LpX2_tidy_31 l G d Q sh fR x f g a1 a2 a3) ∧ ((f (x + 13) a3.toNatClampNeg) = 0 → inb a3 512 ∧ (((f (x + 11) a3.toNatClampNeg) ≤ a1 → LpX2_tidy_45 l G d Q sh fR x f g a1 a2 a3) ∧ (¬ (f (x + 11) a3.toNatClampNeg) ≤ a1 → LpX2_tidy_31 l G d Q sh fR x f g a1 a2 a3))))))) :
    LpX2_tidy_4 l G d Q sh fR x f g a1 a2 a3 := by
  refine S_iload_n (pc := 4) dX2_tidy_4 rfl rfl ?_
  refine S_aload_n (pc := 5) dX2_tidy_5 rfl rfl ?_
  refine S_get (pc := 6) (v := .int (f (x + 5) 8)) dX2_tidy_6 flX2_37 (sW_5 hs) rfl ?_
  refine S_icmp_ge (pc := 9) (tgt := 51) dX2_tidy_9 rfl (fun hc1 => ?_) (fun hc1 => ?_)
  · replace H := H.1 hc1
    refine S_aload_n (pc := 51) dX2_tidy_51 rfl rfl ?_
    refine S_iload_n (pc := 52) dX2_tidy_52 rfl rfl ?_
    refine S_putI (pc := 53) dX2_tidy_53 flX2_37 (sW_5 hs) (Nat.succ_pos _) (nf_2_8) rfl rfl (fun _ => rfl) ?_
    exact S_vreturn dX2_tidy_56 rfl H
  · replace H := H.2 hc1
    refine S_aload_n (pc := 12) dX2_tidy_12 rfl rfl ?_
    refine S_getR (pc := 13) dX2_tidy_13 flX2_34 (sW_5 hs) rfl (rW_5_7 hs) ?_
    refine S_iload_n (pc := 16) dX2_tidy_16 rfl rfl ?_
    obtain ⟨hb2, H⟩ := H
    refine S_zald (pc := 17) dX2_tidy_17 (sW_13 hs) hb2 ?_
    refine S_if_ne (pc := 18) (tgt := 31) dX2_tidy_18 rfl (fun hc3 => ?_) (fun hc3 => ?_)
    · replace H := H.1 hc3
      exact H
    · replace H := H.2 hc3
      refine S_aload_n (pc := 21) dX2_tidy_21 rfl rfl ?_
      refine S_getR (pc := 22) dX2_tidy_22 flX2_27 (sW_5 hs) rfl (rW_5_5 hs) ?_
      refine S_iload_n (pc := 25) dX2_tidy_25 rfl rfl ?_
      obtain ⟨hb4, H⟩ := H
      refine S_iald (pc := 26) dX2_tidy_26 (sW_11 hs) hb4 ?_
      refine S_iload_n (pc := 27) dX2_tidy_27 rfl rfl ?_
      refine S_icmp_le (pc := 28) (tgt := 45) dX2_tidy_28 rfl (fun hc5 => ?_) (fun hc5 => ?_)
      · replace H := H.1 hc5
        exact H
      · replace H := H.2 hc5
        exact H
set_option maxHeartbeats 2000000 in
set_option maxRecDepth 4000 in
theorem VX2_tidy_31 {l : Launch} {G : Gx} {d : Nat} {Q : Option Value → Hp → Prop} {sh : Sh} {fR : FRt} {x : Nat} {f : FI} {g : FL} {a1 : Int32} {a2 : Int32} {a3 : Int32} (hs : StW sh fR x)
    (H : ((a3 ≤ a2 → LpX2_tidy_42 l G d Q sh fR x f g a1 a2 a3) ∧ (¬ a3 ≤ a2 → inb a3 512 ∧ inb a2 512 ∧ inb a3 512 ∧ inb a2 512 ∧ inb a3 512 ∧ inb a2 512 ∧ inb a3 512 ∧ inb a2 512 ∧ inb a3 512 ∧ inb a2 512 ∧ inb a3 512 ∧ inb a2 512 ∧ inb a3 512 ∧ inb a2 512 ∧ inb a3 512 ∧ inb a2 512 ∧ LpX2_tidy_42 l G d Q sh fR x (up2 (up2 (up2 (up2 (up2 (up2 (up2 (up2 f (x + 6) a2.toNatClampNeg (f (x + 6) a3.toNatClampNeg)) (x + 7) a2.toNatClampNeg (f (x + 7) a3.toNatClampNeg)) (x + 8) a2.toNatClampNeg (f (x + 8) a3.toNatClampNeg)) (x + 9) a2.toNatClampNeg (f (x + 9) a3.toNatClampNeg)) (x + 10) a2.toNatClampNeg (f (x + 10) a3.toNatClampNeg)) (x + 11) a2.toNatClampNeg (f (x + 11) a3.toNatClampNeg)) (x + 12) a2.toNatClampNeg (vp_nar .boolean (f (x + 12) a3.toNatClampNeg))) (x + 13) a2.toNatClampNeg (vp_nar .boolean (f (x + 13) a3.toNatClampNeg))) g a1 a2 a3))) :
    LpX2_tidy_31 l G d Q sh fR x f g a1 a2 a3 := by
  refine S_iload_n (pc := 31) dX2_tidy_31 rfl rfl ?_
  refine S_iload_n (pc := 32) dX2_tidy_32 rfl rfl ?_
  refine S_icmp_ge (pc := 33) (tgt := 42) dX2_tidy_33 rfl (fun hc6 => ?_) (fun hc6 => ?_)
  · replace H := H.1 hc6
    exact H
  · replace H := H.2 hc6
    refine S_aload_n (pc := 36) dX2_tidy_36 rfl rfl ?_
    refine S_iload_n (pc := 37) dX2_tidy_37 rfl rfl ?_
    refine S_iload_n (pc := 38) dX2_tidy_38 rfl rfl ?_
    refine S_callV (As := [.int a3, .int a2]) (mc := 0) (ms := 0) (pc := 39) dX2_tidy_39 miX2_move mvX2_move mlX2_47 rfl (sW_5 hs) rfl rfl rfl (RmOK.of rfl) (Q := fun r h => WP _ _ _ _ _ _ _ 42 [some (.ref (x + 5)), some (.int a1), some (.int a2), some (.int a3)] (r.toList ++ []) h) (Cl.of miX2_move rfl rfl ?_) (fun _ _ q => q)
    refine S_aload_n (pc := 0) dX2_move_0 rfl rfl ?_
    refine S_getR (pc := 1) dX2_move_1 flX2_11 (sW_5 hs) rfl (rW_5_0 hs) ?_
    refine S_iload_n (pc := 4) dX2_move_4 rfl rfl ?_
    refine S_aload_n (pc := 5) dX2_move_5 rfl rfl ?_
    refine S_getR (pc := 6) dX2_move_6 flX2_11 (sW_5 hs) rfl (rW_5_0 hs) ?_
    refine S_iload_n (pc := 9) dX2_move_9 rfl rfl ?_
    obtain ⟨hb7, H⟩ := H
    refine S_iald (pc := 10) dX2_move_10 (sW_6 hs) hb7 ?_
    obtain ⟨hb8, H⟩ := H
    refine S_iast (pc := 11) dX2_move_11 (sW_6 hs) (Nat.succ_pos _) hb8 ?_
    refine S_aload_n (pc := 12) dX2_move_12 rfl rfl ?_
    refine S_getR (pc := 13) dX2_move_13 flX2_15 (sW_5 hs) rfl (rW_5_1 hs) ?_
    refine S_iload_n (pc := 16) dX2_move_16 rfl rfl ?_
    refine S_aload_n (pc := 17) dX2_move_17 rfl rfl ?_
    refine S_getR (pc := 18) dX2_move_18 flX2_15 (sW_5 hs) rfl (rW_5_1 hs) ?_
    refine S_iload_n (pc := 21) dX2_move_21 rfl rfl ?_
    obtain ⟨hb9, H⟩ := H
    refine S_iald (pc := 22) dX2_move_22 (sW_7 hs) hb9 ?_
    refine S_eqi (x := f (x + 7) a3.toNatClampNeg) ((up2_r (by omega)).trans rfl) ?_
    obtain ⟨hb10, H⟩ := H
    refine S_iast (pc := 23) dX2_move_23 (sW_7 hs) (Nat.succ_pos _) hb10 ?_
    refine S_aload_n (pc := 24) dX2_move_24 rfl rfl ?_
    refine S_getR (pc := 25) dX2_move_25 flX2_18 (sW_5 hs) rfl (rW_5_2 hs) ?_
    refine S_iload_n (pc := 28) dX2_move_28 rfl rfl ?_
    refine S_aload_n (pc := 29) dX2_move_29 rfl rfl ?_
    refine S_getR (pc := 30) dX2_move_30 flX2_18 (sW_5 hs) rfl (rW_5_2 hs) ?_
    refine S_iload_n (pc := 33) dX2_move_33 rfl rfl ?_
    obtain ⟨hb11, H⟩ := H
    refine S_iald (pc := 34) dX2_move_34 (sW_8 hs) hb11 ?_
    refine S_eqi (x := f (x + 8) a3.toNatClampNeg) ((up2_r (by omega)).trans ((up2_r (by omega)).trans rfl)) ?_
    obtain ⟨hb12, H⟩ := H
    refine S_iast (pc := 35) dX2_move_35 (sW_8 hs) (Nat.succ_pos _) hb12 ?_
    refine S_aload_n (pc := 36) dX2_move_36 rfl rfl ?_
    refine S_getR (pc := 37) dX2_move_37 flX2_21 (sW_5 hs) rfl (rW_5_3 hs) ?_
    refine S_iload_n (pc := 40) dX2_move_40 rfl rfl ?_
    refine S_aload_n (pc := 41) dX2_move_41 rfl rfl ?_
    refine S_getR (pc := 42) dX2_move_42 flX2_21 (sW_5 hs) rfl (rW_5_3 hs) ?_
    refine S_iload_n (pc := 45) dX2_move_45 rfl rfl ?_
    obtain ⟨hb13, H⟩ := H
    refine S_iald (pc := 46) dX2_move_46 (sW_9 hs) hb13 ?_
    refine S_eqi (x := f (x + 9) a3.toNatClampNeg) ((up2_r (by omega)).trans ((up2_r (by omega)).trans ((up2_r (by omega)).trans rfl))) ?_
    obtain ⟨hb14, H⟩ := H
    refine S_iast (pc := 47) dX2_move_47 (sW_9 hs) (Nat.succ_pos _) hb14 ?_
    refine S_aload_n (pc := 48) dX2_move_48 rfl rfl ?_
    refine S_getR (pc := 49) dX2_move_49 flX2_24 (sW_5 hs) rfl (rW_5_4 hs) ?_
    refine S_iload_n (pc := 52) dX2_move_52 rfl rfl ?_
    refine S_aload_n (pc := 53) dX2_move_53 rfl rfl ?_
    refine S_getR (pc := 54) dX2_move_54 flX2_24 (sW_5 hs) rfl (rW_5_4 hs) ?_
    refine S_iload_n (pc := 57) dX2_move_57 rfl rfl ?_
    obtain ⟨hb15, H⟩ := H
    refine S_iald (pc := 58) dX2_move_58 (sW_10 hs) hb15 ?_
    refine S_eqi (x := f (x + 10) a3.toNatClampNeg) ((up2_r (by omega)).trans ((up2_r (by omega)).trans ((up2_r (by omega)).trans ((up2_r (by omega)).trans rfl)))) ?_
    obtain ⟨hb16, H⟩ := H
    refine S_iast (pc := 59) dX2_move_59 (sW_10 hs) (Nat.succ_pos _) hb16 ?_
    refine S_aload_n (pc := 60) dX2_move_60 rfl rfl ?_
    refine S_getR (pc := 61) dX2_move_61 flX2_27 (sW_5 hs) rfl (rW_5_5 hs) ?_
    refine S_iload_n (pc := 64) dX2_move_64 rfl rfl ?_
    refine S_aload_n (pc := 65) dX2_move_65 rfl rfl ?_
    refine S_getR (pc := 66) dX2_move_66 flX2_27 (sW_5 hs) rfl (rW_5_5 hs) ?_
    refine S_iload_n (pc := 69) dX2_move_69 rfl rfl ?_
    obtain ⟨hb17, H⟩ := H
    refine S_iald (pc := 70) dX2_move_70 (sW_11 hs) hb17 ?_
    refine S_eqi (x := f (x + 11) a3.toNatClampNeg) ((up2_r (by omega)).trans ((up2_r (by omega)).trans ((up2_r (by omega)).trans ((up2_r (by omega)).trans ((up2_r (by omega)).trans rfl))))) ?_
    obtain ⟨hb18, H⟩ := H
    refine S_iast (pc := 71) dX2_move_71 (sW_11 hs) (Nat.succ_pos _) hb18 ?_
    refine S_aload_n (pc := 72) dX2_move_72 rfl rfl ?_
    refine S_getR (pc := 73) dX2_move_73 flX2_30 (sW_5 hs) rfl (rW_5_6 hs) ?_
    refine S_iload_n (pc := 76) dX2_move_76 rfl rfl ?_
    refine S_aload_n (pc := 77) dX2_move_77 rfl rfl ?_
    refine S_getR (pc := 78) dX2_move_78 flX2_30 (sW_5 hs) rfl (rW_5_6 hs) ?_
    refine S_iload_n (pc := 81) dX2_move_81 rfl rfl ?_
    obtain ⟨hb19, H⟩ := H
    refine S_zald (pc := 82) dX2_move_82 (sW_12 hs) hb19 ?_
    refine S_eqi (x := f (x + 12) a3.toNatClampNeg) ((up2_r (by omega)).trans ((up2_r (by omega)).trans ((up2_r (by omega)).trans ((up2_r (by omega)).trans ((up2_r (by omega)).trans ((up2_r (by omega)).trans rfl)))))) ?_
    obtain ⟨hb20, H⟩ := H
    refine S_zast (pc := 83) dX2_move_83 (sW_12 hs) (Nat.succ_pos _) hb20 ?_
    refine S_aload_n (pc := 84) dX2_move_84 rfl rfl ?_
    refine S_getR (pc := 85) dX2_move_85 flX2_34 (sW_5 hs) rfl (rW_5_7 hs) ?_
    refine S_iload_n (pc := 88) dX2_move_88 rfl rfl ?_
    refine S_aload_n (pc := 89) dX2_move_89 rfl rfl ?_
    refine S_getR (pc := 90) dX2_move_90 flX2_34 (sW_5 hs) rfl (rW_5_7 hs) ?_
    refine S_iload_n (pc := 93) dX2_move_93 rfl rfl ?_
    obtain ⟨hb21, H⟩ := H
    refine S_zald (pc := 94) dX2_move_94 (sW_13 hs) hb21 ?_
    refine S_eqi (x := f (x + 13) a3.toNatClampNeg) ((up2_r (by omega)).trans ((up2_r (by omega)).trans ((up2_r (by omega)).trans ((up2_r (by omega)).trans ((up2_r (by omega)).trans ((up2_r (by omega)).trans ((up2_r (by omega)).trans rfl))))))) ?_
    obtain ⟨hb22, H⟩ := H
    refine S_zast (pc := 95) dX2_move_95 (sW_13 hs) (Nat.succ_pos _) hb22 ?_
    refine S_vreturn dX2_move_96 rfl ?_
    show WP _ _ _ _ _ _ _ 42 [some (.ref (x + 5)), some (.int a1), some (.int a2), some (.int a3)] [] (sh, (up2 (up2 (up2 (up2 (up2 (up2 (up2 (up2 f (x + 6) a2.toNatClampNeg (f (x + 6) a3.toNatClampNeg)) (x + 7) a2.toNatClampNeg (f (x + 7) a3.toNatClampNeg)) (x + 8) a2.toNatClampNeg (f (x + 8) a3.toNatClampNeg)) (x + 9) a2.toNatClampNeg (f (x + 9) a3.toNatClampNeg)) (x + 10) a2.toNatClampNeg (f (x + 10) a3.toNatClampNeg)) (x + 11) a2.toNatClampNeg (f (x + 11) a3.toNatClampNeg)) (x + 12) a2.toNatClampNeg (vp_nar .boolean (f (x + 12) a3.toNatClampNeg))) (x + 13) a2.toNatClampNeg (vp_nar .boolean (f (x + 13) a3.toNatClampNeg))), g, fR)
    exact H
set_option maxHeartbeats 2000000 in
set_option maxRecDepth 4000 in
theorem VX2_tidy_45 {l : Launch} {G : Gx} {d : Nat} {Q : Option Value → Hp → Prop} {sh : Sh} {fR : FRt} {x : Nat} {f : FI} {g : FL} {a1 : Int32} {a2 : Int32} {a3 : Int32} (hs : StW sh fR x)
    (H : LpX2_tidy_4 l G d Q sh fR x f g a1 a2 (a3 + nI 1)) :
    LpX2_tidy_45 l G d Q sh fR x f g a1 a2 a3 := by
  refine S_iinc (pc := 45) (v := nI 1) (L' := [some (.ref (x + 5)), some (.int a1), some (.int a2), some (.int (a3 + nI 1))]) dX2_tidy_45 rfl ic1 rfl ?_
  refine S_goto (pc := 48) (tgt := 4) dX2_tidy_48 rfl ?_
  exact H
set_option maxHeartbeats 2000000 in
set_option maxRecDepth 4000 in
theorem VX2_tidy_42 {l : Launch} {G : Gx} {d : Nat} {Q : Option Value → Hp → Prop} {sh : Sh} {fR : FRt} {x : Nat} {f : FI} {g : FL} {a1 : Int32} {a2 : Int32} {a3 : Int32} (hs : StW sh fR x)
    (H : LpX2_tidy_45 l G d Q sh fR x f g a1 (a2 + nI 1) a3) :
    LpX2_tidy_42 l G d Q sh fR x f g a1 a2 a3 := by
  refine S_iinc (pc := 42) (v := nI 1) (L' := [some (.ref (x + 5)), some (.int a1), some (.int (a2 + nI 1)), some (.int a3)]) dX2_tidy_42 rfl ic1 rfl ?_
  exact H
set_option maxHeartbeats 2000000 in
set_option maxRecDepth 4000 in
theorem VX4_copyFrom {l : Launch} {G : Gx} {d : Nat} {Q : Option Value → Hp → Prop} {sh : Sh} {fR : FRt} {x y : Nat} {f : FI} {g : FL}  (hs : StW sh fR x) (hy : StW sh fR y)
    (H : acOK (nI 0) (nI 0) (nI 40) 40 40 ∧ acOK (nI 0) (nI 0) (nI 40) 40 40 ∧ acOK (nI 0) (nI 0) (nI 40) 40 40 ∧ Q none (sh, (up2 (up2 (cpy (cpy (cpy f (y + 24) (x + 24) 0 0 40) (y + 25) (x + 25) 0 0 40) (y + 26) (x + 26) 0 0 40) (x + 23) 3 (f (y + 23) 3)) (x + 23) 4 ((up2 (cpy (cpy (cpy f (y + 24) (x + 24) 0 0 40) (y + 25) (x + 25) 0 0 40) (y + 26) (x + 26) 0 0 40) (x + 23) 3 (f (y + 23) 3)) (y + 23) 4)), g, fR)) :
    Cl l G (d + 1) 0 0 mX4_copyFrom [.ref (x + 23), .ref (y + 23)] (sh, f, g, fR) Q := by
  refine Cl.of (L0 := [some (.ref (x + 23)), some (.ref (y + 23))]) miX4_copyFrom rfl rfl ?_
  refine S_aload_n (pc := 0) dX4_copyFrom_0 rfl rfl ?_
  refine S_getR (pc := 1) dX4_copyFrom_1 flX4_9 (sW_23 hy) rfl (rW_23_0 hy) ?_
  refine S_iconst (pc := 4) dX4_copyFrom_4 ic0 ?_
  refine S_aload_n (pc := 5) dX4_copyFrom_5 rfl rfl ?_
  refine S_getR (pc := 6) dX4_copyFrom_6 flX4_9 (sW_23 hs) rfl (rW_23_0 hs) ?_
  refine S_iconst (pc := 9) dX4_copyFrom_9 ic0 ?_
  refine S_bipush (pc := 10) dX4_copyFrom_10 bp40 ?_
  obtain ⟨hb1, H⟩ := H
  refine S_acpy (pc := 12) dX4_copyFrom_12 mlX4_26 (sW_24 hy) (sW_24 hs) (Or.inl rfl) (Nat.succ_pos _) hb1 acR ?_
  show WP _ _ _ _ _ _ _ 15 _ _ (sh, (cpy f (y + 24) (x + 24) 0 0 40), g, fR)
  refine S_aload_n (pc := 15) dX4_copyFrom_15 rfl rfl ?_
  refine S_getR (pc := 16) dX4_copyFrom_16 flX4_13 (sW_23 hy) rfl (rW_23_1 hy) ?_
  refine S_iconst (pc := 19) dX4_copyFrom_19 ic0 ?_
  refine S_aload_n (pc := 20) dX4_copyFrom_20 rfl rfl ?_
  refine S_getR (pc := 21) dX4_copyFrom_21 flX4_13 (sW_23 hs) rfl (rW_23_1 hs) ?_
  refine S_iconst (pc := 24) dX4_copyFrom_24 ic0 ?_
  refine S_bipush (pc := 25) dX4_copyFrom_25 bp40 ?_
  obtain ⟨hb2, H⟩ := H
  refine S_acpy (pc := 27) dX4_copyFrom_27 mlX4_26 (sW_25 hy) (sW_25 hs) (Or.inl rfl) (Nat.succ_pos _) hb2 acR ?_
  show WP _ _ _ _ _ _ _ 30 _ _ (sh, (cpy (cpy f (y + 24) (x + 24) 0 0 40) (y + 25) (x + 25) 0 0 40), g, fR)
  refine S_aload_n (pc := 30) dX4_copyFrom_30 rfl rfl ?_
  refine S_getR (pc := 31) dX4_copyFrom_31 flX4_16 (sW_23 hy) rfl (rW_23_2 hy) ?_
  refine S_iconst (pc := 34) dX4_copyFrom_34 ic0 ?_
  refine S_aload_n (pc := 35) dX4_copyFrom_35 rfl rfl ?_
  refine S_getR (pc := 36) dX4_copyFrom_36 flX4_16 (sW_23 hs) rfl (rW_23_2 hs) ?_
  refine S_iconst (pc := 39) dX4_copyFrom_39 ic0 ?_
  refine S_bipush (pc := 40) dX4_copyFrom_40 bp40 ?_
  obtain ⟨hb3, H⟩ := H
  refine S_acpy (pc := 42) dX4_copyFrom_42 mlX4_26 (sW_26 hy) (sW_26 hs) (Or.inl rfl) (Nat.succ_pos _) hb3 acR ?_
  show WP _ _ _ _ _ _ _ 45 _ _ (sh, (cpy (cpy (cpy f (y + 24) (x + 24) 0 0 40) (y + 25) (x + 25) 0 0 40) (y + 26) (x + 26) 0 0 40), g, fR)
  refine S_aload_n (pc := 45) dX4_copyFrom_45 rfl rfl ?_
  refine S_aload_n (pc := 46) dX4_copyFrom_46 rfl rfl ?_
  refine S_get (pc := 47) (v := .int ((cpy (cpy (cpy f (y + 24) (x + 24) 0 0 40) (y + 25) (x + 25) 0 0 40) (y + 26) (x + 26) 0 0 40) (y + 23) 3)) dX4_copyFrom_47 flX4_19 (sW_23 hy) rfl ?_
  refine S_eqi (x := f (y + 23) 3) ((cpy_r (ne_sh (sW_23 hy) (sW_26 hs) (by decide))).trans ((cpy_r (ne_sh (sW_23 hy) (sW_25 hs) (by decide))).trans ((cpy_r (ne_sh (sW_23 hy) (sW_24 hs) (by decide))).trans rfl))) ?_
  refine S_putI (pc := 50) dX4_copyFrom_50 flX4_19 (sW_23 hs) (Nat.succ_pos _) (nf_4_3) rfl rfl (fun _ => rfl) ?_
  refine S_aload_n (pc := 53) dX4_copyFrom_53 rfl rfl ?_
  refine S_aload_n (pc := 54) dX4_copyFrom_54 rfl rfl ?_
  refine S_get (pc := 55) (v := .int ((up2 (cpy (cpy (cpy f (y + 24) (x + 24) 0 0 40) (y + 25) (x + 25) 0 0 40) (y + 26) (x + 26) 0 0 40) (x + 23) 3 (f (y + 23) 3)) (y + 23) 4)) dX4_copyFrom_55 flX4_23 (sW_23 hy) rfl ?_
  refine S_putI (pc := 58) dX4_copyFrom_58 flX4_23 (sW_23 hs) (Nat.succ_pos _) (nf_4_4) rfl rfl (fun _ => rfl) ?_
  exact S_vreturn dX4_copyFrom_61 rfl H
set_option maxHeartbeats 2000000 in
set_option maxRecDepth 4000 in
theorem VX4_add {l : Launch} {G : Gx} {d : Nat} {Q : Option Value → Hp → Prop} {sh : Sh} {fR : FRt} {x : Nat} {f : FI} {g : FL} {a1 : Int32} {a2 : Int32} {a3 : Int32} (hs : StW sh fR x)
    (H : inb (f (x + 23) 4) 40 ∧ inb (f (x + 23) 4) 40 ∧ inb (f (x + 23) 4) 40 ∧ Cl l G d 0 0 mJ_min [.int ((f (x + 23) 3) + (nI 1)), .int (nI 40)] (sh, (up2 (up2 (up2 (up2 f (x + 24) (f (x + 23) 4).toNatClampNeg a1) (x + 25) (f (x + 23) 4).toNatClampNeg a2) (x + 26) (f (x + 23) 4).toNatClampNeg a3) (x + 23) 4 (((f (x + 23) 4) + (nI 1)) - ((f (x + 23) 4) + (nI 1)) / (nI 40) * (nI 40))), g, fR) (qi sh fR fun x6 f4 g5 => Q none (sh, (up2 f4 (x + 23) 3 x6), g5, fR))) :
    Cl l G (d + 1) 0 0 mX4_add [.ref (x + 23), .int a1, .int a2, .int a3] (sh, f, g, fR) Q := by
  refine Cl.of (L0 := [some (.ref (x + 23)), some (.int a1), some (.int a2), some (.int a3)]) miX4_add rfl rfl ?_
  refine S_aload_n (pc := 0) dX4_add_0 rfl rfl ?_
  refine S_getR (pc := 1) dX4_add_1 flX4_9 (sW_23 hs) rfl (rW_23_0 hs) ?_
  refine S_aload_n (pc := 4) dX4_add_4 rfl rfl ?_
  refine S_get (pc := 5) (v := .int (f (x + 23) 4)) dX4_add_5 flX4_23 (sW_23 hs) rfl ?_
  refine S_iload_n (pc := 8) dX4_add_8 rfl rfl ?_
  obtain ⟨hb1, H⟩ := H
  refine S_iast (pc := 9) dX4_add_9 (sW_24 hs) (Nat.succ_pos _) hb1 ?_
  refine S_aload_n (pc := 10) dX4_add_10 rfl rfl ?_
  refine S_getR (pc := 11) dX4_add_11 flX4_13 (sW_23 hs) rfl (rW_23_1 hs) ?_
  refine S_aload_n (pc := 14) dX4_add_14 rfl rfl ?_
  refine S_get (pc := 15) (v := .int ((up2 f (x + 24) (f (x + 23) 4).toNatClampNeg a1) (x + 23) 4)) dX4_add_15 flX4_23 (sW_23 hs) rfl ?_
  refine S_eqi (x := f (x + 23) 4) ((up2_r (by omega)).trans rfl) ?_
  refine S_iload_n (pc := 18) dX4_add_18 rfl rfl ?_
  obtain ⟨hb2, H⟩ := H
  refine S_iast (pc := 19) dX4_add_19 (sW_25 hs) (Nat.succ_pos _) hb2 ?_
  refine S_aload_n (pc := 20) dX4_add_20 rfl rfl ?_
  refine S_getR (pc := 21) dX4_add_21 flX4_16 (sW_23 hs) rfl (rW_23_2 hs) ?_
  refine S_aload_n (pc := 24) dX4_add_24 rfl rfl ?_
  refine S_get (pc := 25) (v := .int ((up2 (up2 f (x + 24) (f (x + 23) 4).toNatClampNeg a1) (x + 25) (f (x + 23) 4).toNatClampNeg a2) (x + 23) 4)) dX4_add_25 flX4_23 (sW_23 hs) rfl ?_
  refine S_eqi (x := f (x + 23) 4) ((up2_r (by omega)).trans ((up2_r (by omega)).trans rfl)) ?_
  refine S_iload_n (pc := 28) dX4_add_28 rfl rfl ?_
  obtain ⟨hb3, H⟩ := H
  refine S_iast (pc := 29) dX4_add_29 (sW_26 hs) (Nat.succ_pos _) hb3 ?_
  refine S_aload_n (pc := 30) dX4_add_30 rfl rfl ?_
  refine S_aload_n (pc := 31) dX4_add_31 rfl rfl ?_
  refine S_get (pc := 32) (v := .int ((up2 (up2 (up2 f (x + 24) (f (x + 23) 4).toNatClampNeg a1) (x + 25) (f (x + 23) 4).toNatClampNeg a2) (x + 26) (f (x + 23) 4).toNatClampNeg a3) (x + 23) 4)) dX4_add_32 flX4_23 (sW_23 hs) rfl ?_
  refine S_eqi (x := f (x + 23) 4) ((up2_r (by omega)).trans ((up2_r (by omega)).trans ((up2_r (by omega)).trans rfl))) ?_
  refine S_iconst (pc := 35) dX4_add_35 ic1 ?_
  refine S_iadd (pc := 36) dX4_add_36 ?_
  refine S_bipush (pc := 37) dX4_add_37 bp40 ?_
  refine S_irem (pc := 39) dX4_add_39 (by decide) ?_
  refine S_putI (pc := 40) dX4_add_40 flX4_23 (sW_23 hs) (Nat.succ_pos _) (nf_4_4) rfl rfl (fun _ => rfl) ?_
  refine S_aload_n (pc := 43) dX4_add_43 rfl rfl ?_
  refine S_aload_n (pc := 44) dX4_add_44 rfl rfl ?_
  refine S_get (pc := 45) (v := .int ((up2 (up2 (up2 (up2 f (x + 24) (f (x + 23) 4).toNatClampNeg a1) (x + 25) (f (x + 23) 4).toNatClampNeg a2) (x + 26) (f (x + 23) 4).toNatClampNeg a3) (x + 23) 4 (((f (x + 23) 4) + (nI 1)) - ((f (x + 23) 4) + (nI 1)) / (nI 40) * (nI 40))) (x + 23) 3)) dX4_add_45 flX4_19 (sW_23 hs) rfl ?_
  refine S_eqi (x := f (x + 23) 3) ((up2_k (by decide)).trans ((up2_r (by omega)).trans ((up2_r (by omega)).trans ((up2_r (by omega)).trans rfl)))) ?_
  refine S_iconst (pc := 48) dX4_add_48 ic1 ?_
  refine S_iadd (pc := 49) dX4_add_49 ?_
  refine S_bipush (pc := 50) dX4_add_50 bp40 ?_
  refine S_callSJ (As := [.int ((f (x + 23) 3) + (nI 1)), .int (nI 40)]) (mc := 0) (ms := 0) (pc := 52) dX4_add_52 miJ_min mvJ_min mlX4_32 rfl rfl (RmOK.of rfl) H ?_
  rintro _ _ ⟨x6, f4, g5, rfl, rfl, H⟩
  show WP _ _ _ _ _ _ _ 55 [some (.ref (x + 23)), some (.int a1), some (.int a2), some (.int a3)] [.int x6, .ref (x + 23)] (sh, f4, g5, fR)
  refine S_putI (pc := 55) dX4_add_55 flX4_19 (sW_23 hs) (Nat.succ_pos _) (nf_4_3) rfl rfl (fun _ => rfl) ?_
  exact S_vreturn dX4_add_58 rfl H
set_option maxHeartbeats 2000000 in
set_option maxRecDepth 4000 in
theorem VX5_copyFrom {l : Launch} {G : Gx} {d : Nat} {Q : Option Value → Hp → Prop} {sh : Sh} {fR : FRt} {x y : Nat} {f : FI} {g : FL}  (hs : StW sh fR x) (hy : StW sh fR y)
    (H : acOK (nI 0) (nI 0) (f (y + 20) 2) 512 512 ∧ acOK (nI 0) (nI 0) (f (y + 20) 2) 512 512 ∧ Q none (sh, (cpy (cpy (up2 f (x + 20) 2 (f (y + 20) 2)) (y + 21) (x + 21) 0 0 (f (y + 20) 2).toNatClampNeg) (y + 22) (x + 22) 0 0 (f (y + 20) 2).toNatClampNeg), g, fR)) :
    Cl l G (d + 1) 0 0 mX5_copyFrom [.ref (x + 20), .ref (y + 20)] (sh, f, g, fR) Q := by
  refine Cl.of (L0 := [some (.ref (x + 20)), some (.ref (y + 20))]) miX5_copyFrom rfl rfl ?_
  refine S_aload_n (pc := 0) dX5_copyFrom_0 rfl rfl ?_
  refine S_aload_n (pc := 1) dX5_copyFrom_1 rfl rfl ?_
  refine S_get (pc := 2) (v := .int (f (y + 20) 2)) dX5_copyFrom_2 flX5_16 (sW_20 hy) rfl ?_
  refine S_putI (pc := 5) dX5_copyFrom_5 flX5_16 (sW_20 hs) (Nat.succ_pos _) (nf_5_2) rfl rfl (fun _ => rfl) ?_
  refine S_aload_n (pc := 8) dX5_copyFrom_8 rfl rfl ?_
  refine S_getR (pc := 9) dX5_copyFrom_9 flX5_9 (sW_20 hy) rfl (rW_20_0 hy) ?_
  refine S_iconst (pc := 12) dX5_copyFrom_12 ic0 ?_
  refine S_aload_n (pc := 13) dX5_copyFrom_13 rfl rfl ?_
  refine S_getR (pc := 14) dX5_copyFrom_14 flX5_9 (sW_20 hs) rfl (rW_20_0 hs) ?_
  refine S_iconst (pc := 17) dX5_copyFrom_17 ic0 ?_
  refine S_aload_n (pc := 18) dX5_copyFrom_18 rfl rfl ?_
  refine S_get (pc := 19) (v := .int ((up2 f (x + 20) 2 (f (y + 20) 2)) (x + 20) 2)) dX5_copyFrom_19 flX5_16 (sW_20 hs) rfl ?_
  refine S_eqi (x := f (y + 20) 2) up2_eq ?_
  obtain ⟨hb1, H⟩ := H
  refine S_acpy (pc := 22) dX5_copyFrom_22 mlX5_20 (sW_21 hy) (sW_21 hs) (Or.inl rfl) (Nat.succ_pos _) hb1 acR ?_
  show WP _ _ _ _ _ _ _ 25 _ _ (sh, (cpy (up2 f (x + 20) 2 (f (y + 20) 2)) (y + 21) (x + 21) 0 0 (f (y + 20) 2).toNatClampNeg), g, fR)
  refine S_aload_n (pc := 25) dX5_copyFrom_25 rfl rfl ?_
  refine S_getR (pc := 26) dX5_copyFrom_26 flX5_13 (sW_20 hy) rfl (rW_20_1 hy) ?_
  refine S_iconst (pc := 29) dX5_copyFrom_29 ic0 ?_
  refine S_aload_n (pc := 30) dX5_copyFrom_30 rfl rfl ?_
  refine S_getR (pc := 31) dX5_copyFrom_31 flX5_13 (sW_20 hs) rfl (rW_20_1 hs) ?_
  refine S_iconst (pc := 34) dX5_copyFrom_34 ic0 ?_
  refine S_aload_n (pc := 35) dX5_copyFrom_35 rfl rfl ?_
  refine S_get (pc := 36) (v := .int ((cpy (up2 f (x + 20) 2 (f (y + 20) 2)) (y + 21) (x + 21) 0 0 (f (y + 20) 2).toNatClampNeg) (x + 20) 2)) dX5_copyFrom_36 flX5_16 (sW_20 hs) rfl ?_
  refine S_eqi (x := f (y + 20) 2) ((cpy_r (by omega)).trans up2_eq) ?_
  obtain ⟨hb2, H⟩ := H
  refine S_acpy (pc := 39) dX5_copyFrom_39 mlX5_20 (sW_22 hy) (sW_22 hs) (Or.inl rfl) (Nat.succ_pos _) hb2 acR ?_
  show WP _ _ _ _ _ _ _ 42 _ _ (sh, (cpy (cpy (up2 f (x + 20) 2 (f (y + 20) 2)) (y + 21) (x + 21) 0 0 (f (y + 20) 2).toNatClampNeg) (y + 22) (x + 22) 0 0 (f (y + 20) 2).toNatClampNeg), g, fR)
  exact S_vreturn dX5_copyFrom_42 rfl H
set_option maxHeartbeats 2000000 in
set_option maxRecDepth 4000 in
theorem VX5_add {l : Launch} {G : Gx} {d : Nat} {Q : Option Value → Hp → Prop} {sh : Sh} {fR : FRt} {x : Nat} {f : FI} {g : FL} {a1 : Int32} {a2 : Int32} (hs : StW sh fR x)
    (H : (((nI 512) ≤ (f (x + 20) 2) → Q none (sh, f, g, fR)) ∧ (¬ (nI 512) ≤ (f (x + 20) 2) → inb (f (x + 20) 2) 512 ∧ inb (f (x + 20) 2) 512 ∧ Q none (sh, (up2 (up2 (up2 f (x + 21) (f (x + 20) 2).toNatClampNeg a1) (x + 22) (f (x + 20) 2).toNatClampNeg a2) (x + 20) 2 ((f (x + 20) 2) + (nI 1))), g, fR)))) :
    Cl l G d 0 0 mX5_add [.ref (x + 20), .int a1, .int a2] (sh, f, g, fR) Q := by
  refine Cl.of (L0 := [some (.ref (x + 20)), some (.int a1), some (.int a2)]) miX5_add rfl rfl ?_
  refine S_aload_n (pc := 0) dX5_add_0 rfl rfl ?_
  refine S_get (pc := 1) (v := .int (f (x + 20) 2)) dX5_add_1 flX5_16 (sW_20 hs) rfl ?_
  refine S_sipush (pc := 4) dX5_add_4 sp512 ?_
  refine S_icmp_ge (pc := 7) (tgt := 40) dX5_add_7 rfl (fun hc1 => ?_) (fun hc1 => ?_)
  · replace H := H.1 hc1
    exact S_vreturn dX5_add_40 rfl H
  · replace H := H.2 hc1
    refine S_aload_n (pc := 10) dX5_add_10 rfl rfl ?_
    refine S_getR (pc := 11) dX5_add_11 flX5_9 (sW_20 hs) rfl (rW_20_0 hs) ?_
    refine S_aload_n (pc := 14) dX5_add_14 rfl rfl ?_
    refine S_get (pc := 15) (v := .int (f (x + 20) 2)) dX5_add_15 flX5_16 (sW_20 hs) rfl ?_
    refine S_iload_n (pc := 18) dX5_add_18 rfl rfl ?_
    obtain ⟨hb2, H⟩ := H
    refine S_iast (pc := 19) dX5_add_19 (sW_21 hs) (Nat.succ_pos _) hb2 ?_
    refine S_aload_n (pc := 20) dX5_add_20 rfl rfl ?_
    refine S_getR (pc := 21) dX5_add_21 flX5_13 (sW_20 hs) rfl (rW_20_1 hs) ?_
    refine S_aload_n (pc := 24) dX5_add_24 rfl rfl ?_
    refine S_get (pc := 25) (v := .int ((up2 f (x + 21) (f (x + 20) 2).toNatClampNeg a1) (x + 20) 2)) dX5_add_25 flX5_16 (sW_20 hs) rfl ?_
    refine S_eqi (x := f (x + 20) 2) ((up2_r (by omega)).trans rfl) ?_
    refine S_iload_n (pc := 28) dX5_add_28 rfl rfl ?_
    obtain ⟨hb3, H⟩ := H
    refine S_iast (pc := 29) dX5_add_29 (sW_22 hs) (Nat.succ_pos _) hb3 ?_
    refine S_aload_n (pc := 30) dX5_add_30 rfl rfl ?_
    refine S_dup (pc := 31) dX5_add_31 rfl ?_
    refine S_get (pc := 32) (v := .int ((up2 (up2 f (x + 21) (f (x + 20) 2).toNatClampNeg a1) (x + 22) (f (x + 20) 2).toNatClampNeg a2) (x + 20) 2)) dX5_add_32 flX5_16 (sW_20 hs) rfl ?_
    refine S_eqi (x := f (x + 20) 2) ((up2_r (by omega)).trans ((up2_r (by omega)).trans rfl)) ?_
    refine S_iconst (pc := 35) dX5_add_35 ic1 ?_
    refine S_iadd (pc := 36) dX5_add_36 ?_
    refine S_putI (pc := 37) dX5_add_37 flX5_16 (sW_20 hs) (Nat.succ_pos _) (nf_5_2) rfl rfl (fun _ => rfl) ?_
    exact S_vreturn dX5_add_40 rfl H
abbrev LpX5_countFrom_4 (l : Launch) (G : Gx) (d : Nat) (Q : Option Value → Hp → Prop) (sh : Sh) (fR : FRt) (x : Nat) (f : FI) (g : FL) (a1 : Int32) (a2 : Int32) (a3 : Int32) : Prop := WP l G (Zq G 0 0 Q) mX5_countFrom (rmd d 0 0) 0 0 4 [some (.ref (x + 20)), some (.int a1), some (.int a2), some (.int a3)] [] (sh, f, g, fR)
abbrev LpX5_countFrom_32 (l : Launch) (G : Gx) (d : Nat) (Q : Option Value → Hp → Prop) (sh : Sh) (fR : FRt) (x : Nat) (f : FI) (g : FL) (a1 : Int32) (a2 : Int32) (a3 : Int32) : Prop := WP l G (Zq G 0 0 Q) mX5_countFrom (rmd d 0 0) 0 0 32 [some (.ref (x + 20)), some (.int a1), some (.int a2), some (.int a3)] [] (sh, f, g, fR)
set_option maxHeartbeats 2000000 in
set_option maxRecDepth 4000 in
theorem VX5_countFrom {l : Launch} {G : Gx} {d : Nat} {Q : Option Value → Hp → Prop} {sh : Sh} {fR : FRt} {x : Nat} {f : FI} {g : FL} {a1 : Int32} (hs : StW sh fR x)
    (H : LpX5_countFrom_4 l G d Q sh fR x f g a1 (nI 0) (nI 0)) :
    Cl l G d 0 0 mX5_countFrom [.ref (x + 20), .int a1] (sh, f, g, fR) Q := by
  refine Cl.of (L0 := [some (.ref (x + 20)), some (.int a1), none, none]) miX5_countFrom rfl rfl ?_
  refine S_iconst (pc := 0) dX5_countFrom_0 ic0 ?_
  refine S_istore_n (pc := 1) (L' := [some (.ref (x + 20)), some (.int a1), some (.int (nI 0)), none]) dX5_countFrom_1 rfl (by decide) rfl ?_
  refine S_iconst (pc := 2) dX5_countFrom_2 ic0 ?_
  refine S_istore_n (pc := 3) (L' := [some (.ref (x + 20)), some (.int a1), some (.int (nI 0)), some (.int (nI 0))]) dX5_countFrom_3 rfl (by decide) rfl ?_
  exact H
set_option maxHeartbeats 2000000 in
set_option maxRecDepth 4000 in
theorem VX5_countFrom_4 {l : Launch} {G : Gx} {d : Nat} {Q : Option Value → Hp → Prop} {sh : Sh} {fR : FRt} {x : Nat} {f : FI} {g : FL} {a1 : Int32} {a2 : Int32} {a3 : Int32} (hs : StW sh fR x)
    (H : (((f (x + 20) 2) ≤ a3 → Q (some (.int a2)) (sh, f, g, fR)) ∧ (¬ (f (x + 20) 2) ≤ a3 → inb a3 512 ∧ inb a3 512 ∧ ((((f (x + 21) a3.toNatClampNeg) + (f (x + 22) a3.toNatClampNeg)) ≤ a1 → LpX5_countFrom_32 l G d Q sh fR x f g a1 a2 a3) ∧ (¬ ((f (x + 21) a3.toNatClampNeg) + (f (x + 22) a3.toNatClampNeg)) ≤ a1 → LpX5_countFrom_32 l G d Q sh fR x f g a1 (a2 + nI 1) a3))))) :
    LpX5_countFrom_4 l G d Q sh fR x f g a1 a2 a3 := by
  refine S_iload_n (pc := 4) dX5_countFrom_4 rfl rfl ?_
  refine S_aload_n (pc := 5) dX5_countFrom_5 rfl rfl ?_
  refine S_get (pc := 6) (v := .int (f (x + 20) 2)) dX5_countFrom_6 flX5_16 (sW_20 hs) rfl ?_
  refine S_icmp_ge (pc := 9) (tgt := 38) dX5_countFrom_9 rfl (fun hc1 => ?_) (fun hc1 => ?_)
  · replace H := H.1 hc1
    refine S_iload_n (pc := 38) dX5_countFrom_38 rfl rfl ?_
    exact S_ireturn dX5_countFrom_39 rfl H
  · replace H := H.2 hc1
    refine S_aload_n (pc := 12) dX5_countFrom_12 rfl rfl ?_
    refine S_getR (pc := 13) dX5_countFrom_13 flX5_9 (sW_20 hs) rfl (rW_20_0 hs) ?_
    refine S_iload_n (pc := 16) dX5_countFrom_16 rfl rfl ?_
    obtain ⟨hb2, H⟩ := H
    refine S_iald (pc := 17) dX5_countFrom_17 (sW_21 hs) hb2 ?_
    refine S_aload_n (pc := 18) dX5_countFrom_18 rfl rfl ?_
    refine S_getR (pc := 19) dX5_countFrom_19 flX5_13 (sW_20 hs) rfl (rW_20_1 hs) ?_
    refine S_iload_n (pc := 22) dX5_countFrom_22 rfl rfl ?_
    obtain ⟨hb3, H⟩ := H
    refine S_iald (pc := 23) dX5_countFrom_23 (sW_22 hs) hb3 ?_
    refine S_iadd (pc := 24) dX5_countFrom_24 ?_
    refine S_iload_n (pc := 25) dX5_countFrom_25 rfl rfl ?_
    refine S_icmp_le (pc := 26) (tgt := 32) dX5_countFrom_26 rfl (fun hc4 => ?_) (fun hc4 => ?_)
    · replace H := H.1 hc4
      exact H
    · replace H := H.2 hc4
      refine S_iinc (pc := 29) (v := nI 1) (L' := [some (.ref (x + 20)), some (.int a1), some (.int (a2 + nI 1)), some (.int a3)]) dX5_countFrom_29 rfl ic1 rfl ?_
      exact H
set_option maxHeartbeats 2000000 in
set_option maxRecDepth 4000 in
theorem VX5_countFrom_32 {l : Launch} {G : Gx} {d : Nat} {Q : Option Value → Hp → Prop} {sh : Sh} {fR : FRt} {x : Nat} {f : FI} {g : FL} {a1 : Int32} {a2 : Int32} {a3 : Int32} (hs : StW sh fR x)
    (H : LpX5_countFrom_4 l G d Q sh fR x f g a1 a2 (a3 + nI 1)) :
    LpX5_countFrom_32 l G d Q sh fR x f g a1 a2 a3 := by
  refine S_iinc (pc := 32) (v := nI 1) (L' := [some (.ref (x + 20)), some (.int a1), some (.int a2), some (.int (a3 + nI 1))]) dX5_countFrom_32 rfl ic1 rfl ?_
  refine S_goto (pc := 35) (tgt := 4) dX5_countFrom_35 rfl ?_
  exact H
abbrev LpX5_tidy_4 (l : Launch) (G : Gx) (d : Nat) (Q : Option Value → Hp → Prop) (sh : Sh) (fR : FRt) (x : Nat) (f : FI) (g : FL) (a1 : Int32) (a2 : Int32) (a3 : Int32) : Prop := WP l G (Zq G 0 0 Q) mX5_tidy (rmd d 0 0) 0 0 4 [some (.ref (x + 20)), some (.int a1), some (.int a2), some (.int a3)] [] (sh, f, g, fR)
abbrev LpX5_tidy_56 (l : Launch) (G : Gx) (d : Nat) (Q : Option Value → Hp → Prop) (sh : Sh) (fR : FRt) (x : Nat) (f : FI) (g : FL) (a1 : Int32) (a2 : Int32) (a3 : Int32) : Prop := WP l G (Zq G 0 0 Q) mX5_tidy (rmd d 0 0) 0 0 56 [some (.ref (x + 20)), some (.int a1), some (.int a2), some (.int a3)] [] (sh, f, g, fR)
set_option maxHeartbeats 2000000 in
set_option maxRecDepth 4000 in
theorem VX5_tidy {l : Launch} {G : Gx} {d : Nat} {Q : Option Value → Hp → Prop} {sh : Sh} {fR : FRt} {x : Nat} {f : FI} {g : FL} {a1 : Int32} (hs : StW sh fR x)
    (H : LpX5_tidy_4 l G d Q sh fR x f g a1 (nI 0) (nI 0)) :
    Cl l G d 0 0 mX5_tidy [.ref (x + 20), .int a1] (sh, f, g, fR) Q := by
  refine Cl.of (L0 := [some (.ref (x + 20)), some (.int a1), none, none]) miX5_tidy rfl rfl ?_
  refine S_iconst (pc := 0) dX5_tidy_0 ic0 ?_
  refine S_istore_n (pc := 1) (L' := [some (.ref (x + 20)), some (.int a1), some (.int (nI 0)), none]) dX5_tidy_1 rfl (by decide) rfl ?_
  refine S_iconst (pc := 2) dX5_tidy_2 ic0 ?_
  refine S_istore_n (pc := 3) (L' := [some (.ref (x + 20)), some (.int a1), some (.int (nI 0)), some (.int (nI 0))]) dX5_tidy_3 rfl (by decide) rfl ?_
  exact H
set_option maxHeartbeats 2000000 in
set_option maxRecDepth 4000 in
theorem VX5_tidy_4 {l : Launch} {G : Gx} {d : Nat} {Q : Option Value → Hp → Prop} {sh : Sh} {fR : FRt} {x : Nat} {f : FI} {g : FL} {a1 : Int32} {a2 : Int32} {a3 : Int32} (hs : StW sh fR x)
    (H : (((f (x + 20) 2) ≤ a3 → Q none (sh, (up2 f (x + 20) 2 a2), g, fR)) ∧ (¬ (f (x + 20) 2) ≤ a3 → inb a3 512 ∧ inb a3 512 ∧ ((((f (x + 21) a3.toNatClampNeg) + (f (x + 22) a3.toNatClampNeg)) ≤ a1 → LpX5_tidy_56 l G d Q sh fR x f g a1 a2 a3) ∧ (¬ ((f (x + 21) a3.toNatClampNeg) + (f (x + 22) a3.toNatClampNeg)) ≤ a1 → inb a3 512 ∧ inb a2 512 ∧ inb a3 512 ∧ inb a2 512 ∧ LpX5_tidy_56 l G d Q sh fR x (up2 (up2 f (x + 21) a2.toNatClampNeg (f (x + 21) a3.toNatClampNeg)) (x + 22) a2.toNatClampNeg (f (x + 22) a3.toNatClampNeg)) g a1 (a2 + nI 1) a3))))) :
    LpX5_tidy_4 l G d Q sh fR x f g a1 a2 a3 := by
  refine S_iload_n (pc := 4) dX5_tidy_4 rfl rfl ?_
  refine S_aload_n (pc := 5) dX5_tidy_5 rfl rfl ?_
  refine S_get (pc := 6) (v := .int (f (x + 20) 2)) dX5_tidy_6 flX5_16 (sW_20 hs) rfl ?_
  refine S_icmp_ge (pc := 9) (tgt := 62) dX5_tidy_9 rfl (fun hc1 => ?_) (fun hc1 => ?_)
  · replace H := H.1 hc1
    refine S_aload_n (pc := 62) dX5_tidy_62 rfl rfl ?_
    refine S_iload_n (pc := 63) dX5_tidy_63 rfl rfl ?_
    refine S_putI (pc := 64) dX5_tidy_64 flX5_16 (sW_20 hs) (Nat.succ_pos _) (nf_5_2) rfl rfl (fun _ => rfl) ?_
    exact S_vreturn dX5_tidy_67 rfl H
  · replace H := H.2 hc1
    refine S_aload_n (pc := 12) dX5_tidy_12 rfl rfl ?_
    refine S_getR (pc := 13) dX5_tidy_13 flX5_9 (sW_20 hs) rfl (rW_20_0 hs) ?_
    refine S_iload_n (pc := 16) dX5_tidy_16 rfl rfl ?_
    obtain ⟨hb2, H⟩ := H
    refine S_iald (pc := 17) dX5_tidy_17 (sW_21 hs) hb2 ?_
    refine S_aload_n (pc := 18) dX5_tidy_18 rfl rfl ?_
    refine S_getR (pc := 19) dX5_tidy_19 flX5_13 (sW_20 hs) rfl (rW_20_1 hs) ?_
    refine S_iload_n (pc := 22) dX5_tidy_22 rfl rfl ?_
    obtain ⟨hb3, H⟩ := H
    refine S_iald (pc := 23) dX5_tidy_23 (sW_22 hs) hb3 ?_
    refine S_iadd (pc := 24) dX5_tidy_24 ?_
    refine S_iload_n (pc := 25) dX5_tidy_25 rfl rfl ?_
    refine S_icmp_le (pc := 26) (tgt := 56) dX5_tidy_26 rfl (fun hc4 => ?_) (fun hc4 => ?_)
    · replace H := H.1 hc4
      exact H
    · replace H := H.2 hc4
      refine S_aload_n (pc := 29) dX5_tidy_29 rfl rfl ?_
      refine S_getR (pc := 30) dX5_tidy_30 flX5_9 (sW_20 hs) rfl (rW_20_0 hs) ?_
      refine S_iload_n (pc := 33) dX5_tidy_33 rfl rfl ?_
      refine S_aload_n (pc := 34) dX5_tidy_34 rfl rfl ?_
      refine S_getR (pc := 35) dX5_tidy_35 flX5_9 (sW_20 hs) rfl (rW_20_0 hs) ?_
      refine S_iload_n (pc := 38) dX5_tidy_38 rfl rfl ?_
      obtain ⟨hb5, H⟩ := H
      refine S_iald (pc := 39) dX5_tidy_39 (sW_21 hs) hb5 ?_
      obtain ⟨hb6, H⟩ := H
      refine S_iast (pc := 40) dX5_tidy_40 (sW_21 hs) (Nat.succ_pos _) hb6 ?_
      refine S_aload_n (pc := 41) dX5_tidy_41 rfl rfl ?_
      refine S_getR (pc := 42) dX5_tidy_42 flX5_13 (sW_20 hs) rfl (rW_20_1 hs) ?_
      refine S_iload_n (pc := 45) dX5_tidy_45 rfl rfl ?_
      refine S_aload_n (pc := 46) dX5_tidy_46 rfl rfl ?_
      refine S_getR (pc := 47) dX5_tidy_47 flX5_13 (sW_20 hs) rfl (rW_20_1 hs) ?_
      refine S_iload_n (pc := 50) dX5_tidy_50 rfl rfl ?_
      obtain ⟨hb7, H⟩ := H
      refine S_iald (pc := 51) dX5_tidy_51 (sW_22 hs) hb7 ?_
      refine S_eqi (x := f (x + 22) a3.toNatClampNeg) ((up2_r (by omega)).trans rfl) ?_
      obtain ⟨hb8, H⟩ := H
      refine S_iast (pc := 52) dX5_tidy_52 (sW_22 hs) (Nat.succ_pos _) hb8 ?_
      refine S_iinc (pc := 53) (v := nI 1) (L' := [some (.ref (x + 20)), some (.int a1), some (.int (a2 + nI 1)), some (.int a3)]) dX5_tidy_53 rfl ic1 rfl ?_
      exact H
set_option maxHeartbeats 2000000 in
set_option maxRecDepth 4000 in
theorem VX5_tidy_56 {l : Launch} {G : Gx} {d : Nat} {Q : Option Value → Hp → Prop} {sh : Sh} {fR : FRt} {x : Nat} {f : FI} {g : FL} {a1 : Int32} {a2 : Int32} {a3 : Int32} (hs : StW sh fR x)
    (H : LpX5_tidy_4 l G d Q sh fR x f g a1 a2 (a3 + nI 1)) :
    LpX5_tidy_56 l G d Q sh fR x f g a1 a2 a3 := by
  refine S_iinc (pc := 56) (v := nI 1) (L' := [some (.ref (x + 20)), some (.int a1), some (.int a2), some (.int (a3 + nI 1))]) dX5_tidy_56 rfl ic1 rfl ?_
  refine S_goto (pc := 59) (tgt := 4) dX5_tidy_59 rfl ?_
  exact H
set_option maxHeartbeats 2000000 in
set_option maxRecDepth 4000 in
theorem VX5_removeFirst {l : Launch} {G : Gx} {d : Nat} {Q : Option Value → Hp → Prop} {sh : Sh} {fR : FRt} {x : Nat} {f : FI} {g : FL}  (hs : StW sh fR x)
    (H : (((f (x + 20) 2) ≤ 0 → Q none (sh, f, g, fR)) ∧ (¬ (f (x + 20) 2) ≤ 0 → acOK (nI 1) (nI 0) ((f (x + 20) 2) - (nI 1)) 512 512 ∧ acOK (nI 1) (nI 0) ((f (x + 20) 2) - (nI 1)) 512 512 ∧ Q none (sh, (cpy (cpy (up2 f (x + 20) 2 ((f (x + 20) 2) - (nI 1))) (x + 21) (x + 21) 1 0 ((f (x + 20) 2) - (nI 1)).toNatClampNeg) (x + 22) (x + 22) 1 0 ((f (x + 20) 2) - (nI 1)).toNatClampNeg), g, fR)))) :
    Cl l G (d + 1) 0 0 mX5_removeFirst [.ref (x + 20)] (sh, f, g, fR) Q := by
  refine Cl.of (L0 := [some (.ref (x + 20))]) miX5_removeFirst rfl rfl ?_
  refine S_aload_n (pc := 0) dX5_removeFirst_0 rfl rfl ?_
  refine S_get (pc := 1) (v := .int (f (x + 20) 2)) dX5_removeFirst_1 flX5_16 (sW_20 hs) rfl ?_
  refine S_if_le (pc := 4) (tgt := 51) dX5_removeFirst_4 rfl (fun hc1 => ?_) (fun hc1 => ?_)
  · replace H := H.1 hc1
    exact S_vreturn dX5_removeFirst_51 rfl H
  · replace H := H.2 hc1
    refine S_aload_n (pc := 7) dX5_removeFirst_7 rfl rfl ?_
    refine S_dup (pc := 8) dX5_removeFirst_8 rfl ?_
    refine S_get (pc := 9) (v := .int (f (x + 20) 2)) dX5_removeFirst_9 flX5_16 (sW_20 hs) rfl ?_
    refine S_iconst (pc := 12) dX5_removeFirst_12 ic1 ?_
    refine S_isub (pc := 13) dX5_removeFirst_13 ?_
    refine S_putI (pc := 14) dX5_removeFirst_14 flX5_16 (sW_20 hs) (Nat.succ_pos _) (nf_5_2) rfl rfl (fun _ => rfl) ?_
    refine S_aload_n (pc := 17) dX5_removeFirst_17 rfl rfl ?_
    refine S_getR (pc := 18) dX5_removeFirst_18 flX5_9 (sW_20 hs) rfl (rW_20_0 hs) ?_
    refine S_iconst (pc := 21) dX5_removeFirst_21 ic1 ?_
    refine S_aload_n (pc := 22) dX5_removeFirst_22 rfl rfl ?_
    refine S_getR (pc := 23) dX5_removeFirst_23 flX5_9 (sW_20 hs) rfl (rW_20_0 hs) ?_
    refine S_iconst (pc := 26) dX5_removeFirst_26 ic0 ?_
    refine S_aload_n (pc := 27) dX5_removeFirst_27 rfl rfl ?_
    refine S_get (pc := 28) (v := .int ((up2 f (x + 20) 2 ((f (x + 20) 2) - (nI 1))) (x + 20) 2)) dX5_removeFirst_28 flX5_16 (sW_20 hs) rfl ?_
    refine S_eqi (x := (f (x + 20) 2) - (nI 1)) up2_eq ?_
    obtain ⟨hb2, H⟩ := H
    refine S_acpy (pc := 31) dX5_removeFirst_31 mlX5_20 (sW_21 hs) (sW_21 hs) (Or.inl rfl) (Nat.succ_pos _) hb2 acR ?_
    show WP _ _ _ _ _ _ _ 34 _ _ (sh, (cpy (up2 f (x + 20) 2 ((f (x + 20) 2) - (nI 1))) (x + 21) (x + 21) 1 0 ((f (x + 20) 2) - (nI 1)).toNatClampNeg), g, fR)
    refine S_aload_n (pc := 34) dX5_removeFirst_34 rfl rfl ?_
    refine S_getR (pc := 35) dX5_removeFirst_35 flX5_13 (sW_20 hs) rfl (rW_20_1 hs) ?_
    refine S_iconst (pc := 38) dX5_removeFirst_38 ic1 ?_
    refine S_aload_n (pc := 39) dX5_removeFirst_39 rfl rfl ?_
    refine S_getR (pc := 40) dX5_removeFirst_40 flX5_13 (sW_20 hs) rfl (rW_20_1 hs) ?_
    refine S_iconst (pc := 43) dX5_removeFirst_43 ic0 ?_
    refine S_aload_n (pc := 44) dX5_removeFirst_44 rfl rfl ?_
    refine S_get (pc := 45) (v := .int ((cpy (up2 f (x + 20) 2 ((f (x + 20) 2) - (nI 1))) (x + 21) (x + 21) 1 0 ((f (x + 20) 2) - (nI 1)).toNatClampNeg) (x + 20) 2)) dX5_removeFirst_45 flX5_16 (sW_20 hs) rfl ?_
    refine S_eqi (x := (f (x + 20) 2) - (nI 1)) ((cpy_r (by omega)).trans up2_eq) ?_
    obtain ⟨hb3, H⟩ := H
    refine S_acpy (pc := 48) dX5_removeFirst_48 mlX5_20 (sW_22 hs) (sW_22 hs) (Or.inl rfl) (Nat.succ_pos _) hb3 acR ?_
    show WP _ _ _ _ _ _ _ 51 _ _ (sh, (cpy (cpy (up2 f (x + 20) 2 ((f (x + 20) 2) - (nI 1))) (x + 21) (x + 21) 1 0 ((f (x + 20) 2) - (nI 1)).toNatClampNeg) (x + 22) (x + 22) 1 0 ((f (x + 20) 2) - (nI 1)).toNatClampNeg), g, fR)
    exact S_vreturn dX5_removeFirst_51 rfl H
abbrev LpX7_begin_2 (l : Launch) (G : Gx) (d : Nat) (Q : Option Value → Hp → Prop) (sh : Sh) (fR : FRt) (x p : Nat) (f : FI) (g : FL) (a2 : Int32) : Prop := WP l G (Zq G 0 0 Q) mX7_begin (rmd d 0 0) 0 0 2 [some (.ref (x + 2)), some (.ref p), some (.int a2)] [] (sh, f, g, fR)
abbrev LpX7_begin_24 (l : Launch) (G : Gx) (d : Nat) (Q : Option Value → Hp → Prop) (sh : Sh) (fR : FRt) (x p : Nat) (f : FI) (g : FL) (a2 : Int32) : Prop := WP l G (Zq G 0 0 Q) mX7_begin (rmd d 0 0) 0 0 24 [some (.ref (x + 2)), some (.ref p), some (.int a2)] [] (sh, f, g, fR)
set_option maxHeartbeats 2000000 in
set_option maxRecDepth 4000 in
theorem VX7_begin {l : Launch} {G : Gx} {d : Nat} {Q : Option Value → Hp → Prop} {sh : Sh} {fR : FRt} {x p : Nat} {f : FI} {g : FL}  (hs : StW sh fR x) (hP : StPl sh fR p)
    (H : LpX7_begin_2 l G d Q sh fR x p f g (nI 0)) :
    Cl l G d 0 0 mX7_begin [.ref (x + 2), .ref p] (sh, f, g, fR) Q := by
  refine Cl.of (L0 := [some (.ref (x + 2)), some (.ref p), none]) miX7_begin rfl rfl ?_
  refine S_iconst (pc := 0) dX7_begin_0 ic0 ?_
  refine S_istore_n (pc := 1) (L' := [some (.ref (x + 2)), some (.ref p), some (.int (nI 0))]) dX7_begin_1 rfl (by decide) rfl ?_
  exact H
set_option maxHeartbeats 2000000 in
set_option maxRecDepth 4000 in
theorem VX7_begin_2 {l : Launch} {G : Gx} {d : Nat} {Q : Option Value → Hp → Prop} {sh : Sh} {fR : FRt} {x p : Nat} {f : FI} {g : FL} {a2 : Int32} (hs : StW sh fR x) (hP : StPl sh fR p)
    (H : (((nI 200) ≤ a2 → LpX7_begin_24 l G d Q sh fR x p f g (nI 0)) ∧ (¬ (nI 200) ≤ a2 → inb a2 200 ∧ LpX7_begin_2 l G d Q sh fR x p (up2 f (x + 3) a2.toNatClampNeg (nI 0)) g (a2 + nI 1)))) :
    LpX7_begin_2 l G d Q sh fR x p f g a2 := by
  refine S_iload_n (pc := 2) dX7_begin_2 rfl rfl ?_
  refine S_sipush (pc := 3) dX7_begin_3 sp200 ?_
  refine S_icmp_ge (pc := 6) (tgt := 22) dX7_begin_6 rfl (fun hc1 => ?_) (fun hc1 => ?_)
  · replace H := H.1 hc1
    refine S_iconst (pc := 22) dX7_begin_22 ic0 ?_
    refine S_istore_n (pc := 23) (L' := [some (.ref (x + 2)), some (.ref p), some (.int (nI 0))]) dX7_begin_23 rfl (by decide) rfl ?_
    exact H
  · replace H := H.2 hc1
    refine S_aload_n (pc := 9) dX7_begin_9 rfl rfl ?_
    refine S_getR (pc := 10) dX7_begin_10 flX7_9 (sW_2 hs) rfl (rW_2_0 hs) ?_
    refine S_iload_n (pc := 13) dX7_begin_13 rfl rfl ?_
    refine S_iconst (pc := 14) dX7_begin_14 ic0 ?_
    obtain ⟨hb2, H⟩ := H
    refine S_bast (pc := 15) dX7_begin_15 (sW_3 hs) (Nat.succ_pos _) hb2 ?_
    show WP _ _ _ _ _ _ _ 16 _ _ (sh, (up2 f (x + 3) a2.toNatClampNeg (nI 0)), g, fR)
    refine S_iinc (pc := 16) (v := nI 1) (L' := [some (.ref (x + 2)), some (.ref p), some (.int (a2 + nI 1))]) dX7_begin_16 rfl ic1 rfl ?_
    refine S_goto (pc := 19) (tgt := 2) dX7_begin_19 rfl ?_
    exact H
set_option maxHeartbeats 2000000 in
set_option maxRecDepth 4000 in
theorem VX7_begin_24 {l : Launch} {G : Gx} {d : Nat} {Q : Option Value → Hp → Prop} {sh : Sh} {fR : FRt} {x p : Nat} {f : FI} {g : FL} {a2 : Int32} (hs : StW sh fR x) (hP : StPl sh fR p)
    (H : (((nI 4) ≤ a2 → Q none (sh, (up2 (up2 (up2 (up2 f (x + 2) 2 (f p 1)) (x + 2) 3 (f p 3)) (x + 2) 4 (nI 0)) (x + 2) 5 (nI 0)), g, fR)) ∧ (¬ (nI 4) ≤ a2 → inb a2 4 ∧ LpX7_begin_24 l G d Q sh fR x p (up2 f (x + 4) a2.toNatClampNeg (nI 0)) g (a2 + nI 1)))) :
    LpX7_begin_24 l G d Q sh fR x p f g a2 := by
  refine S_iload_n (pc := 24) dX7_begin_24 rfl rfl ?_
  refine S_aload_n (pc := 25) dX7_begin_25 rfl rfl ?_
  refine S_getR (pc := 26) dX7_begin_26 flX7_15 (sW_2 hs) rfl (rW_2_1 hs) ?_
  refine S_alen (pc := 29) dX7_begin_29 (sW_4 hs) (by decide) (by decide) ?_
  refine S_icmp_ge (pc := 30) (tgt := 46) dX7_begin_30 rfl (fun hc3 => ?_) (fun hc3 => ?_)
  · replace H := H.1 hc3
    refine S_aload_n (pc := 46) dX7_begin_46 rfl rfl ?_
    refine S_aload_n (pc := 47) dX7_begin_47 rfl rfl ?_
    refine S_get (pc := 48) (v := .int (f p 1)) dX7_begin_48 flX7_19 (sL_0 hP) rfl ?_
    refine S_putI (pc := 51) dX7_begin_51 flX7_25 (sW_2 hs) (Nat.succ_pos _) (nf_7_2) rfl rfl (fun _ => rfl) ?_
    refine S_aload_n (pc := 54) dX7_begin_54 rfl rfl ?_
    refine S_aload_n (pc := 55) dX7_begin_55 rfl rfl ?_
    refine S_get (pc := 56) (v := .int ((up2 f (x + 2) 2 (f p 1)) p 3)) dX7_begin_56 flX7_26 (sL_0 hP) rfl ?_
    refine S_eqi (x := f p 3) ((up2_r (ne_sh (sL_0 hP) (sW_2 hs) (by decide))).trans rfl) ?_
    refine S_putI (pc := 59) dX7_begin_59 flX7_29 (sW_2 hs) (Nat.succ_pos _) (nf_7_3) rfl rfl (fun _ => rfl) ?_
    refine S_aload_n (pc := 62) dX7_begin_62 rfl rfl ?_
    refine S_iconst (pc := 63) dX7_begin_63 ic0 ?_
    refine S_putI (pc := 64) dX7_begin_64 flX7_30 (sW_2 hs) (Nat.succ_pos _) (nf_7_4) rfl rfl (fun _ => rfl) ?_
    refine S_aload_n (pc := 67) dX7_begin_67 rfl rfl ?_
    refine S_iconst (pc := 68) dX7_begin_68 ic0 ?_
    refine S_putI (pc := 69) dX7_begin_69 flX7_33 (sW_2 hs) (Nat.succ_pos _) (nf_7_5) rfl rfl (fun _ => rfl) ?_
    exact S_vreturn dX7_begin_72 rfl H
  · replace H := H.2 hc3
    refine S_aload_n (pc := 33) dX7_begin_33 rfl rfl ?_
    refine S_getR (pc := 34) dX7_begin_34 flX7_15 (sW_2 hs) rfl (rW_2_1 hs) ?_
    refine S_iload_n (pc := 37) dX7_begin_37 rfl rfl ?_
    refine S_iconst (pc := 38) dX7_begin_38 ic0 ?_
    obtain ⟨hb4, H⟩ := H
    refine S_iast (pc := 39) dX7_begin_39 (sW_4 hs) (Nat.succ_pos _) hb4 ?_
    refine S_iinc (pc := 40) (v := nI 1) (L' := [some (.ref (x + 2)), some (.ref p), some (.int (a2 + nI 1))]) dX7_begin_40 rfl ic1 rfl ?_
    refine S_goto (pc := 43) (tgt := 24) dX7_begin_43 rfl ?_
    exact H
set_option maxHeartbeats 2000000 in
set_option maxRecDepth 4000 in
theorem VX7_copyFrom {l : Launch} {G : Gx} {d : Nat} {Q : Option Value → Hp → Prop} {sh : Sh} {fR : FRt} {x y : Nat} {f : FI} {g : FL}  (hs : StW sh fR x) (hy : StW sh fR y)
    (H : acOK (nI 0) (nI 0) (nI 200) 200 200 ∧ acOK (nI 0) (nI 0) (nI 4) 4 4 ∧ Q none (sh, (up2 (up2 (up2 (up2 (cpy (cpy f (y + 3) (x + 3) 0 0 200) (y + 4) (x + 4) 0 0 (nI 4).toNatClampNeg) (x + 2) 2 (f (y + 2) 2)) (x + 2) 3 ((up2 (cpy (cpy f (y + 3) (x + 3) 0 0 200) (y + 4) (x + 4) 0 0 (nI 4).toNatClampNeg) (x + 2) 2 (f (y + 2) 2)) (y + 2) 3)) (x + 2) 4 ((up2 (up2 (cpy (cpy f (y + 3) (x + 3) 0 0 200) (y + 4) (x + 4) 0 0 (nI 4).toNatClampNeg) (x + 2) 2 (f (y + 2) 2)) (x + 2) 3 ((up2 (cpy (cpy f (y + 3) (x + 3) 0 0 200) (y + 4) (x + 4) 0 0 (nI 4).toNatClampNeg) (x + 2) 2 (f (y + 2) 2)) (y + 2) 3)) (y + 2) 4)) (x + 2) 5 ((up2 (up2 (up2 (cpy (cpy f (y + 3) (x + 3) 0 0 200) (y + 4) (x + 4) 0 0 (nI 4).toNatClampNeg) (x + 2) 2 (f (y + 2) 2)) (x + 2) 3 ((up2 (cpy (cpy f (y + 3) (x + 3) 0 0 200) (y + 4) (x + 4) 0 0 (nI 4).toNatClampNeg) (x + 2) 2 (f (y + 2) 2)) (y + 2) 3)) (x + 2) 4 ((up2 (up2 (cpy (cpy f (y + 3) (x + 3) 0 0 200) (y + 4) (x + 4) 0 0 (nI 4).toNatClampNeg) (x + 2) 2 (f (y + 2) 2)) (x + 2) 3 ((up2 (cpy (cpy f (y + 3) (x + 3) 0 0 200) (y + 4) (x + 4) 0 0 (nI 4).toNatClampNeg) (x + 2) 2 (f (y + 2) 2)) (y + 2) 3)) (y + 2) 4)) (y + 2) 5)), g, fR)) :
    Cl l G (d + 1) 0 0 mX7_copyFrom [.ref (x + 2), .ref (y + 2)] (sh, f, g, fR) Q := by
  refine Cl.of (L0 := [some (.ref (x + 2)), some (.ref (y + 2))]) miX7_copyFrom rfl rfl ?_
  refine S_aload_n (pc := 0) dX7_copyFrom_0 rfl rfl ?_
  refine S_getR (pc := 1) dX7_copyFrom_1 flX7_9 (sW_2 hy) rfl (rW_2_0 hy) ?_
  refine S_iconst (pc := 4) dX7_copyFrom_4 ic0 ?_
  refine S_aload_n (pc := 5) dX7_copyFrom_5 rfl rfl ?_
  refine S_getR (pc := 6) dX7_copyFrom_6 flX7_9 (sW_2 hs) rfl (rW_2_0 hs) ?_
  refine S_iconst (pc := 9) dX7_copyFrom_9 ic0 ?_
  refine S_sipush (pc := 10) dX7_copyFrom_10 sp200 ?_
  obtain ⟨hb1, H⟩ := H
  refine S_acpy (pc := 13) dX7_copyFrom_13 mlX7_36 (sW_3 hy) (sW_3 hs) (Or.inr rfl) (Nat.succ_pos _) hb1 acR ?_
  show WP _ _ _ _ _ _ _ 16 _ _ (sh, (cpy f (y + 3) (x + 3) 0 0 200), g, fR)
  refine S_aload_n (pc := 16) dX7_copyFrom_16 rfl rfl ?_
  refine S_getR (pc := 17) dX7_copyFrom_17 flX7_15 (sW_2 hy) rfl (rW_2_1 hy) ?_
  refine S_iconst (pc := 20) dX7_copyFrom_20 ic0 ?_
  refine S_aload_n (pc := 21) dX7_copyFrom_21 rfl rfl ?_
  refine S_getR (pc := 22) dX7_copyFrom_22 flX7_15 (sW_2 hs) rfl (rW_2_1 hs) ?_
  refine S_iconst (pc := 25) dX7_copyFrom_25 ic0 ?_
  refine S_aload_n (pc := 26) dX7_copyFrom_26 rfl rfl ?_
  refine S_getR (pc := 27) dX7_copyFrom_27 flX7_15 (sW_2 hs) rfl (rW_2_1 hs) ?_
  refine S_alen (pc := 30) dX7_copyFrom_30 (sW_4 hs) (by decide) (by decide) ?_
  obtain ⟨hb2, H⟩ := H
  refine S_acpy (pc := 31) dX7_copyFrom_31 mlX7_36 (sW_4 hy) (sW_4 hs) (Or.inl rfl) (Nat.succ_pos _) hb2 acR ?_
  show WP _ _ _ _ _ _ _ 34 _ _ (sh, (cpy (cpy f (y + 3) (x + 3) 0 0 200) (y + 4) (x + 4) 0 0 (nI 4).toNatClampNeg), g, fR)
  refine S_aload_n (pc := 34) dX7_copyFrom_34 rfl rfl ?_
  refine S_aload_n (pc := 35) dX7_copyFrom_35 rfl rfl ?_
  refine S_get (pc := 36) (v := .int ((cpy (cpy f (y + 3) (x + 3) 0 0 200) (y + 4) (x + 4) 0 0 (nI 4).toNatClampNeg) (y + 2) 2)) dX7_copyFrom_36 flX7_25 (sW_2 hy) rfl ?_
  refine S_eqi (x := f (y + 2) 2) ((cpy_r (ne_sh (sW_2 hy) (sW_4 hs) (by decide))).trans ((cpy_r (ne_sh (sW_2 hy) (sW_3 hs) (by decide))).trans rfl)) ?_
  refine S_putI (pc := 39) dX7_copyFrom_39 flX7_25 (sW_2 hs) (Nat.succ_pos _) (nf_7_2) rfl rfl (fun _ => rfl) ?_
  refine S_aload_n (pc := 42) dX7_copyFrom_42 rfl rfl ?_
  refine S_aload_n (pc := 43) dX7_copyFrom_43 rfl rfl ?_
  refine S_get (pc := 44) (v := .int ((up2 (cpy (cpy f (y + 3) (x + 3) 0 0 200) (y + 4) (x + 4) 0 0 (nI 4).toNatClampNeg) (x + 2) 2 (f (y + 2) 2)) (y + 2) 3)) dX7_copyFrom_44 flX7_29 (sW_2 hy) rfl ?_
  refine S_putI (pc := 47) dX7_copyFrom_47 flX7_29 (sW_2 hs) (Nat.succ_pos _) (nf_7_3) rfl rfl (fun _ => rfl) ?_
  refine S_aload_n (pc := 50) dX7_copyFrom_50 rfl rfl ?_
  refine S_aload_n (pc := 51) dX7_copyFrom_51 rfl rfl ?_
  refine S_get (pc := 52) (v := .int ((up2 (up2 (cpy (cpy f (y + 3) (x + 3) 0 0 200) (y + 4) (x + 4) 0 0 (nI 4).toNatClampNeg) (x + 2) 2 (f (y + 2) 2)) (x + 2) 3 ((up2 (cpy (cpy f (y + 3) (x + 3) 0 0 200) (y + 4) (x + 4) 0 0 (nI 4).toNatClampNeg) (x + 2) 2 (f (y + 2) 2)) (y + 2) 3)) (y + 2) 4)) dX7_copyFrom_52 flX7_30 (sW_2 hy) rfl ?_
  refine S_putI (pc := 55) dX7_copyFrom_55 flX7_30 (sW_2 hs) (Nat.succ_pos _) (nf_7_4) rfl rfl (fun _ => rfl) ?_
  refine S_aload_n (pc := 58) dX7_copyFrom_58 rfl rfl ?_
  refine S_aload_n (pc := 59) dX7_copyFrom_59 rfl rfl ?_
  refine S_get (pc := 60) (v := .int ((up2 (up2 (up2 (cpy (cpy f (y + 3) (x + 3) 0 0 200) (y + 4) (x + 4) 0 0 (nI 4).toNatClampNeg) (x + 2) 2 (f (y + 2) 2)) (x + 2) 3 ((up2 (cpy (cpy f (y + 3) (x + 3) 0 0 200) (y + 4) (x + 4) 0 0 (nI 4).toNatClampNeg) (x + 2) 2 (f (y + 2) 2)) (y + 2) 3)) (x + 2) 4 ((up2 (up2 (cpy (cpy f (y + 3) (x + 3) 0 0 200) (y + 4) (x + 4) 0 0 (nI 4).toNatClampNeg) (x + 2) 2 (f (y + 2) 2)) (x + 2) 3 ((up2 (cpy (cpy f (y + 3) (x + 3) 0 0 200) (y + 4) (x + 4) 0 0 (nI 4).toNatClampNeg) (x + 2) 2 (f (y + 2) 2)) (y + 2) 3)) (y + 2) 4)) (y + 2) 5)) dX7_copyFrom_60 flX7_33 (sW_2 hy) rfl ?_
  refine S_putI (pc := 63) dX7_copyFrom_63 flX7_33 (sW_2 hs) (Nat.succ_pos _) (nf_7_5) rfl rfl (fun _ => rfl) ?_
  exact S_vreturn dX7_copyFrom_66 rfl H
set_option maxHeartbeats 2000000 in
set_option maxRecDepth 4000 in
theorem VX7_arrive {l : Launch} {G : Gx} {d : Nat} {Q : Option Value → Hp → Prop} {sh : Sh} {fR : FRt} {x : Nat} {f : FI} {g : FL} {a1 : Int32} {a2 : Int32} {a3 : Int32} (hs : StW sh fR x)
    (H : ((a3 = 0 → (((a1 + a2) ≤ ((f (x + 2) 5) + (f (x + 2) 3)) → Cl l G d 0 0 mX7_take [.ref (x + 2), .int a1, .int a2] (sh, f, g, fR) (qi sh fR fun x5 f3 g4 => ((¬ x5 = 0 → Q none (sh, f3, g4, fR)) ∧ (x5 = 0 → Q none (sh, (up2 f3 (x + 4) 3 ((f3 (x + 4) 3) + (nI 1))), g4, fR))))) ∧ (¬ (a1 + a2) ≤ ((f (x + 2) 5) + (f (x + 2) 3)) → Q none (sh, (up2 f (x + 4) 2 ((f (x + 4) 2) + (nI 1))), g, fR)))) ∧ (¬ a3 = 0 → Q none (sh, (up2 f (x + 4) 1 ((f (x + 4) 1) + (nI 1))), g, fR)))) :
    Cl l G (d + 1) 0 0 mX7_arrive [.ref (x + 2), .int a1, .int a2, .int a3] (sh, f, g, fR) Q := by
  refine Cl.of (L0 := [some (.ref (x + 2)), some (.int a1), some (.int a2), some (.int a3)]) miX7_arrive rfl rfl ?_
  refine S_iload_n (pc := 0) dX7_arrive_0 rfl rfl ?_
  refine S_if_eq (pc := 1) (tgt := 17) dX7_arrive_1 rfl (fun hc1 => ?_) (fun hc1 => ?_)
  · replace H := H.1 hc1
    refine S_iload_n (pc := 17) dX7_arrive_17 rfl rfl ?_
    refine S_iload_n (pc := 18) dX7_arrive_18 rfl rfl ?_
    refine S_iadd (pc := 19) dX7_arrive_19 ?_
    refine S_aload_n (pc := 20) dX7_arrive_20 rfl rfl ?_
    refine S_get (pc := 21) (v := .int (f (x + 2) 5)) dX7_arrive_21 flX7_33 (sW_2 hs) rfl ?_
    refine S_aload_n (pc := 24) dX7_arrive_24 rfl rfl ?_
    refine S_get (pc := 25) (v := .int (f (x + 2) 3)) dX7_arrive_25 flX7_29 (sW_2 hs) rfl ?_
    refine S_iadd (pc := 28) dX7_arrive_28 ?_
    refine S_icmp_le (pc := 29) (tgt := 45) dX7_arrive_29 rfl (fun hc2 => ?_) (fun hc2 => ?_)
    · replace H := H.1 hc2
      refine S_aload_n (pc := 45) dX7_arrive_45 rfl rfl ?_
      refine S_iload_n (pc := 46) dX7_arrive_46 rfl rfl ?_
      refine S_iload_n (pc := 47) dX7_arrive_47 rfl rfl ?_
      refine S_callV (As := [.int a1, .int a2]) (mc := 0) (ms := 0) (pc := 48) dX7_arrive_48 miX7_take mvX7_take mlX7_42 rfl (sW_2 hs) rfl rfl rfl (RmOK.of rfl) H ?_
      rintro _ _ ⟨x5, f3, g4, rfl, rfl, H⟩
      show WP _ _ _ _ _ _ _ 51 [some (.ref (x + 2)), some (.int a1), some (.int a2), some (.int a3)] [.int x5] (sh, f3, g4, fR)
      refine S_if_ne (pc := 51) (tgt := 64) dX7_arrive_51 rfl (fun hc6 => ?_) (fun hc6 => ?_)
      · replace H := H.1 hc6
        exact S_vreturn dX7_arrive_64 rfl H
      · replace H := H.2 hc6
        refine S_aload_n (pc := 54) dX7_arrive_54 rfl rfl ?_
        refine S_getR (pc := 55) dX7_arrive_55 flX7_15 (sW_2 hs) rfl (rW_2_1 hs) ?_
        refine S_iconst (pc := 58) dX7_arrive_58 ic3 ?_
        refine S_dup2 (pc := 59) dX7_arrive_59 rfl rfl ?_
        refine S_iald (pc := 60) dX7_arrive_60 (sW_4 hs) (vp_in_nI (by decide) (by decide)) ?_
        show WP _ _ _ _ _ _ _ 61 _ (.int (f3 (x + 4) 3) :: _) _
        refine S_iconst (pc := 61) dX7_arrive_61 ic1 ?_
        refine S_iadd (pc := 62) dX7_arrive_62 ?_
        refine S_iast (pc := 63) dX7_arrive_63 (sW_4 hs) (Nat.succ_pos _) (vp_in_nI (by decide) (by decide)) ?_
        show WP _ _ _ _ _ _ _ 64 _ _ (sh, (up2 f3 (x + 4) 3 ((f3 (x + 4) 3) + (nI 1))), g4, fR)
        exact S_vreturn dX7_arrive_64 rfl H
    · replace H := H.2 hc2
      refine S_aload_n (pc := 32) dX7_arrive_32 rfl rfl ?_
      refine S_getR (pc := 33) dX7_arrive_33 flX7_15 (sW_2 hs) rfl (rW_2_1 hs) ?_
      refine S_iconst (pc := 36) dX7_arrive_36 ic2 ?_
      refine S_dup2 (pc := 37) dX7_arrive_37 rfl rfl ?_
      refine S_iald (pc := 38) dX7_arrive_38 (sW_4 hs) (vp_in_nI (by decide) (by decide)) ?_
      show WP _ _ _ _ _ _ _ 39 _ (.int (f (x + 4) 2) :: _) _
      refine S_iconst (pc := 39) dX7_arrive_39 ic1 ?_
      refine S_iadd (pc := 40) dX7_arrive_40 ?_
      refine S_iast (pc := 41) dX7_arrive_41 (sW_4 hs) (Nat.succ_pos _) (vp_in_nI (by decide) (by decide)) ?_
      show WP _ _ _ _ _ _ _ 42 _ _ (sh, (up2 f (x + 4) 2 ((f (x + 4) 2) + (nI 1))), g, fR)
      refine S_goto (pc := 42) (tgt := 64) dX7_arrive_42 rfl ?_
      exact S_vreturn dX7_arrive_64 rfl H
  · replace H := H.2 hc1
    refine S_aload_n (pc := 4) dX7_arrive_4 rfl rfl ?_
    refine S_getR (pc := 5) dX7_arrive_5 flX7_15 (sW_2 hs) rfl (rW_2_1 hs) ?_
    refine S_iconst (pc := 8) dX7_arrive_8 ic1 ?_
    refine S_dup2 (pc := 9) dX7_arrive_9 rfl rfl ?_
    refine S_iald (pc := 10) dX7_arrive_10 (sW_4 hs) (vp_in_nI (by decide) (by decide)) ?_
    show WP _ _ _ _ _ _ _ 11 _ (.int (f (x + 4) 1) :: _) _
    refine S_iconst (pc := 11) dX7_arrive_11 ic1 ?_
    refine S_iadd (pc := 12) dX7_arrive_12 ?_
    refine S_iast (pc := 13) dX7_arrive_13 (sW_4 hs) (Nat.succ_pos _) (vp_in_nI (by decide) (by decide)) ?_
    show WP _ _ _ _ _ _ _ 14 _ _ (sh, (up2 f (x + 4) 1 ((f (x + 4) 1) + (nI 1))), g, fR)
    refine S_goto (pc := 14) (tgt := 64) dX7_arrive_14 rfl ?_
    exact S_vreturn dX7_arrive_64 rfl H
abbrev LpX7_take_5 (l : Launch) (G : Gx) (d : Nat) (Q : Option Value → Hp → Prop) (sh : Sh) (fR : FRt) (x : Nat) (f : FI) (g : FL) (a1 : Int32) (a2 : Int32) (a3 : Int32) (a4 : Int32) : Prop := WP l G (Zq G 0 0 Q) mX7_take (rmd d 0 0) 0 0 5 [some (.ref (x + 2)), some (.int a1), some (.int a2), some (.int a3), some (.int a4)] [] (sh, f, g, fR)
abbrev LpX7_take_42 (l : Launch) (G : Gx) (d : Nat) (Q : Option Value → Hp → Prop) (sh : Sh) (fR : FRt) (x : Nat) (f : FI) (g : FL) (a1 : Int32) (a2 : Int32) (a3 : Int32) (a4 : Int32) : Prop := WP l G (Zq G 0 0 Q) mX7_take (rmd d 0 0) 0 0 42 [some (.ref (x + 2)), some (.int a1), some (.int a2), some (.int a3), some (.int a4)] [] (sh, f, g, fR)
set_option maxHeartbeats 2000000 in
set_option maxRecDepth 4000 in
theorem VX7_take {l : Launch} {G : Gx} {d : Nat} {Q : Option Value → Hp → Prop} {sh : Sh} {fR : FRt} {x : Nat} {f : FI} {g : FL} {a1 : Int32} {a2 : Int32} (hs : StW sh fR x)
    (H : LpX7_take_5 l G d Q sh fR x f g a1 a2 (nI 0) a1) :
    Cl l G d 0 0 mX7_take [.ref (x + 2), .int a1, .int a2] (sh, f, g, fR) Q := by
  refine Cl.of (L0 := [some (.ref (x + 2)), some (.int a1), some (.int a2), none, none]) miX7_take rfl rfl ?_
  refine S_iconst (pc := 0) dX7_take_0 ic0 ?_
  refine S_istore_n (pc := 1) (L' := [some (.ref (x + 2)), some (.int a1), some (.int a2), some (.int (nI 0)), none]) dX7_take_1 rfl (by decide) rfl ?_
  refine S_iload_n (pc := 2) dX7_take_2 rfl rfl ?_
  refine S_istore (pc := 3) (L' := [some (.ref (x + 2)), some (.int a1), some (.int a2), some (.int (nI 0)), some (.int a1)]) dX7_take_3 (by decide) rfl ?_
  exact H
set_option maxHeartbeats 2000000 in
set_option maxRecDepth 4000 in
theorem VX7_take_5 {l : Launch} {G : Gx} {d : Nat} {Q : Option Value → Hp → Prop} {sh : Sh} {fR : FRt} {x : Nat} {f : FI} {g : FL} {a1 : Int32} {a2 : Int32} {a3 : Int32} {a4 : Int32} (hs : StW sh fR x)
    (H : (((a1 + a2) ≤ a4 → Q (some (.int a3)) (sh, (up2 f (x + 2) 4 ((f (x + 2) 4) + a3)), g, fR)) ∧ (¬ (a1 + a2) ≤ a4 → (((nI 200) ≤ a4 → Q (some (.int a3)) (sh, (up2 f (x + 2) 4 ((f (x + 2) 4) + a3)), g, fR)) ∧ (¬ (nI 200) ≤ a4 → inb a4 200 ∧ ((¬ (f (x + 3) a4.toNatClampNeg) = 0 → LpX7_take_42 l G d Q sh fR x f g a1 a2 a3 a4) ∧ ((f (x + 3) a4.toNatClampNeg) = 0 → inb a4 200 ∧ LpX7_take_42 l G d Q sh fR x (up2 f (x + 3) a4.toNatClampNeg (nI 1)) g a1 a2 (a3 + nI 1) a4))))))) :
    LpX7_take_5 l G d Q sh fR x f g a1 a2 a3 a4 := by
  refine S_iload (pc := 5) dX7_take_5 rfl ?_
  refine S_iload_n (pc := 7) dX7_take_7 rfl rfl ?_
  refine S_iload_n (pc := 8) dX7_take_8 rfl rfl ?_
  refine S_iadd (pc := 9) dX7_take_9 ?_
  refine S_icmp_ge (pc := 10) (tgt := 48) dX7_take_10 rfl (fun hc1 => ?_) (fun hc1 => ?_)
  · replace H := H.1 hc1
    refine S_aload_n (pc := 48) dX7_take_48 rfl rfl ?_
    refine S_dup (pc := 49) dX7_take_49 rfl ?_
    refine S_get (pc := 50) (v := .int (f (x + 2) 4)) dX7_take_50 flX7_30 (sW_2 hs) rfl ?_
    refine S_iload_n (pc := 53) dX7_take_53 rfl rfl ?_
    refine S_iadd (pc := 54) dX7_take_54 ?_
    refine S_putI (pc := 55) dX7_take_55 flX7_30 (sW_2 hs) (Nat.succ_pos _) (nf_7_4) rfl rfl (fun _ => rfl) ?_
    refine S_iload_n (pc := 58) dX7_take_58 rfl rfl ?_
    exact S_ireturn dX7_take_59 rfl H
  · replace H := H.2 hc1
    refine S_iload (pc := 13) dX7_take_13 rfl ?_
    refine S_sipush (pc := 15) dX7_take_15 sp200 ?_
    refine S_icmp_ge (pc := 18) (tgt := 48) dX7_take_18 rfl (fun hc2 => ?_) (fun hc2 => ?_)
    · replace H := H.1 hc2
      refine S_aload_n (pc := 48) dX7_take_48 rfl rfl ?_
      refine S_dup (pc := 49) dX7_take_49 rfl ?_
      refine S_get (pc := 50) (v := .int (f (x + 2) 4)) dX7_take_50 flX7_30 (sW_2 hs) rfl ?_
      refine S_iload_n (pc := 53) dX7_take_53 rfl rfl ?_
      refine S_iadd (pc := 54) dX7_take_54 ?_
      refine S_putI (pc := 55) dX7_take_55 flX7_30 (sW_2 hs) (Nat.succ_pos _) (nf_7_4) rfl rfl (fun _ => rfl) ?_
      refine S_iload_n (pc := 58) dX7_take_58 rfl rfl ?_
      exact S_ireturn dX7_take_59 rfl H
    · replace H := H.2 hc2
      refine S_aload_n (pc := 21) dX7_take_21 rfl rfl ?_
      refine S_getR (pc := 22) dX7_take_22 flX7_9 (sW_2 hs) rfl (rW_2_0 hs) ?_
      refine S_iload (pc := 25) dX7_take_25 rfl ?_
      obtain ⟨hb3, H⟩ := H
      refine S_bald (pc := 27) dX7_take_27 (sW_3 hs) hb3 ?_
      refine S_if_ne (pc := 28) (tgt := 42) dX7_take_28 rfl (fun hc4 => ?_) (fun hc4 => ?_)
      · replace H := H.1 hc4
        exact H
      · replace H := H.2 hc4
        refine S_aload_n (pc := 31) dX7_take_31 rfl rfl ?_
        refine S_getR (pc := 32) dX7_take_32 flX7_9 (sW_2 hs) rfl (rW_2_0 hs) ?_
        refine S_iload (pc := 35) dX7_take_35 rfl ?_
        refine S_iconst (pc := 37) dX7_take_37 ic1 ?_
        obtain ⟨hb5, H⟩ := H
        refine S_bast (pc := 38) dX7_take_38 (sW_3 hs) (Nat.succ_pos _) hb5 ?_
        show WP _ _ _ _ _ _ _ 39 _ _ (sh, (up2 f (x + 3) a4.toNatClampNeg (nI 1)), g, fR)
        refine S_iinc (pc := 39) (v := nI 1) (L' := [some (.ref (x + 2)), some (.int a1), some (.int a2), some (.int (a3 + nI 1)), some (.int a4)]) dX7_take_39 rfl ic1 rfl ?_
        exact H
set_option maxHeartbeats 2000000 in
set_option maxRecDepth 4000 in
theorem VX7_take_42 {l : Launch} {G : Gx} {d : Nat} {Q : Option Value → Hp → Prop} {sh : Sh} {fR : FRt} {x : Nat} {f : FI} {g : FL} {a1 : Int32} {a2 : Int32} {a3 : Int32} {a4 : Int32} (hs : StW sh fR x)
    (H : LpX7_take_5 l G d Q sh fR x f g a1 a2 a3 (a4 + nI 1)) :
    LpX7_take_42 l G d Q sh fR x f g a1 a2 a3 a4 := by
  refine S_iinc (pc := 42) (v := nI 1) (L' := [some (.ref (x + 2)), some (.int a1), some (.int a2), some (.int a3), some (.int (a4 + nI 1))]) dX7_take_42 rfl ic1 rfl ?_
  refine S_goto (pc := 45) (tgt := 5) dX7_take_45 rfl ?_
  exact H
abbrev LpX7_missing_5 (l : Launch) (G : Gx) (d : Nat) (Q : Option Value → Hp → Prop) (sh : Sh) (fR : FRt) (x : Nat) (f : FI) (g : FL) (a1 : Int32) : Prop := WP l G (Zq G 0 0 Q) mX7_missing (rmd d 0 0) 0 0 5 [some (.ref (x + 2)), some (.int a1)] [] (sh, f, g, fR)
set_option maxHeartbeats 2000000 in
set_option maxRecDepth 4000 in
theorem VX7_missing {l : Launch} {G : Gx} {d : Nat} {Q : Option Value → Hp → Prop} {sh : Sh} {fR : FRt} {x : Nat} {f : FI} {g : FL}  (hs : StW sh fR x)
    (H : (∀ w1 : Int32, w1 = f (x + 2) 5 → LpX7_missing_5 l G d Q sh fR x f g w1)) :
    Cl l G d 0 0 mX7_missing [.ref (x + 2)] (sh, f, g, fR) Q := by
  refine Cl.of (L0 := [some (.ref (x + 2)), none]) miX7_missing rfl rfl ?_
  refine S_aload_n (pc := 0) dX7_missing_0 rfl rfl ?_
  refine S_get (pc := 1) (v := .int (f (x + 2) 5)) dX7_missing_1 flX7_33 (sW_2 hs) rfl ?_
  refine S_namei (fun w1 e2 => ?_)
  replace H := H w1 e2
  refine S_istore_n (pc := 4) (L' := [some (.ref (x + 2)), some (.int w1)]) dX7_missing_4 rfl (by decide) rfl ?_
  exact H
set_option maxHeartbeats 2000000 in
set_option maxRecDepth 4000 in
theorem VX7_missing_5 {l : Launch} {G : Gx} {d : Nat} {Q : Option Value → Hp → Prop} {sh : Sh} {fR : FRt} {x : Nat} {f : FI} {g : FL} {a1 : Int32} (hs : StW sh fR x)
    (H : (((f (x + 2) 2) ≤ a1 → Q (some (.int a1)) (sh, f, g, fR)) ∧ (¬ (f (x + 2) 2) ≤ a1 → inb a1 200 ∧ (((f (x + 3) a1.toNatClampNeg) = 0 → Q (some (.int a1)) (sh, f, g, fR)) ∧ (¬ (f (x + 3) a1.toNatClampNeg) = 0 → LpX7_missing_5 l G d Q sh fR x f g (a1 + nI 1)))))) :
    LpX7_missing_5 l G d Q sh fR x f g a1 := by
  refine S_iload_n (pc := 5) dX7_missing_5 rfl rfl ?_
  refine S_aload_n (pc := 6) dX7_missing_6 rfl rfl ?_
  refine S_get (pc := 7) (v := .int (f (x + 2) 2)) dX7_missing_7 flX7_25 (sW_2 hs) rfl ?_
  refine S_icmp_ge (pc := 10) (tgt := 28) dX7_missing_10 rfl (fun hc3 => ?_) (fun hc3 => ?_)
  · replace H := H.1 hc3
    refine S_iload_n (pc := 28) dX7_missing_28 rfl rfl ?_
    exact S_ireturn dX7_missing_29 rfl H
  · replace H := H.2 hc3
    refine S_aload_n (pc := 13) dX7_missing_13 rfl rfl ?_
    refine S_getR (pc := 14) dX7_missing_14 flX7_9 (sW_2 hs) rfl (rW_2_0 hs) ?_
    refine S_iload_n (pc := 17) dX7_missing_17 rfl rfl ?_
    obtain ⟨hb4, H⟩ := H
    refine S_bald (pc := 18) dX7_missing_18 (sW_3 hs) hb4 ?_
    refine S_if_eq (pc := 19) (tgt := 28) dX7_missing_19 rfl (fun hc5 => ?_) (fun hc5 => ?_)
    · replace H := H.1 hc5
      refine S_iload_n (pc := 28) dX7_missing_28 rfl rfl ?_
      exact S_ireturn dX7_missing_29 rfl H
    · replace H := H.2 hc5
      refine S_iinc (pc := 22) (v := nI 1) (L' := [some (.ref (x + 2)), some (.int (a1 + nI 1))]) dX7_missing_22 rfl ic1 rfl ?_
      refine S_goto (pc := 25) (tgt := 5) dX7_missing_25 rfl ?_
      exact H
set_option maxHeartbeats 2000000 in
set_option maxRecDepth 4000 in
theorem VX8_isNew {l : Launch} {G : Gx} {d : Nat} {Q : Option Value → Hp → Prop} {sh : Sh} {fR : FRt} {r : Nat} {f : FI} {g : FL}  (hr : sh[r]? = some (8, 8) ∧ 0 < r)
    (H : ((¬ (f r 1) = 0 → Q (some (.int (nI 0))) (sh, f, g, fR)) ∧ ((f r 1) = 0 → ((¬ (f r 2) = 0 → Q (some (.int (nI 0))) (sh, f, g, fR)) ∧ ((f r 2) = 0 → Q (some (.int (nI 1))) (sh, f, g, fR)))))) :
    Cl l G d 0 0 mX8_isNew [.ref r] (sh, f, g, fR) Q := by
  refine Cl.of (L0 := [some (.ref r)]) miX8_isNew rfl rfl ?_
  refine S_aload_n (pc := 0) dX8_isNew_0 rfl rfl ?_
  refine S_get (pc := 1) (v := .int (f r 1)) dX8_isNew_1 flX8_13 hr.1 rfl ?_
  refine S_if_ne (pc := 4) (tgt := 18) dX8_isNew_4 rfl (fun hc1 => ?_) (fun hc1 => ?_)
  · replace H := H.1 hc1
    refine S_iconst (pc := 18) dX8_isNew_18 ic0 ?_
    exact S_zreturn dX8_isNew_19 rfl (Or.inl rfl) H
  · replace H := H.2 hc1
    refine S_aload_n (pc := 7) dX8_isNew_7 rfl rfl ?_
    refine S_get (pc := 8) (v := .int (f r 2)) dX8_isNew_8 flX8_17 hr.1 rfl ?_
    refine S_if_ne (pc := 11) (tgt := 18) dX8_isNew_11 rfl (fun hc2 => ?_) (fun hc2 => ?_)
    · replace H := H.1 hc2
      refine S_iconst (pc := 18) dX8_isNew_18 ic0 ?_
      exact S_zreturn dX8_isNew_19 rfl (Or.inl rfl) H
    · replace H := H.2 hc2
      refine S_iconst (pc := 14) dX8_isNew_14 ic1 ?_
      refine S_goto (pc := 15) (tgt := 19) dX8_isNew_15 rfl ?_
      exact S_zreturn dX8_isNew_19 rfl (Or.inr rfl) H
set_option maxHeartbeats 2000000 in
set_option maxRecDepth 4000 in
theorem VX8_isAlive {l : Launch} {G : Gx} {d : Nat} {Q : Option Value → Hp → Prop} {sh : Sh} {fR : FRt} {r : Nat} {f : FI} {g : FL}  (hr : sh[r]? = some (8, 8) ∧ 0 < r)
    (H : (((f r 1) = 0 → Q (some (.int (nI 0))) (sh, f, g, fR)) ∧ (¬ (f r 1) = 0 → ((¬ (f r 2) = 0 → Q (some (.int (nI 0))) (sh, f, g, fR)) ∧ ((f r 2) = 0 → Q (some (.int (nI 1))) (sh, f, g, fR)))))) :
    Cl l G d 0 0 mX8_isAlive [.ref r] (sh, f, g, fR) Q := by
  refine Cl.of (L0 := [some (.ref r)]) miX8_isAlive rfl rfl ?_
  refine S_aload_n (pc := 0) dX8_isAlive_0 rfl rfl ?_
  refine S_get (pc := 1) (v := .int (f r 1)) dX8_isAlive_1 flX8_13 hr.1 rfl ?_
  refine S_if_eq (pc := 4) (tgt := 18) dX8_isAlive_4 rfl (fun hc1 => ?_) (fun hc1 => ?_)
  · replace H := H.1 hc1
    refine S_iconst (pc := 18) dX8_isAlive_18 ic0 ?_
    exact S_zreturn dX8_isAlive_19 rfl (Or.inl rfl) H
  · replace H := H.2 hc1
    refine S_aload_n (pc := 7) dX8_isAlive_7 rfl rfl ?_
    refine S_get (pc := 8) (v := .int (f r 2)) dX8_isAlive_8 flX8_17 hr.1 rfl ?_
    refine S_if_ne (pc := 11) (tgt := 18) dX8_isAlive_11 rfl (fun hc2 => ?_) (fun hc2 => ?_)
    · replace H := H.1 hc2
      refine S_iconst (pc := 18) dX8_isAlive_18 ic0 ?_
      exact S_zreturn dX8_isAlive_19 rfl (Or.inl rfl) H
    · replace H := H.2 hc2
      refine S_iconst (pc := 14) dX8_isAlive_14 ic1 ?_
      refine S_goto (pc := 15) (tgt := 19) dX8_isAlive_15 rfl ?_
      exact S_zreturn dX8_isAlive_19 rfl (Or.inr rfl) H
set_option maxHeartbeats 2000000 in
set_option maxRecDepth 4000 in
theorem VX8_hasRoom {l : Launch} {G : Gx} {d : Nat} {Q : Option Value → Hp → Prop} {sh : Sh} {fR : FRt} {r : Nat} {f : FI} {g : FL}  (hr : sh[r]? = some (8, 8) ∧ 0 < r)
    (H : Cl l G d 0 0 mX8_isAlive [.ref r] (sh, f, g, fR) (qi sh fR fun x3 f1 g2 => ((x3 = 0 → Q (some (.int (nI 0))) (sh, f1, g2, fR)) ∧ (¬ x3 = 0 → (((f1 r 3) ≤ ((nI 1000) * (f1 r 5)) → Q (some (.int (nI 0))) (sh, f1, g2, fR)) ∧ (¬ (f1 r 3) ≤ ((nI 1000) * (f1 r 5)) → Q (some (.int (nI 1))) (sh, f1, g2, fR))))))) :
    Cl l G (d + 1) 0 0 mX8_hasRoom [.ref r] (sh, f, g, fR) Q := by
  refine Cl.of (L0 := [some (.ref r)]) miX8_hasRoom rfl rfl ?_
  refine S_aload_n (pc := 0) dX8_hasRoom_0 rfl rfl ?_
  refine S_callV (As := []) (mc := 0) (ms := 0) (pc := 1) dX8_hasRoom_1 miX8_isAlive mvX8_isAlive mlX8_35 rfl hr.1 rfl rfl rfl (RmOK.of rfl) H ?_
  rintro _ _ ⟨x3, f1, g2, rfl, rfl, H⟩
  show WP _ _ _ _ _ _ _ 4 [some (.ref r)] [.int x3] (sh, f1, g2, fR)
  refine S_if_eq (pc := 4) (tgt := 26) dX8_hasRoom_4 rfl (fun hc4 => ?_) (fun hc4 => ?_)
  · replace H := H.1 hc4
    refine S_iconst (pc := 26) dX8_hasRoom_26 ic0 ?_
    exact S_zreturn dX8_hasRoom_27 rfl (Or.inl rfl) H
  · replace H := H.2 hc4
    refine S_sipush (pc := 7) dX8_hasRoom_7 sp1000 ?_
    refine S_aload_n (pc := 10) dX8_hasRoom_10 rfl rfl ?_
    refine S_get (pc := 11) (v := .int (f1 r 5)) dX8_hasRoom_11 flX8_26 hr.1 rfl ?_
    refine S_imul (pc := 14) dX8_hasRoom_14 ?_
    refine S_aload_n (pc := 15) dX8_hasRoom_15 rfl rfl ?_
    refine S_get (pc := 16) (v := .int (f1 r 3)) dX8_hasRoom_16 flX8_20 hr.1 rfl ?_
    refine S_icmp_ge (pc := 19) (tgt := 26) dX8_hasRoom_19 rfl (fun hc5 => ?_) (fun hc5 => ?_)
    · replace H := H.1 hc5
      refine S_iconst (pc := 26) dX8_hasRoom_26 ic0 ?_
      exact S_zreturn dX8_hasRoom_27 rfl (Or.inl rfl) H
    · replace H := H.2 hc5
      refine S_iconst (pc := 22) dX8_hasRoom_22 ic1 ?_
      refine S_goto (pc := 23) (tgt := 27) dX8_hasRoom_23 rfl ?_
      exact S_zreturn dX8_hasRoom_27 rfl (Or.inr rfl) H
set_option maxHeartbeats 2000000 in
set_option maxRecDepth 4000 in
theorem VX8_grow {l : Launch} {G : Gx} {d : Nat} {Q : Option Value → Hp → Prop} {sh : Sh} {fR : FRt} {r : Nat} {f : FI} {g : FL} {a1 : Int32} (hr : sh[r]? = some (8, 8) ∧ 0 < r)
    (H : Cl l G d 0 0 mJ_min [.int ((f r 3) + a1), .int (nI 99000)] (sh, f, g, fR) (qi sh fR fun x3 f1 g2 => Q none (sh, (up2 f1 r 3 x3), g2, fR))) :
    Cl l G (d + 1) 0 0 mX8_grow [.ref r, .int a1] (sh, f, g, fR) Q := by
  refine Cl.of (L0 := [some (.ref r), some (.int a1)]) miX8_grow rfl rfl ?_
  refine S_aload_n (pc := 0) dX8_grow_0 rfl rfl ?_
  refine S_aload_n (pc := 1) dX8_grow_1 rfl rfl ?_
  refine S_get (pc := 2) (v := .int (f r 3)) dX8_grow_2 flX8_20 hr.1 rfl ?_
  refine S_iload_n (pc := 5) dX8_grow_5 rfl rfl ?_
  refine S_iadd (pc := 6) dX8_grow_6 ?_
  refine S_ldc (pc := 7) (v := nI 99000) dX8_grow_7 (gw 917 rfl rfl) ?_
  refine S_callSJ (As := [.int ((f r 3) + a1), .int (nI 99000)]) (mc := 0) (ms := 0) (pc := 9) dX8_grow_9 miJ_min mvJ_min mlX8_40 rfl rfl (RmOK.of rfl) H ?_
  rintro _ _ ⟨x3, f1, g2, rfl, rfl, H⟩
  show WP _ _ _ _ _ _ _ 12 [some (.ref r), some (.int a1)] [.int x3, .ref r] (sh, f1, g2, fR)
  refine S_putI (pc := 12) dX8_grow_12 flX8_20 hr.1 hr.2 (nf_8_3) rfl rfl (fun _ => rfl) ?_
  exact S_vreturn dX8_grow_15 rfl H
set_option maxHeartbeats 2000000 in
set_option maxRecDepth 4000 in
theorem VX8_halve {l : Launch} {G : Gx} {d : Nat} {Q : Option Value → Hp → Prop} {sh : Sh} {fR : FRt} {r : Nat} {f : FI} {g : FL}  (hr : sh[r]? = some (8, 8) ∧ 0 < r)
    (H : Cl l G d 0 0 mJ_max [.int ((f r 3) / (nI 2)), .int (nI 1000)] (sh, f, g, fR) (qi sh fR fun x3 f1 g2 => Q none (sh, (up2 f1 r 3 x3), g2, fR))) :
    Cl l G (d + 1) 0 0 mX8_halve [.ref r] (sh, f, g, fR) Q := by
  refine Cl.of (L0 := [some (.ref r)]) miX8_halve rfl rfl ?_
  refine S_aload_n (pc := 0) dX8_halve_0 rfl rfl ?_
  refine S_aload_n (pc := 1) dX8_halve_1 rfl rfl ?_
  refine S_get (pc := 2) (v := .int (f r 3)) dX8_halve_2 flX8_20 hr.1 rfl ?_
  refine S_iconst (pc := 5) dX8_halve_5 ic2 ?_
  refine S_idiv (pc := 6) dX8_halve_6 (by decide) ?_
  refine S_sipush (pc := 7) dX8_halve_7 sp1000 ?_
  refine S_callSJ (As := [.int ((f r 3) / (nI 2)), .int (nI 1000)]) (mc := 0) (ms := 0) (pc := 10) dX8_halve_10 miJ_max mvJ_max mlX8_46 rfl rfl (RmOK.of rfl) H ?_
  rintro _ _ ⟨x3, f1, g2, rfl, rfl, H⟩
  show WP _ _ _ _ _ _ _ 13 [some (.ref r)] [.int x3, .ref r] (sh, f1, g2, fR)
  refine S_putI (pc := 13) dX8_halve_13 flX8_20 hr.1 hr.2 (nf_8_3) rfl rfl (fun _ => rfl) ?_
  exact S_vreturn dX8_halve_16 rfl H
set_option maxHeartbeats 2000000 in
set_option maxRecDepth 4000 in
theorem VX1_drawOf {l : Launch} {G : Gx} {d : Nat} {Q : Option Value → Hp → Prop} {sh : Sh} {fR : FRt} {r : Nat} {f : FI} {g : FL} {a1 : Int32} (hr : sh[r]? = some (1, 1) ∧ 0 < r)
    (H : ((a1 ≤ 0 → Q (some (.int (nI 0))) (sh, (up2 f r 0 (((((lN 1103515245) * ((f r 0).toInt64)) + (lN 12345)) &&& (lN 2147483647)).toInt32)), g, fR)) ∧ (¬ a1 ≤ 0 → ¬ a1 = 0 ∧ Q (some (.int (((((((lN 1103515245) * ((f r 0).toInt64)) + (lN 12345)) &&& (lN 2147483647)).toInt32) / (nI 64)) - ((((((lN 1103515245) * ((f r 0).toInt64)) + (lN 12345)) &&& (lN 2147483647)).toInt32) / (nI 64)) / a1 * a1))) (sh, (up2 f r 0 (((((lN 1103515245) * ((f r 0).toInt64)) + (lN 12345)) &&& (lN 2147483647)).toInt32)), g, fR)))) :
    Cl l G d 0 0 mX1_drawOf [.ref r, .int a1] (sh, f, g, fR) Q := by
  refine Cl.of (L0 := [some (.ref r), some (.int a1)]) miX1_drawOf rfl rfl ?_
  refine S_aload_n (pc := 0) dX1_drawOf_0 rfl rfl ?_
  refine S_ldc2 (pc := 1) (v := lN 1103515245) dX1_drawOf_1 (gw 1027 rfl rfl) ?_
  refine S_aload_n (pc := 4) dX1_drawOf_4 rfl rfl ?_
  refine S_get (pc := 5) (v := .int (f r 0)) dX1_drawOf_5 flX1_7 hr.1 rfl ?_
  refine S_i2l (pc := 8) dX1_drawOf_8 ?_
  refine S_lmul (pc := 9) dX1_drawOf_9 ?_
  refine S_ldc2 (pc := 10) (v := lN 12345) dX1_drawOf_10 (gw 1028 rfl rfl) ?_
  refine S_ladd (pc := 13) dX1_drawOf_13 ?_
  refine S_ldc2 (pc := 14) (v := lN 2147483647) dX1_drawOf_14 (gw 1029 rfl rfl) ?_
  refine S_land (pc := 17) dX1_drawOf_17 ?_
  refine S_l2i (pc := 18) dX1_drawOf_18 ?_
  refine S_putI (pc := 19) dX1_drawOf_19 flX1_7 hr.1 hr.2 (nf_1_0) rfl rfl (fun _ => rfl) ?_
  refine S_iload_n (pc := 22) dX1_drawOf_22 rfl rfl ?_
  refine S_if_le (pc := 23) (tgt := 38) dX1_drawOf_23 rfl (fun hc1 => ?_) (fun hc1 => ?_)
  · replace H := H.1 hc1
    refine S_iconst (pc := 38) dX1_drawOf_38 ic0 ?_
    exact S_ireturn dX1_drawOf_39 rfl H
  · replace H := H.2 hc1
    refine S_aload_n (pc := 26) dX1_drawOf_26 rfl rfl ?_
    refine S_get (pc := 27) (v := .int ((up2 f r 0 (((((lN 1103515245) * ((f r 0).toInt64)) + (lN 12345)) &&& (lN 2147483647)).toInt32)) r 0)) dX1_drawOf_27 flX1_7 hr.1 rfl ?_
    refine S_eqi (x := ((((lN 1103515245) * ((f r 0).toInt64)) + (lN 12345)) &&& (lN 2147483647)).toInt32) up2_eq ?_
    refine S_bipush (pc := 30) dX1_drawOf_30 bp64 ?_
    refine S_idiv (pc := 32) dX1_drawOf_32 (by decide) ?_
    refine S_iload_n (pc := 33) dX1_drawOf_33 rfl rfl ?_
    obtain ⟨hc2, H⟩ := H
    refine S_irem (pc := 34) dX1_drawOf_34 hc2 ?_
    refine S_goto (pc := 35) (tgt := 39) dX1_drawOf_35 rfl ?_
    exact S_ireturn dX1_drawOf_39 rfl H
set_option maxHeartbeats 2000000 in
set_option maxRecDepth 4000 in
theorem VX3_isTold {l : Launch} {G : Gx} {d : Nat} {Q : Option Value → Hp → Prop} {sh : Sh} {fR : FRt} {q : Nat} {f : FI} {g : FL}  (hs : StF sh fR q)
    (H : (((f q 2) ≤ 0 → Q (some (.int (nI 0))) (sh, f, g, fR)) ∧ (¬ (f q 2) ≤ 0 → Q (some (.int (nI 1))) (sh, f, g, fR)))) :
    Cl l G d 0 0 mX3_isTold [.ref q] (sh, f, g, fR) Q := by
  refine Cl.of (L0 := [some (.ref q)]) miX3_isTold rfl rfl ?_
  refine S_aload_n (pc := 0) dX3_isTold_0 rfl rfl ?_
  refine S_get (pc := 1) (v := .int (f q 2)) dX3_isTold_1 flX3_18 (sF_0 hs) rfl ?_
  refine S_if_le (pc := 4) (tgt := 11) dX3_isTold_4 rfl (fun hc1 => ?_) (fun hc1 => ?_)
  · replace H := H.1 hc1
    refine S_iconst (pc := 11) dX3_isTold_11 ic0 ?_
    exact S_zreturn dX3_isTold_12 rfl (Or.inl rfl) H
  · replace H := H.2 hc1
    refine S_iconst (pc := 7) dX3_isTold_7 ic1 ?_
    refine S_goto (pc := 8) (tgt := 12) dX3_isTold_8 rfl ?_
    exact S_zreturn dX3_isTold_12 rfl (Or.inr rfl) H
set_option maxHeartbeats 2000000 in
set_option maxRecDepth 4000 in
theorem VX3_put {l : Launch} {G : Gx} {d : Nat} {Q : Option Value → Hp → Prop} {sh : Sh} {fR : FRt} {q : Nat} {f : FI} {g : FL} {a1 : Int32} {a2 : Int32} (hs : StF sh fR q)
    (H : (((nI 1600) ≤ (f q 2) → Q none (sh, f, g, fR)) ∧ (¬ (nI 1600) ≤ (f q 2) → inb (f q 2) 1600 ∧ Q none (sh, (up2 (up2 f (q + 1) (f q 2).toNatClampNeg ((a1 <<< ((nI 16) &&& 31)) ||| a2)) q 2 ((f q 2) + (nI 1))), g, fR)))) :
    Cl l G d 0 0 mX3_put [.ref q, .int a1, .int a2] (sh, f, g, fR) Q := by
  refine Cl.of (L0 := [some (.ref q), some (.int a1), some (.int a2)]) miX3_put rfl rfl ?_
  refine S_aload_n (pc := 0) dX3_put_0 rfl rfl ?_
  refine S_get (pc := 1) (v := .int (f q 2)) dX3_put_1 flX3_18 (sF_0 hs) rfl ?_
  refine S_sipush (pc := 4) dX3_put_4 sp1600 ?_
  refine S_icmp_ge (pc := 7) (tgt := 35) dX3_put_7 rfl (fun hc1 => ?_) (fun hc1 => ?_)
  · replace H := H.1 hc1
    exact S_vreturn dX3_put_35 rfl H
  · replace H := H.2 hc1
    refine S_aload_n (pc := 10) dX3_put_10 rfl rfl ?_
    refine S_getR (pc := 11) dX3_put_11 flX3_9 (sF_0 hs) rfl (rF_0_0 hs) ?_
    refine S_aload_n (pc := 14) dX3_put_14 rfl rfl ?_
    refine S_get (pc := 15) (v := .int (f q 2)) dX3_put_15 flX3_18 (sF_0 hs) rfl ?_
    refine S_iload_n (pc := 18) dX3_put_18 rfl rfl ?_
    refine S_bipush (pc := 19) dX3_put_19 bp16 ?_
    refine S_ishl (pc := 21) dX3_put_21 ?_
    refine S_iload_n (pc := 22) dX3_put_22 rfl rfl ?_
    refine S_ior (pc := 23) dX3_put_23 ?_
    obtain ⟨hb2, H⟩ := H
    refine S_iast (pc := 24) dX3_put_24 (sF_1 hs) (Nat.succ_pos _) hb2 ?_
    refine S_aload_n (pc := 25) dX3_put_25 rfl rfl ?_
    refine S_dup (pc := 26) dX3_put_26 rfl ?_
    refine S_get (pc := 27) (v := .int ((up2 f (q + 1) (f q 2).toNatClampNeg ((a1 <<< ((nI 16) &&& 31)) ||| a2)) q 2)) dX3_put_27 flX3_18 (sF_0 hs) rfl ?_
    refine S_eqi (x := f q 2) ((up2_r (by omega)).trans rfl) ?_
    refine S_iconst (pc := 30) dX3_put_30 ic1 ?_
    refine S_iadd (pc := 31) dX3_put_31 ?_
    refine S_putI (pc := 32) dX3_put_32 flX3_18 (sF_0 hs) hs.2.2 (nf_3_2) rfl rfl (fun _ => rfl) ?_
    exact S_vreturn dX3_put_35 rfl H
abbrev LpX3_valueBy_4 (l : Launch) (G : Gx) (d : Nat) (Q : Option Value → Hp → Prop) (sh : Sh) (fR : FRt) (q e : Nat) (f : FI) (g : FL) (a2 : Int32) (a3 : Int32) : Prop := WP l G (Zq G 0 0 Q) mX3_valueBy (rmd (d + 2) 0 0) 0 0 4 [some (.ref q), some (.ref e), some (.int a2), some (.int a3), none, none] [] (sh, f, g, fR)
abbrev LpX3_valueBy_45 (l : Launch) (G : Gx) (d : Nat) (Q : Option Value → Hp → Prop) (sh : Sh) (fR : FRt) (q e : Nat) (f : FI) (g : FL) (a2 : Int32) (a3 : Int32) (a4 : Int32) (a5 : Int32) : Prop := WP l G (Zq G 0 0 Q) mX3_valueBy (rmd (d + 2) 0 0) 0 0 45 [some (.ref q), some (.ref e), some (.int a2), some (.int a3), some (.int a4), some (.int a5)] [] (sh, f, g, fR)
abbrev LpX3_valueBy_205 (l : Launch) (G : Gx) (d : Nat) (Q : Option Value → Hp → Prop) (sh : Sh) (fR : FRt) (q e : Nat) (f : FI) (g : FL) (a2 : Int32) (a3 : Int32) : Prop := WP l G (Zq G 0 0 Q) mX3_valueBy (rmd (d + 2) 0 0) 0 0 205 [some (.ref q), some (.ref e), some (.int a2), some (.int a3), none, none] [] (sh, f, g, fR)
set_option maxHeartbeats 2000000 in
set_option maxRecDepth 4000 in
theorem VX3_valueBy {l : Launch} {G : Gx} {d : Nat} {Q : Option Value → Hp → Prop} {sh : Sh} {fR : FRt} {q e : Nat} {f : FI} {g : FL}  (hs : StF sh fR q) (he : sh[e]? = some (20, 10))
    (H : LpX3_valueBy_4 l G d Q sh fR q e f g (nI 0) (nI 0)) :
    Cl l G (d + 2) 0 0 mX3_valueBy [.ref q, .ref e] (sh, f, g, fR) Q := by
  refine Cl.of (L0 := [some (.ref q), some (.ref e), none, none, none, none]) miX3_valueBy rfl rfl ?_
  refine S_iconst (pc := 0) dX3_valueBy_0 ic0 ?_
  refine S_istore_n (pc := 1) (L' := [some (.ref q), some (.ref e), some (.int (nI 0)), none, none, none]) dX3_valueBy_1 rfl (by decide) rfl ?_
  refine S_iconst (pc := 2) dX3_valueBy_2 ic0 ?_
  refine S_istore_n (pc := 3) (L' := [some (.ref q), some (.ref e), some (.int (nI 0)), some (.int (nI 0)), none, none]) dX3_valueBy_3 rfl (by decide) rfl ?_
  exact H
set_option maxHeartbeats 2000000 in
set_option maxRecDepth 4000 in
theorem VX3_valueBy_4 {l : Launch} {G : Gx} {d : Nat} {Q : Option Value → Hp → Prop} {sh : Sh} {fR : FRt} {q e : Nat} {f : FI} {g : FL} {a2 : Int32} {a3 : Int32} (hs : StF sh fR q) (he : sh[e]? = some (20, 10))
    (H : (((f q 2) ≤ a3 → ((a2 ≤ 0 → Q (some (.int (nI 0))) (sh, f, g, fR)) ∧ (¬ a2 ≤ 0 → inb (a2 - (nI 1)) 96 ∧ Q (some (.int (f (q + 2) (a2 - (nI 1)).toNatClampNeg))) (sh, f, g, fR)))) ∧ (¬ (f q 2) ≤ a3 → inb a3 1600 ∧ (∀ w5 : Int32, w5 = (f (q + 1) a3.toNatClampNeg) >>> ((nI 16) &&& 31) → inb a3 1600 ∧ (∀ w8 : Int32, w8 = (f (q + 1) a3.toNatClampNeg) &&& (nI 65535) → ((w5 = 0 → LpX3_valueBy_45 l G d Q sh fR q e f g a2 a3 w5 w8) ∧ (¬ w5 = 0 → ((¬ w5 = (nI 1) → ((¬ w5 = (nI 2) → ((¬ w5 = (nI 3) → (((nI 2) ≤ a2 → inb ((a2 + (-1)) - (nI 1)) 96 ∧ inb (a2 + (-1)) 96 ∧ Cl l G (d + 1) 0 0 mX3_joinedBy [.int w5, .int (f (q + 2) ((a2 + (-1)) - (nI 1)).toNatClampNeg), .int (f (q + 2) (a2 + (-1)).toNatClampNeg)] (sh, f, g, fR) (qi sh fR fun x19 f17 g18 => inb ((a2 + (-1)) - (nI 1)) 96 ∧ LpX3_valueBy_205 l G d Q sh fR q e (up2 f17 (q + 2) ((a2 + (-1)) - (nI 1)).toNatClampNeg x19) g18 (a2 + (-1)) a3)) ∧ (¬ (nI 2) ≤ a2 → Q (some (.int (nI 0))) (sh, f, g, fR)))) ∧ (w5 = (nI 3) → (((nI 3) ≤ a2 → inb ((a2 + (-2)) - (nI 1)) 96 ∧ (((f (q + 2) ((a2 + (-2)) - (nI 1)).toNatClampNeg) = 0 → inb ((a2 + (-2)) + (nI 1)) 96 ∧ inb ((a2 + (-2)) - (nI 1)) 96 ∧ LpX3_valueBy_205 l G d Q sh fR q e (up2 f (q + 2) ((a2 + (-2)) - (nI 1)).toNatClampNeg (f (q + 2) ((a2 + (-2)) + (nI 1)).toNatClampNeg)) g (a2 + (-2)) a3) ∧ (¬ (f (q + 2) ((a2 + (-2)) - (nI 1)).toNatClampNeg) = 0 → inb (a2 + (-2)) 96 ∧ inb ((a2 + (-2)) - (nI 1)) 96 ∧ LpX3_valueBy_205 l G d Q sh fR q e (up2 f (q + 2) ((a2 + (-2)) - (nI 1)).toNatClampNeg (f (q + 2) (a2 + (-2)).toNatClampNeg)) g (a2 + (-2)) a3))) ∧ (¬ (nI 3) ≤ a2 → Q (some (.int (nI 0))) (sh, f, g, fR)))))) ∧ (w5 = (nI 2) → (((nI 1) ≤ a2 → inb (a2 - (nI 1)) 96 ∧ inb (a2 - (nI 1)) 96 ∧ LpX3_valueBy_205 l G d Q sh fR q e (up2 f (q + 2) (a2 - (nI 1)).toNatClampNeg ((nI 1) - (f (q + 2) (a2 - (nI 1)).toNatClampNeg))) g a2 a3) ∧ (¬ (nI 1) ≤ a2 → Q (some (.int (nI 0))) (sh, f, g, fR)))))) ∧ (w5 = (nI 1) → LpX3_valueBy_45 l G d Q sh fR q e f g a2 a3 w5 w8))))))))) :
    LpX3_valueBy_4 l G d Q sh fR q e f g a2 a3 := by
  refine S_iload_n (pc := 4) dX3_valueBy_4 rfl rfl ?_
  refine S_aload_n (pc := 5) dX3_valueBy_5 rfl rfl ?_
  refine S_get (pc := 6) (v := .int (f q 2)) dX3_valueBy_6 flX3_18 (sF_0 hs) rfl ?_
  refine S_icmp_ge (pc := 9) (tgt := 211) dX3_valueBy_9 rfl (fun hc1 => ?_) (fun hc1 => ?_)
  · replace H := H.1 hc1
    refine S_iload_n (pc := 211) dX3_valueBy_211 rfl rfl ?_
    refine S_if_le (pc := 212) (tgt := 226) dX3_valueBy_212 rfl (fun hc2 => ?_) (fun hc2 => ?_)
    · replace H := H.1 hc2
      refine S_iconst (pc := 226) dX3_valueBy_226 ic0 ?_
      exact S_ireturn dX3_valueBy_227 rfl H
    · replace H := H.2 hc2
      refine S_aload_n (pc := 215) dX3_valueBy_215 rfl rfl ?_
      refine S_getR (pc := 216) dX3_valueBy_216 flX3_15 (sF_0 hs) rfl (rF_0_1 hs) ?_
      refine S_iload_n (pc := 219) dX3_valueBy_219 rfl rfl ?_
      refine S_iconst (pc := 220) dX3_valueBy_220 ic1 ?_
      refine S_isub (pc := 221) dX3_valueBy_221 ?_
      obtain ⟨hb3, H⟩ := H
      refine S_iald (pc := 222) dX3_valueBy_222 (sF_2 hs) hb3 ?_
      refine S_goto (pc := 223) (tgt := 227) dX3_valueBy_223 rfl ?_
      exact S_ireturn dX3_valueBy_227 rfl H
  · replace H := H.2 hc1
    refine S_aload_n (pc := 12) dX3_valueBy_12 rfl rfl ?_
    refine S_getR (pc := 13) dX3_valueBy_13 flX3_9 (sF_0 hs) rfl (rF_0_0 hs) ?_
    refine S_iload_n (pc := 16) dX3_valueBy_16 rfl rfl ?_
    obtain ⟨hb4, H⟩ := H
    refine S_iald (pc := 17) dX3_valueBy_17 (sF_1 hs) hb4 ?_
    refine S_bipush (pc := 18) dX3_valueBy_18 bp16 ?_
    refine S_ishr (pc := 20) dX3_valueBy_20 ?_
    refine S_namei (fun w5 e6 => ?_)
    replace H := H w5 e6
    refine S_istore (pc := 21) (L' := [some (.ref q), some (.ref e), some (.int a2), some (.int a3), some (.int w5), none]) dX3_valueBy_21 (by decide) rfl ?_
    refine S_aload_n (pc := 23) dX3_valueBy_23 rfl rfl ?_
    refine S_getR (pc := 24) dX3_valueBy_24 flX3_9 (sF_0 hs) rfl (rF_0_0 hs) ?_
    refine S_iload_n (pc := 27) dX3_valueBy_27 rfl rfl ?_
    obtain ⟨hb7, H⟩ := H
    refine S_iald (pc := 28) dX3_valueBy_28 (sF_1 hs) hb7 ?_
    refine S_ldc (pc := 29) (v := nI 65535) dX3_valueBy_29 (gw 799 rfl rfl) ?_
    refine S_iand (pc := 31) dX3_valueBy_31 ?_
    refine S_namei (fun w8 e9 => ?_)
    replace H := H w8 e9
    refine S_istore (pc := 32) (L' := [some (.ref q), some (.ref e), some (.int a2), some (.int a3), some (.int w5), some (.int w8)]) dX3_valueBy_32 (by decide) rfl ?_
    refine S_iload (pc := 34) dX3_valueBy_34 rfl ?_
    refine S_if_eq (pc := 36) (tgt := 45) dX3_valueBy_36 rfl (fun hc10 => ?_) (fun hc10 => ?_)
    · replace H := H.1 hc10
      exact H
    · replace H := H.2 hc10
      refine S_iload (pc := 39) dX3_valueBy_39 rfl ?_
      refine S_iconst (pc := 41) dX3_valueBy_41 ic1 ?_
      refine S_icmp_ne (pc := 42) (tgt := 79) dX3_valueBy_42 rfl (fun hc11 => ?_) (fun hc11 => ?_)
      · replace H := H.1 hc11
        refine S_iload (pc := 79) dX3_valueBy_79 rfl ?_
        refine S_iconst (pc := 81) dX3_valueBy_81 ic2 ?_
        refine S_icmp_ne (pc := 82) (tgt := 113) dX3_valueBy_82 rfl (fun hc12 => ?_) (fun hc12 => ?_)
        · replace H := H.1 hc12
          refine S_iload (pc := 113) dX3_valueBy_113 rfl ?_
          refine S_iconst (pc := 115) dX3_valueBy_115 ic3 ?_
          refine S_icmp_ne (pc := 116) (tgt := 168) dX3_valueBy_116 rfl (fun hc13 => ?_) (fun hc13 => ?_)
          · replace H := H.1 hc13
            refine S_iload_n (pc := 168) dX3_valueBy_168 rfl rfl ?_
            refine S_iconst (pc := 169) dX3_valueBy_169 ic2 ?_
            refine S_icmp_ge (pc := 170) (tgt := 175) dX3_valueBy_170 rfl (fun hc14 => ?_) (fun hc14 => ?_)
            · replace H := H.1 hc14
              refine S_iinc (pc := 175) (v := (-1)) (L' := [some (.ref q), some (.ref e), some (.int (a2 + (-1))), some (.int a3), some (.int w5), some (.int w8)]) dX3_valueBy_175 rfl icm1 rfl ?_
              refine S_aload_n (pc := 178) dX3_valueBy_178 rfl rfl ?_
              refine S_getR (pc := 179) dX3_valueBy_179 flX3_15 (sF_0 hs) rfl (rF_0_1 hs) ?_
              refine S_iload_n (pc := 182) dX3_valueBy_182 rfl rfl ?_
              refine S_iconst (pc := 183) dX3_valueBy_183 ic1 ?_
              refine S_isub (pc := 184) dX3_valueBy_184 ?_
              refine S_iload (pc := 185) dX3_valueBy_185 rfl ?_
              refine S_aload_n (pc := 187) dX3_valueBy_187 rfl rfl ?_
              refine S_getR (pc := 188) dX3_valueBy_188 flX3_15 (sF_0 hs) rfl (rF_0_1 hs) ?_
              refine S_iload_n (pc := 191) dX3_valueBy_191 rfl rfl ?_
              refine S_iconst (pc := 192) dX3_valueBy_192 ic1 ?_
              refine S_isub (pc := 193) dX3_valueBy_193 ?_
              obtain ⟨hb15, H⟩ := H
              refine S_iald (pc := 194) dX3_valueBy_194 (sF_2 hs) hb15 ?_
              refine S_aload_n (pc := 195) dX3_valueBy_195 rfl rfl ?_
              refine S_getR (pc := 196) dX3_valueBy_196 flX3_15 (sF_0 hs) rfl (rF_0_1 hs) ?_
              refine S_iload_n (pc := 199) dX3_valueBy_199 rfl rfl ?_
              obtain ⟨hb16, H⟩ := H
              refine S_iald (pc := 200) dX3_valueBy_200 (sF_2 hs) hb16 ?_
              refine S_callS (As := [.int w5, .int (f (q + 2) ((a2 + (-1)) - (nI 1)).toNatClampNeg), .int (f (q + 2) (a2 + (-1)).toNatClampNeg)]) (mc := 0) (ms := 0) (pc := 201) dX3_valueBy_201 miX3_joinedBy mvX3_joinedBy mlX3_23 rfl rfl (RmOK.of rfl) H ?_
              rintro _ _ ⟨x19, f17, g18, rfl, rfl, H⟩
              show WP _ _ _ _ _ _ _ 204 [some (.ref q), some (.ref e), some (.int (a2 + (-1))), some (.int a3), some (.int w5), some (.int w8)] [.int x19, .int ((a2 + (-1)) - (nI 1)), .ref (q + 2)] (sh, f17, g18, fR)
              obtain ⟨hb20, H⟩ := H
              refine S_iast (pc := 204) dX3_valueBy_204 (sF_2 hs) (Nat.succ_pos _) hb20 ?_
              exact S_weak (L' := [some (.ref q), some (.ref e), some (.int (a2 + (-1))), some (.int a3), none, none]) (ls_e (ls_e (ls_e (ls_e (ls_n (ls_n ls_0)))))) H
            · replace H := H.2 hc14
              refine S_iconst (pc := 173) dX3_valueBy_173 ic0 ?_
              exact S_ireturn dX3_valueBy_174 rfl H
          · replace H := H.2 hc13
            refine S_iload_n (pc := 119) dX3_valueBy_119 rfl rfl ?_
            refine S_iconst (pc := 120) dX3_valueBy_120 ic3 ?_
            refine S_icmp_ge (pc := 121) (tgt := 126) dX3_valueBy_121 rfl (fun hc21 => ?_) (fun hc21 => ?_)
            · replace H := H.1 hc21
              refine S_iinc (pc := 126) (v := (-2)) (L' := [some (.ref q), some (.ref e), some (.int (a2 + (-2))), some (.int a3), some (.int w5), some (.int w8)]) dX3_valueBy_126 rfl icm2 rfl ?_
              refine S_aload_n (pc := 129) dX3_valueBy_129 rfl rfl ?_
              refine S_getR (pc := 130) dX3_valueBy_130 flX3_15 (sF_0 hs) rfl (rF_0_1 hs) ?_
              refine S_iload_n (pc := 133) dX3_valueBy_133 rfl rfl ?_
              refine S_iconst (pc := 134) dX3_valueBy_134 ic1 ?_
              refine S_isub (pc := 135) dX3_valueBy_135 ?_
              refine S_aload_n (pc := 136) dX3_valueBy_136 rfl rfl ?_
              refine S_getR (pc := 137) dX3_valueBy_137 flX3_15 (sF_0 hs) rfl (rF_0_1 hs) ?_
              refine S_iload_n (pc := 140) dX3_valueBy_140 rfl rfl ?_
              refine S_iconst (pc := 141) dX3_valueBy_141 ic1 ?_
              refine S_isub (pc := 142) dX3_valueBy_142 ?_
              obtain ⟨hb22, H⟩ := H
              refine S_iald (pc := 143) dX3_valueBy_143 (sF_2 hs) hb22 ?_
              refine S_if_eq (pc := 144) (tgt := 156) dX3_valueBy_144 rfl (fun hc23 => ?_) (fun hc23 => ?_)
              · replace H := H.1 hc23
                refine S_aload_n (pc := 156) dX3_valueBy_156 rfl rfl ?_
                refine S_getR (pc := 157) dX3_valueBy_157 flX3_15 (sF_0 hs) rfl (rF_0_1 hs) ?_
                refine S_iload_n (pc := 160) dX3_valueBy_160 rfl rfl ?_
                refine S_iconst (pc := 161) dX3_valueBy_161 ic1 ?_
                refine S_iadd (pc := 162) dX3_valueBy_162 ?_
                obtain ⟨hb24, H⟩ := H
                refine S_iald (pc := 163) dX3_valueBy_163 (sF_2 hs) hb24 ?_
                obtain ⟨hb25, H⟩ := H
                refine S_iast (pc := 164) dX3_valueBy_164 (sF_2 hs) (Nat.succ_pos _) hb25 ?_
                refine S_goto (pc := 165) (tgt := 205) dX3_valueBy_165 rfl ?_
                exact S_weak (L' := [some (.ref q), some (.ref e), some (.int (a2 + (-2))), some (.int a3), none, none]) (ls_e (ls_e (ls_e (ls_e (ls_n (ls_n ls_0)))))) H
              · replace H := H.2 hc23
                refine S_aload_n (pc := 147) dX3_valueBy_147 rfl rfl ?_
                refine S_getR (pc := 148) dX3_valueBy_148 flX3_15 (sF_0 hs) rfl (rF_0_1 hs) ?_
                refine S_iload_n (pc := 151) dX3_valueBy_151 rfl rfl ?_
                obtain ⟨hb26, H⟩ := H
                refine S_iald (pc := 152) dX3_valueBy_152 (sF_2 hs) hb26 ?_
                refine S_goto (pc := 153) (tgt := 164) dX3_valueBy_153 rfl ?_
                obtain ⟨hb27, H⟩ := H
                refine S_iast (pc := 164) dX3_valueBy_164 (sF_2 hs) (Nat.succ_pos _) hb27 ?_
                refine S_goto (pc := 165) (tgt := 205) dX3_valueBy_165 rfl ?_
                exact S_weak (L' := [some (.ref q), some (.ref e), some (.int (a2 + (-2))), some (.int a3), none, none]) (ls_e (ls_e (ls_e (ls_e (ls_n (ls_n ls_0)))))) H
            · replace H := H.2 hc21
              refine S_iconst (pc := 124) dX3_valueBy_124 ic0 ?_
              exact S_ireturn dX3_valueBy_125 rfl H
        · replace H := H.2 hc12
          refine S_iload_n (pc := 85) dX3_valueBy_85 rfl rfl ?_
          refine S_iconst (pc := 86) dX3_valueBy_86 ic1 ?_
          refine S_icmp_ge (pc := 87) (tgt := 92) dX3_valueBy_87 rfl (fun hc28 => ?_) (fun hc28 => ?_)
          · replace H := H.1 hc28
            refine S_aload_n (pc := 92) dX3_valueBy_92 rfl rfl ?_
            refine S_getR (pc := 93) dX3_valueBy_93 flX3_15 (sF_0 hs) rfl (rF_0_1 hs) ?_
            refine S_iload_n (pc := 96) dX3_valueBy_96 rfl rfl ?_
            refine S_iconst (pc := 97) dX3_valueBy_97 ic1 ?_
            refine S_isub (pc := 98) dX3_valueBy_98 ?_
            refine S_iconst (pc := 99) dX3_valueBy_99 ic1 ?_
            refine S_aload_n (pc := 100) dX3_valueBy_100 rfl rfl ?_
            refine S_getR (pc := 101) dX3_valueBy_101 flX3_15 (sF_0 hs) rfl (rF_0_1 hs) ?_
            refine S_iload_n (pc := 104) dX3_valueBy_104 rfl rfl ?_
            refine S_iconst (pc := 105) dX3_valueBy_105 ic1 ?_
            refine S_isub (pc := 106) dX3_valueBy_106 ?_
            obtain ⟨hb29, H⟩ := H
            refine S_iald (pc := 107) dX3_valueBy_107 (sF_2 hs) hb29 ?_
            refine S_isub (pc := 108) dX3_valueBy_108 ?_
            obtain ⟨hb30, H⟩ := H
            refine S_iast (pc := 109) dX3_valueBy_109 (sF_2 hs) (Nat.succ_pos _) hb30 ?_
            refine S_goto (pc := 110) (tgt := 205) dX3_valueBy_110 rfl ?_
            exact S_weak (L' := [some (.ref q), some (.ref e), some (.int a2), some (.int a3), none, none]) (ls_e (ls_e (ls_e (ls_e (ls_n (ls_n ls_0)))))) H
          · replace H := H.2 hc28
            refine S_iconst (pc := 90) dX3_valueBy_90 ic0 ?_
            exact S_ireturn dX3_valueBy_91 rfl H
      · replace H := H.2 hc11
        exact H
set_option maxHeartbeats 2000000 in
set_option maxRecDepth 4000 in
theorem VX3_valueBy_45 {l : Launch} {G : Gx} {d : Nat} {Q : Option Value → Hp → Prop} {sh : Sh} {fR : FRt} {q e : Nat} {f : FI} {g : FL} {a2 : Int32} {a3 : Int32} {a4 : Int32} {a5 : Int32} (hs : StF sh fR q) (he : sh[e]? = some (20, 10))
    (H : ((a2 < (nI 96) → ((¬ a4 = 0 → inb a5 10 ∧ inb a2 96 ∧ LpX3_valueBy_205 l G d Q sh fR q e (up2 f (q + 2) a2.toNatClampNeg (f e a5.toNatClampNeg)) g (a2 + nI 1) a3) ∧ (a4 = 0 → inb a2 96 ∧ LpX3_valueBy_205 l G d Q sh fR q e (up2 f (q + 2) a2.toNatClampNeg a5) g (a2 + nI 1) a3))) ∧ (¬ a2 < (nI 96) → Q (some (.int (nI 0))) (sh, f, g, fR)))) :
    LpX3_valueBy_45 l G d Q sh fR q e f g a2 a3 a4 a5 := by
  refine S_iload_n (pc := 45) dX3_valueBy_45 rfl rfl ?_
  refine S_bipush (pc := 46) dX3_valueBy_46 bp96 ?_
  refine S_icmp_lt (pc := 48) (tgt := 53) dX3_valueBy_48 rfl (fun hc31 => ?_) (fun hc31 => ?_)
  · replace H := H.1 hc31
    refine S_aload_n (pc := 53) dX3_valueBy_53 rfl rfl ?_
    refine S_getR (pc := 54) dX3_valueBy_54 flX3_15 (sF_0 hs) rfl (rF_0_1 hs) ?_
    refine S_iload_n (pc := 57) dX3_valueBy_57 rfl rfl ?_
    refine S_iload (pc := 58) dX3_valueBy_58 rfl ?_
    refine S_if_ne (pc := 60) (tgt := 68) dX3_valueBy_60 rfl (fun hc32 => ?_) (fun hc32 => ?_)
    · replace H := H.1 hc32
      refine S_aload_n (pc := 68) dX3_valueBy_68 rfl rfl ?_
      refine S_iload (pc := 69) dX3_valueBy_69 rfl ?_
      obtain ⟨hb33, H⟩ := H
      refine S_iald (pc := 71) dX3_valueBy_71 he hb33 ?_
      obtain ⟨hb34, H⟩ := H
      refine S_iast (pc := 72) dX3_valueBy_72 (sF_2 hs) (Nat.succ_pos _) hb34 ?_
      refine S_iinc (pc := 73) (v := nI 1) (L' := [some (.ref q), some (.ref e), some (.int (a2 + nI 1)), some (.int a3), some (.int a4), some (.int a5)]) dX3_valueBy_73 rfl ic1 rfl ?_
      refine S_goto (pc := 76) (tgt := 205) dX3_valueBy_76 rfl ?_
      exact S_weak (L' := [some (.ref q), some (.ref e), some (.int (a2 + nI 1)), some (.int a3), none, none]) (ls_e (ls_e (ls_e (ls_e (ls_n (ls_n ls_0)))))) H
    · replace H := H.2 hc32
      refine S_iload (pc := 63) dX3_valueBy_63 rfl ?_
      refine S_goto (pc := 65) (tgt := 72) dX3_valueBy_65 rfl ?_
      obtain ⟨hb35, H⟩ := H
      refine S_iast (pc := 72) dX3_valueBy_72 (sF_2 hs) (Nat.succ_pos _) hb35 ?_
      refine S_iinc (pc := 73) (v := nI 1) (L' := [some (.ref q), some (.ref e), some (.int (a2 + nI 1)), some (.int a3), some (.int a4), some (.int a5)]) dX3_valueBy_73 rfl ic1 rfl ?_
      refine S_goto (pc := 76) (tgt := 205) dX3_valueBy_76 rfl ?_
      exact S_weak (L' := [some (.ref q), some (.ref e), some (.int (a2 + nI 1)), some (.int a3), none, none]) (ls_e (ls_e (ls_e (ls_e (ls_n (ls_n ls_0)))))) H
  · replace H := H.2 hc31
    refine S_iconst (pc := 51) dX3_valueBy_51 ic0 ?_
    exact S_ireturn dX3_valueBy_52 rfl H
set_option maxHeartbeats 2000000 in
set_option maxRecDepth 4000 in
theorem VX3_valueBy_205 {l : Launch} {G : Gx} {d : Nat} {Q : Option Value → Hp → Prop} {sh : Sh} {fR : FRt} {q e : Nat} {f : FI} {g : FL} {a2 : Int32} {a3 : Int32} (hs : StF sh fR q) (he : sh[e]? = some (20, 10))
    (H : LpX3_valueBy_4 l G d Q sh fR q e f g a2 (a3 + nI 1)) :
    LpX3_valueBy_205 l G d Q sh fR q e f g a2 a3 := by
  refine S_iinc (pc := 205) (v := nI 1) (L' := [some (.ref q), some (.ref e), some (.int a2), some (.int (a3 + nI 1)), none, none]) dX3_valueBy_205 rfl ic1 rfl ?_
  refine S_goto (pc := 208) (tgt := 4) dX3_valueBy_208 rfl ?_
  exact H
abbrev LpX3_joinedBy_210 (l : Launch) (G : Gx) (d : Nat) (Q : Option Value → Hp → Prop) (sh : Sh) (fR : FRt) (f : FI) (g : FL) (b3 : Int64) : Prop := WP l G (Zq G 0 0 Q) mX3_joinedBy (rmd (d + 1) 0 0) 0 0 210 [none, none, none, some (.long b3), none] [] (sh, f, g, fR)
set_option maxHeartbeats 2000000 in
set_option maxRecDepth 4000 in
theorem VX3_joinedBy {l : Launch} {G : Gx} {d : Nat} {Q : Option Value → Hp → Prop} {sh : Sh} {fR : FRt} {f : FI} {g : FL} {a0 : Int32} {a1 : Int32} {a2 : Int32} 
    (H : ((a0 = nI 4 → (∀ z2 : Int64, z2 = a1.toInt64 + a2.toInt64 → LpX3_joinedBy_210 l G d Q sh fR f g z2)) ∧ (a0 = nI 5 → (∀ z5 : Int64, z5 = a1.toInt64 - a2.toInt64 → LpX3_joinedBy_210 l G d Q sh fR f g z5)) ∧ (a0 = nI 6 → (∀ z8 : Int64, z8 = a1.toInt64 * a2.toInt64 → LpX3_joinedBy_210 l G d Q sh fR f g z8)) ∧ (a0 = nI 7 → ((¬ a2 = 0 → Cl l G d 0 0 mJ_floorDiv [.int a1, .int a2] (sh, f, g, fR) (qi sh fR fun x14 f12 g13 => LpX3_joinedBy_210 l G d Q sh fR f12 g13 x14.toInt64)) ∧ (a2 = 0 → LpX3_joinedBy_210 l G d Q sh fR f g (lN 0)))) ∧ (a0 = nI 8 → ((¬ a2 = 0 → Cl l G d 0 0 mJ_floorMod [.int a1, .int a2] (sh, f, g, fR) (qi sh fR fun x19 f17 g18 => LpX3_joinedBy_210 l G d Q sh fR f17 g18 x19.toInt64)) ∧ (a2 = 0 → LpX3_joinedBy_210 l G d Q sh fR f g (lN 0)))) ∧ (a0 = nI 9 → ((a2 ≤ a1 → LpX3_joinedBy_210 l G d Q sh fR f g a2.toInt64) ∧ (¬ a2 ≤ a1 → LpX3_joinedBy_210 l G d Q sh fR f g a1.toInt64))) ∧ (a0 = nI 10 → ((a1 ≤ a2 → LpX3_joinedBy_210 l G d Q sh fR f g a2.toInt64) ∧ (¬ a1 ≤ a2 → LpX3_joinedBy_210 l G d Q sh fR f g a1.toInt64))) ∧ (a0 = nI 11 → ((a2 ≤ a1 → LpX3_joinedBy_210 l G d Q sh fR f g (lN 0)) ∧ (¬ a2 ≤ a1 → LpX3_joinedBy_210 l G d Q sh fR f g (lN 1)))) ∧ (a0 = nI 12 → ((a1 ≤ a2 → LpX3_joinedBy_210 l G d Q sh fR f g (lN 0)) ∧ (¬ a1 ≤ a2 → LpX3_joinedBy_210 l G d Q sh fR f g (lN 1)))) ∧ (a0 = nI 13 → ((¬ a1 = a2 → LpX3_joinedBy_210 l G d Q sh fR f g (lN 0)) ∧ (a1 = a2 → LpX3_joinedBy_210 l G d Q sh fR f g (lN 1)))) ∧ (a0 = nI 14 → (∀ z31 : Int64, z31 = (a1 &&& a2).toInt64 → LpX3_joinedBy_210 l G d Q sh fR f g z31)) ∧ ((¬ a0 = nI 4 ∧ ¬ a0 = nI 5 ∧ ¬ a0 = nI 6 ∧ ¬ a0 = nI 7 ∧ ¬ a0 = nI 8 ∧ ¬ a0 = nI 9 ∧ ¬ a0 = nI 10 ∧ ¬ a0 = nI 11 ∧ ¬ a0 = nI 12 ∧ ¬ a0 = nI 13 ∧ ¬ a0 = nI 14) → (∀ z33 : Int64, z33 = (a1 ||| a2).toInt64 → LpX3_joinedBy_210 l G d Q sh fR f g z33)))) :
    Cl l G (d + 1) 0 0 mX3_joinedBy [.int a0, .int a1, .int a2] (sh, f, g, fR) Q := by
  refine Cl.of (L0 := [some (.int a0), some (.int a1), some (.int a2), none, none]) miX3_joinedBy rfl rfl ?_
  refine S_lconst (pc := 0) dX3_joinedBy_0 lc0 ?_
  refine S_lstore_n (pc := 1) (L' := [some (.int a0), some (.int a1), some (.int a2), some (.long (lN 0)), none]) dX3_joinedBy_1 rfl (by decide) rfl ?_
  refine S_iload_n (pc := 2) dX3_joinedBy_2 rfl rfl ?_
  by_cases hc1 : a0 = nI 4
  · replace H := H.1 hc1
    refine S_tsw (pc := 3) (tgt := 60) dX3_joinedBy_3 (Or.inr ⟨by rw [hc1]; decide, by rw [hc1]; decide, _, by rw [hc1]; rfl, rfl⟩) ?_
    refine S_iload_n (pc := 60) dX3_joinedBy_60 rfl rfl ?_
    refine S_i2l (pc := 61) dX3_joinedBy_61 ?_
    refine S_iload_n (pc := 62) dX3_joinedBy_62 rfl rfl ?_
    refine S_i2l (pc := 63) dX3_joinedBy_63 ?_
    refine S_ladd (pc := 64) dX3_joinedBy_64 ?_
    refine S_namel (fun z2 e3 => ?_)
    replace H := H z2 e3
    refine S_lstore_n (pc := 65) (L' := [some (.int a0), some (.int a1), some (.int a2), some (.long z2), none]) dX3_joinedBy_65 rfl (by decide) rfl ?_
    refine S_goto (pc := 66) (tgt := 210) dX3_joinedBy_66 rfl ?_
    exact S_weak (L' := [none, none, none, some (.long z2), none]) (ls_n (ls_n (ls_n (ls_e (ls_e ls_0))))) H
  · by_cases hc4 : a0 = nI 5
    · replace H := H.2.1 hc4
      refine S_tsw (pc := 3) (tgt := 69) dX3_joinedBy_3 (Or.inr ⟨by rw [hc4]; decide, by rw [hc4]; decide, _, by rw [hc4]; rfl, rfl⟩) ?_
      refine S_iload_n (pc := 69) dX3_joinedBy_69 rfl rfl ?_
      refine S_i2l (pc := 70) dX3_joinedBy_70 ?_
      refine S_iload_n (pc := 71) dX3_joinedBy_71 rfl rfl ?_
      refine S_i2l (pc := 72) dX3_joinedBy_72 ?_
      refine S_lsub (pc := 73) dX3_joinedBy_73 ?_
      refine S_namel (fun z5 e6 => ?_)
      replace H := H z5 e6
      refine S_lstore_n (pc := 74) (L' := [some (.int a0), some (.int a1), some (.int a2), some (.long z5), none]) dX3_joinedBy_74 rfl (by decide) rfl ?_
      refine S_goto (pc := 75) (tgt := 210) dX3_joinedBy_75 rfl ?_
      exact S_weak (L' := [none, none, none, some (.long z5), none]) (ls_n (ls_n (ls_n (ls_e (ls_e ls_0))))) H
    · by_cases hc7 : a0 = nI 6
      · replace H := H.2.2.1 hc7
        refine S_tsw (pc := 3) (tgt := 78) dX3_joinedBy_3 (Or.inr ⟨by rw [hc7]; decide, by rw [hc7]; decide, _, by rw [hc7]; rfl, rfl⟩) ?_
        refine S_iload_n (pc := 78) dX3_joinedBy_78 rfl rfl ?_
        refine S_i2l (pc := 79) dX3_joinedBy_79 ?_
        refine S_iload_n (pc := 80) dX3_joinedBy_80 rfl rfl ?_
        refine S_i2l (pc := 81) dX3_joinedBy_81 ?_
        refine S_lmul (pc := 82) dX3_joinedBy_82 ?_
        refine S_namel (fun z8 e9 => ?_)
        replace H := H z8 e9
        refine S_lstore_n (pc := 83) (L' := [some (.int a0), some (.int a1), some (.int a2), some (.long z8), none]) dX3_joinedBy_83 rfl (by decide) rfl ?_
        refine S_goto (pc := 84) (tgt := 210) dX3_joinedBy_84 rfl ?_
        exact S_weak (L' := [none, none, none, some (.long z8), none]) (ls_n (ls_n (ls_n (ls_e (ls_e ls_0))))) H
      · by_cases hc10 : a0 = nI 7
        · replace H := H.2.2.2.1 hc10
          refine S_tsw (pc := 3) (tgt := 87) dX3_joinedBy_3 (Or.inr ⟨by rw [hc10]; decide, by rw [hc10]; decide, _, by rw [hc10]; rfl, rfl⟩) ?_
          refine S_iload_n (pc := 87) dX3_joinedBy_87 rfl rfl ?_
          refine S_if_ne (pc := 88) (tgt := 95) dX3_joinedBy_88 rfl (fun hc11 => ?_) (fun hc11 => ?_)
          · replace H := H.1 hc11
            refine S_iload_n (pc := 95) dX3_joinedBy_95 rfl rfl ?_
            refine S_iload_n (pc := 96) dX3_joinedBy_96 rfl rfl ?_
            refine S_callSJ (As := [.int a1, .int a2]) (mc := 0) (ms := 0) (pc := 97) dX3_joinedBy_97 miJ_floorDiv mvJ_floorDiv mlX3_27 rfl rfl (RmOK.of rfl) H ?_
            rintro _ _ ⟨x14, f12, g13, rfl, rfl, H⟩
            show WP _ _ _ _ _ _ _ 100 [some (.int a0), some (.int a1), some (.int a2), some (.long (lN 0)), none] [.int x14] (sh, f12, g13, fR)
            refine S_i2l (pc := 100) dX3_joinedBy_100 ?_
            refine S_lstore_n (pc := 101) (L' := [some (.int a0), some (.int a1), some (.int a2), some (.long x14.toInt64), none]) dX3_joinedBy_101 rfl (by decide) rfl ?_
            refine S_goto (pc := 102) (tgt := 210) dX3_joinedBy_102 rfl ?_
            exact S_weak (L' := [none, none, none, some (.long x14.toInt64), none]) (ls_n (ls_n (ls_n (ls_e (ls_e ls_0))))) H
          · replace H := H.2 hc11
            refine S_lconst (pc := 91) dX3_joinedBy_91 lc0 ?_
            refine S_goto (pc := 92) (tgt := 101) dX3_joinedBy_92 rfl ?_
            refine S_lstore_n (pc := 101) (L' := [some (.int a0), some (.int a1), some (.int a2), some (.long (lN 0)), none]) dX3_joinedBy_101 rfl (by decide) rfl ?_
            refine S_goto (pc := 102) (tgt := 210) dX3_joinedBy_102 rfl ?_
            exact S_weak (L' := [none, none, none, some (.long (lN 0)), none]) (ls_n (ls_n (ls_n (ls_e (ls_e ls_0))))) H
        · by_cases hc15 : a0 = nI 8
          · replace H := H.2.2.2.2.1 hc15
            refine S_tsw (pc := 3) (tgt := 105) dX3_joinedBy_3 (Or.inr ⟨by rw [hc15]; decide, by rw [hc15]; decide, _, by rw [hc15]; rfl, rfl⟩) ?_
            refine S_iload_n (pc := 105) dX3_joinedBy_105 rfl rfl ?_
            refine S_if_ne (pc := 106) (tgt := 113) dX3_joinedBy_106 rfl (fun hc16 => ?_) (fun hc16 => ?_)
            · replace H := H.1 hc16
              refine S_iload_n (pc := 113) dX3_joinedBy_113 rfl rfl ?_
              refine S_iload_n (pc := 114) dX3_joinedBy_114 rfl rfl ?_
              refine S_callSJ (As := [.int a1, .int a2]) (mc := 0) (ms := 0) (pc := 115) dX3_joinedBy_115 miJ_floorMod mvJ_floorMod mlX3_33 rfl rfl (RmOK.of rfl) H ?_
              rintro _ _ ⟨x19, f17, g18, rfl, rfl, H⟩
              show WP _ _ _ _ _ _ _ 118 [some (.int a0), some (.int a1), some (.int a2), some (.long (lN 0)), none] [.int x19] (sh, f17, g18, fR)
              refine S_i2l (pc := 118) dX3_joinedBy_118 ?_
              refine S_lstore_n (pc := 119) (L' := [some (.int a0), some (.int a1), some (.int a2), some (.long x19.toInt64), none]) dX3_joinedBy_119 rfl (by decide) rfl ?_
              refine S_goto (pc := 120) (tgt := 210) dX3_joinedBy_120 rfl ?_
              exact S_weak (L' := [none, none, none, some (.long x19.toInt64), none]) (ls_n (ls_n (ls_n (ls_e (ls_e ls_0))))) H
            · replace H := H.2 hc16
              refine S_lconst (pc := 109) dX3_joinedBy_109 lc0 ?_
              refine S_goto (pc := 110) (tgt := 119) dX3_joinedBy_110 rfl ?_
              refine S_lstore_n (pc := 119) (L' := [some (.int a0), some (.int a1), some (.int a2), some (.long (lN 0)), none]) dX3_joinedBy_119 rfl (by decide) rfl ?_
              refine S_goto (pc := 120) (tgt := 210) dX3_joinedBy_120 rfl ?_
              exact S_weak (L' := [none, none, none, some (.long (lN 0)), none]) (ls_n (ls_n (ls_n (ls_e (ls_e ls_0))))) H
          · by_cases hc20 : a0 = nI 9
            · replace H := H.2.2.2.2.2.1 hc20
              refine S_tsw (pc := 3) (tgt := 123) dX3_joinedBy_3 (Or.inr ⟨by rw [hc20]; decide, by rw [hc20]; decide, _, by rw [hc20]; rfl, rfl⟩) ?_
              refine S_iload_n (pc := 123) dX3_joinedBy_123 rfl rfl ?_
              refine S_iload_n (pc := 124) dX3_joinedBy_124 rfl rfl ?_
              refine S_icmp_ge (pc := 125) (tgt := 133) dX3_joinedBy_125 rfl (fun hc21 => ?_) (fun hc21 => ?_)
              · replace H := H.1 hc21
                refine S_iload_n (pc := 133) dX3_joinedBy_133 rfl rfl ?_
                refine S_i2l (pc := 134) dX3_joinedBy_134 ?_
                refine S_lstore_n (pc := 135) (L' := [some (.int a0), some (.int a1), some (.int a2), some (.long a2.toInt64), none]) dX3_joinedBy_135 rfl (by decide) rfl ?_
                refine S_goto (pc := 136) (tgt := 210) dX3_joinedBy_136 rfl ?_
                exact S_weak (L' := [none, none, none, some (.long a2.toInt64), none]) (ls_n (ls_n (ls_n (ls_e (ls_e ls_0))))) H
              · replace H := H.2 hc21
                refine S_iload_n (pc := 128) dX3_joinedBy_128 rfl rfl ?_
                refine S_i2l (pc := 129) dX3_joinedBy_129 ?_
                refine S_goto (pc := 130) (tgt := 135) dX3_joinedBy_130 rfl ?_
                refine S_lstore_n (pc := 135) (L' := [some (.int a0), some (.int a1), some (.int a2), some (.long a1.toInt64), none]) dX3_joinedBy_135 rfl (by decide) rfl ?_
                refine S_goto (pc := 136) (tgt := 210) dX3_joinedBy_136 rfl ?_
                exact S_weak (L' := [none, none, none, some (.long a1.toInt64), none]) (ls_n (ls_n (ls_n (ls_e (ls_e ls_0))))) H
            · by_cases hc22 : a0 = nI 10
              · replace H := H.2.2.2.2.2.2.1 hc22
                refine S_tsw (pc := 3) (tgt := 139) dX3_joinedBy_3 (Or.inr ⟨by rw [hc22]; decide, by rw [hc22]; decide, _, by rw [hc22]; rfl, rfl⟩) ?_
                refine S_iload_n (pc := 139) dX3_joinedBy_139 rfl rfl ?_
                refine S_iload_n (pc := 140) dX3_joinedBy_140 rfl rfl ?_
                refine S_icmp_le (pc := 141) (tgt := 149) dX3_joinedBy_141 rfl (fun hc23 => ?_) (fun hc23 => ?_)
                · replace H := H.1 hc23
                  refine S_iload_n (pc := 149) dX3_joinedBy_149 rfl rfl ?_
                  refine S_i2l (pc := 150) dX3_joinedBy_150 ?_
                  refine S_lstore_n (pc := 151) (L' := [some (.int a0), some (.int a1), some (.int a2), some (.long a2.toInt64), none]) dX3_joinedBy_151 rfl (by decide) rfl ?_
                  refine S_goto (pc := 152) (tgt := 210) dX3_joinedBy_152 rfl ?_
                  exact S_weak (L' := [none, none, none, some (.long a2.toInt64), none]) (ls_n (ls_n (ls_n (ls_e (ls_e ls_0))))) H
                · replace H := H.2 hc23
                  refine S_iload_n (pc := 144) dX3_joinedBy_144 rfl rfl ?_
                  refine S_i2l (pc := 145) dX3_joinedBy_145 ?_
                  refine S_goto (pc := 146) (tgt := 151) dX3_joinedBy_146 rfl ?_
                  refine S_lstore_n (pc := 151) (L' := [some (.int a0), some (.int a1), some (.int a2), some (.long a1.toInt64), none]) dX3_joinedBy_151 rfl (by decide) rfl ?_
                  refine S_goto (pc := 152) (tgt := 210) dX3_joinedBy_152 rfl ?_
                  exact S_weak (L' := [none, none, none, some (.long a1.toInt64), none]) (ls_n (ls_n (ls_n (ls_e (ls_e ls_0))))) H
              · by_cases hc24 : a0 = nI 11
                · replace H := H.2.2.2.2.2.2.2.1 hc24
                  refine S_tsw (pc := 3) (tgt := 155) dX3_joinedBy_3 (Or.inr ⟨by rw [hc24]; decide, by rw [hc24]; decide, _, by rw [hc24]; rfl, rfl⟩) ?_
                  refine S_iload_n (pc := 155) dX3_joinedBy_155 rfl rfl ?_
                  refine S_iload_n (pc := 156) dX3_joinedBy_156 rfl rfl ?_
                  refine S_icmp_ge (pc := 157) (tgt := 164) dX3_joinedBy_157 rfl (fun hc25 => ?_) (fun hc25 => ?_)
                  · replace H := H.1 hc25
                    refine S_lconst (pc := 164) dX3_joinedBy_164 lc0 ?_
                    refine S_lstore_n (pc := 165) (L' := [some (.int a0), some (.int a1), some (.int a2), some (.long (lN 0)), none]) dX3_joinedBy_165 rfl (by decide) rfl ?_
                    refine S_goto (pc := 166) (tgt := 210) dX3_joinedBy_166 rfl ?_
                    exact S_weak (L' := [none, none, none, some (.long (lN 0)), none]) (ls_n (ls_n (ls_n (ls_e (ls_e ls_0))))) H
                  · replace H := H.2 hc25
                    refine S_lconst (pc := 160) dX3_joinedBy_160 lc1 ?_
                    refine S_goto (pc := 161) (tgt := 165) dX3_joinedBy_161 rfl ?_
                    refine S_lstore_n (pc := 165) (L' := [some (.int a0), some (.int a1), some (.int a2), some (.long (lN 1)), none]) dX3_joinedBy_165 rfl (by decide) rfl ?_
                    refine S_goto (pc := 166) (tgt := 210) dX3_joinedBy_166 rfl ?_
                    exact S_weak (L' := [none, none, none, some (.long (lN 1)), none]) (ls_n (ls_n (ls_n (ls_e (ls_e ls_0))))) H
                · by_cases hc26 : a0 = nI 12
                  · replace H := H.2.2.2.2.2.2.2.2.1 hc26
                    refine S_tsw (pc := 3) (tgt := 169) dX3_joinedBy_3 (Or.inr ⟨by rw [hc26]; decide, by rw [hc26]; decide, _, by rw [hc26]; rfl, rfl⟩) ?_
                    refine S_iload_n (pc := 169) dX3_joinedBy_169 rfl rfl ?_
                    refine S_iload_n (pc := 170) dX3_joinedBy_170 rfl rfl ?_
                    refine S_icmp_le (pc := 171) (tgt := 178) dX3_joinedBy_171 rfl (fun hc27 => ?_) (fun hc27 => ?_)
                    · replace H := H.1 hc27
                      refine S_lconst (pc := 178) dX3_joinedBy_178 lc0 ?_
                      refine S_lstore_n (pc := 179) (L' := [some (.int a0), some (.int a1), some (.int a2), some (.long (lN 0)), none]) dX3_joinedBy_179 rfl (by decide) rfl ?_
                      refine S_goto (pc := 180) (tgt := 210) dX3_joinedBy_180 rfl ?_
                      exact S_weak (L' := [none, none, none, some (.long (lN 0)), none]) (ls_n (ls_n (ls_n (ls_e (ls_e ls_0))))) H
                    · replace H := H.2 hc27
                      refine S_lconst (pc := 174) dX3_joinedBy_174 lc1 ?_
                      refine S_goto (pc := 175) (tgt := 179) dX3_joinedBy_175 rfl ?_
                      refine S_lstore_n (pc := 179) (L' := [some (.int a0), some (.int a1), some (.int a2), some (.long (lN 1)), none]) dX3_joinedBy_179 rfl (by decide) rfl ?_
                      refine S_goto (pc := 180) (tgt := 210) dX3_joinedBy_180 rfl ?_
                      exact S_weak (L' := [none, none, none, some (.long (lN 1)), none]) (ls_n (ls_n (ls_n (ls_e (ls_e ls_0))))) H
                  · by_cases hc28 : a0 = nI 13
                    · replace H := H.2.2.2.2.2.2.2.2.2.1 hc28
                      refine S_tsw (pc := 3) (tgt := 183) dX3_joinedBy_3 (Or.inr ⟨by rw [hc28]; decide, by rw [hc28]; decide, _, by rw [hc28]; rfl, rfl⟩) ?_
                      refine S_iload_n (pc := 183) dX3_joinedBy_183 rfl rfl ?_
                      refine S_iload_n (pc := 184) dX3_joinedBy_184 rfl rfl ?_
                      refine S_icmp_ne (pc := 185) (tgt := 192) dX3_joinedBy_185 rfl (fun hc29 => ?_) (fun hc29 => ?_)
                      · replace H := H.1 hc29
                        refine S_lconst (pc := 192) dX3_joinedBy_192 lc0 ?_
                        refine S_lstore_n (pc := 193) (L' := [some (.int a0), some (.int a1), some (.int a2), some (.long (lN 0)), none]) dX3_joinedBy_193 rfl (by decide) rfl ?_
                        refine S_goto (pc := 194) (tgt := 210) dX3_joinedBy_194 rfl ?_
                        exact S_weak (L' := [none, none, none, some (.long (lN 0)), none]) (ls_n (ls_n (ls_n (ls_e (ls_e ls_0))))) H
                      · replace H := H.2 hc29
                        refine S_lconst (pc := 188) dX3_joinedBy_188 lc1 ?_
                        refine S_goto (pc := 189) (tgt := 193) dX3_joinedBy_189 rfl ?_
                        refine S_lstore_n (pc := 193) (L' := [some (.int a0), some (.int a1), some (.int a2), some (.long (lN 1)), none]) dX3_joinedBy_193 rfl (by decide) rfl ?_
                        refine S_goto (pc := 194) (tgt := 210) dX3_joinedBy_194 rfl ?_
                        exact S_weak (L' := [none, none, none, some (.long (lN 1)), none]) (ls_n (ls_n (ls_n (ls_e (ls_e ls_0))))) H
                    · by_cases hc30 : a0 = nI 14
                      · replace H := H.2.2.2.2.2.2.2.2.2.2.1 hc30
                        refine S_tsw (pc := 3) (tgt := 197) dX3_joinedBy_3 (Or.inr ⟨by rw [hc30]; decide, by rw [hc30]; decide, _, by rw [hc30]; rfl, rfl⟩) ?_
                        refine S_iload_n (pc := 197) dX3_joinedBy_197 rfl rfl ?_
                        refine S_iload_n (pc := 198) dX3_joinedBy_198 rfl rfl ?_
                        refine S_iand (pc := 199) dX3_joinedBy_199 ?_
                        refine S_i2l (pc := 200) dX3_joinedBy_200 ?_
                        refine S_namel (fun z31 e32 => ?_)
                        replace H := H z31 e32
                        refine S_lstore_n (pc := 201) (L' := [some (.int a0), some (.int a1), some (.int a2), some (.long z31), none]) dX3_joinedBy_201 rfl (by decide) rfl ?_
                        refine S_goto (pc := 202) (tgt := 210) dX3_joinedBy_202 rfl ?_
                        exact S_weak (L' := [none, none, none, some (.long z31), none]) (ls_n (ls_n (ls_n (ls_e (ls_e ls_0))))) H
                      · replace H := H.2.2.2.2.2.2.2.2.2.2.2 ⟨hc1, hc4, hc7, hc10, hc15, hc20, hc22, hc24, hc26, hc28, hc30⟩
                        refine S_tsw (pc := 3) (tgt := 205) dX3_joinedBy_3 (Or.inl ⟨tsw_out (lo := 4) (hi := 14) (fun j h1 h2 => by rcases (show j = 4 ∨ j = 5 ∨ j = 6 ∨ j = 7 ∨ j = 8 ∨ j = 9 ∨ j = 10 ∨ j = 11 ∨ j = 12 ∨ j = 13 ∨ j = 14 by omega) with rfl | rfl | rfl | rfl | rfl | rfl | rfl | rfl | rfl | rfl | rfl <;> assumption), rfl⟩) ?_
                        refine S_iload_n (pc := 205) dX3_joinedBy_205 rfl rfl ?_
                        refine S_iload_n (pc := 206) dX3_joinedBy_206 rfl rfl ?_
                        refine S_ior (pc := 207) dX3_joinedBy_207 ?_
                        refine S_i2l (pc := 208) dX3_joinedBy_208 ?_
                        refine S_namel (fun z33 e34 => ?_)
                        replace H := H z33 e34
                        refine S_lstore_n (pc := 209) (L' := [some (.int a0), some (.int a1), some (.int a2), some (.long z33), none]) dX3_joinedBy_209 rfl (by decide) rfl ?_
                        exact S_weak (L' := [none, none, none, some (.long z33), none]) (ls_n (ls_n (ls_n (ls_e (ls_e ls_0))))) H
set_option maxHeartbeats 2000000 in
set_option maxRecDepth 4000 in
theorem VX3_joinedBy_210 {l : Launch} {G : Gx} {d : Nat} {Q : Option Value → Hp → Prop} {sh : Sh} {fR : FRt} {f : FI} {g : FL} {b3 : Int64} 
    (H : ((b3 ≤ (lN 1000000) → (((-1000000) ≤ b3 → Q (some (.int b3.toInt32)) (sh, f, g, fR)) ∧ (¬ (-1000000) ≤ b3 → Q (some (.int ((-1000000).toInt32))) (sh, f, g, fR)))) ∧ (¬ b3 ≤ (lN 1000000) → Q (some (.int ((lN 1000000).toInt32))) (sh, f, g, fR)))) :
    LpX3_joinedBy_210 l G d Q sh fR f g b3 := by
  refine S_lload_n (pc := 210) dX3_joinedBy_210 rfl rfl ?_
  refine S_ldc2 (pc := 211) (v := lN 1000000) dX3_joinedBy_211 (gw 809 rfl rfl) ?_
  refine S_lcmp_le (pc := 214) (tgt := 224) dX3_joinedBy_214 dX3_joinedBy_215 rfl (fun hc35 => ?_) (fun hc35 => ?_)
  · replace H := H.1 hc35
    refine S_lload_n (pc := 224) dX3_joinedBy_224 rfl rfl ?_
    refine S_ldc2 (pc := 225) (v := (-1000000)) dX3_joinedBy_225 (gw 810 rfl rfl) ?_
    refine S_lcmp_ge (pc := 228) (tgt := 238) dX3_joinedBy_228 dX3_joinedBy_229 rfl (fun hc36 => ?_) (fun hc36 => ?_)
    · replace H := H.1 hc36
      refine S_lload_n (pc := 238) dX3_joinedBy_238 rfl rfl ?_
      refine S_l2i (pc := 239) dX3_joinedBy_239 ?_
      exact S_ireturn dX3_joinedBy_240 rfl H
    · replace H := H.2 hc36
      refine S_ldc2 (pc := 232) (v := (-1000000)) dX3_joinedBy_232 (gw 810 rfl rfl) ?_
      refine S_goto (pc := 235) (tgt := 239) dX3_joinedBy_235 rfl ?_
      refine S_l2i (pc := 239) dX3_joinedBy_239 ?_
      exact S_ireturn dX3_joinedBy_240 rfl H
  · replace H := H.2 hc35
    refine S_ldc2 (pc := 218) (v := lN 1000000) dX3_joinedBy_218 (gw 809 rfl rfl) ?_
    refine S_goto (pc := 221) (tgt := 239) dX3_joinedBy_221 rfl ?_
    refine S_l2i (pc := 239) dX3_joinedBy_239 ?_
    exact S_ireturn dX3_joinedBy_240 rfl H
set_option maxHeartbeats 2000000 in
set_option maxRecDepth 4000 in
theorem VX9_letterOf {l : Launch} {G : Gx} {d : Nat} {Q : Option Value → Hp → Prop} {sh : Sh} {fR : FRt} {f : FI} {g : FL} {a0 : Int32} {a1 : Int32} 
    (H : Q (some (.int ((a0 >>> (((nI 5) * a1) &&& 31)) &&& (nI 31)))) (sh, f, g, fR)) :
    Cl l G d 0 0 mX9_letterOf [.int a0, .int a1] (sh, f, g, fR) Q := by
  refine Cl.of (L0 := [some (.int a0), some (.int a1)]) miX9_letterOf rfl rfl ?_
  refine S_iload_n (pc := 0) dX9_letterOf_0 rfl rfl ?_
  refine S_iconst (pc := 1) dX9_letterOf_1 ic5 ?_
  refine S_iload_n (pc := 2) dX9_letterOf_2 rfl rfl ?_
  refine S_imul (pc := 3) dX9_letterOf_3 ?_
  refine S_ishr (pc := 4) dX9_letterOf_4 ?_
  refine S_bipush (pc := 5) dX9_letterOf_5 bp31 ?_
  refine S_iand (pc := 7) dX9_letterOf_7 ?_
  exact S_ireturn dX9_letterOf_8 rfl H
abbrev LpX6_clear_22 (l : Launch) (G : Gx) (d : Nat) (Q : Option Value → Hp → Prop) (sh : Sh) (fR : FRt) (p : Nat) (f : FI) (g : FL) (a1 : Int32) : Prop := WP l G (Zq G 0 0 Q) mX6_clear (rmd d 0 0) 0 0 22 [some (.ref p), some (.int a1)] [] (sh, f, g, fR)
set_option maxHeartbeats 2000000 in
set_option maxRecDepth 4000 in
theorem VX6_clear {l : Launch} {G : Gx} {d : Nat} {Q : Option Value → Hp → Prop} {sh : Sh} {fR : FRt} {p : Nat} {f : FI} {g : FL}  (hs : StPl sh fR p)
    (H : LpX6_clear_22 l G d Q sh fR p (up2 (up2 (up2 (up2 f p 0 (nI 0)) p 1 (nI 0)) p 5 (nI 0)) p 6 (nI 0)) g (nI 0)) :
    Cl l G d 0 0 mX6_clear [.ref p] (sh, f, g, fR) Q := by
  refine Cl.of (L0 := [some (.ref p), none]) miX6_clear rfl rfl ?_
  refine S_aload_n (pc := 0) dX6_clear_0 rfl rfl ?_
  refine S_iconst (pc := 1) dX6_clear_1 ic0 ?_
  refine S_putI (pc := 2) dX6_clear_2 flX6_40 (sL_0 hs) hs.2.2 (nf_6_0) rfl rfl (fun _ => rfl) ?_
  refine S_aload_n (pc := 5) dX6_clear_5 rfl rfl ?_
  refine S_iconst (pc := 6) dX6_clear_6 ic0 ?_
  refine S_putI (pc := 7) dX6_clear_7 flX6_44 (sL_0 hs) hs.2.2 (nf_6_1) rfl rfl (fun _ => rfl) ?_
  refine S_aload_n (pc := 10) dX6_clear_10 rfl rfl ?_
  refine S_iconst (pc := 11) dX6_clear_11 ic0 ?_
  refine S_putI (pc := 12) dX6_clear_12 flX6_47 (sL_0 hs) hs.2.2 (nf_6_5) rfl rfl (fun _ => rfl) ?_
  refine S_aload_n (pc := 15) dX6_clear_15 rfl rfl ?_
  refine S_iconst (pc := 16) dX6_clear_16 ic0 ?_
  refine S_putI (pc := 17) dX6_clear_17 flX6_50 (sL_0 hs) hs.2.2 (nf_6_6) rfl rfl (fun _ => rfl) ?_
  refine S_iconst (pc := 20) dX6_clear_20 ic0 ?_
  refine S_istore_n (pc := 21) (L' := [some (.ref p), some (.int (nI 0))]) dX6_clear_21 rfl (by decide) rfl ?_
  exact H
set_option maxHeartbeats 2000000 in
set_option maxRecDepth 4000 in
theorem VX6_clear_22 {l : Launch} {G : Gx} {d : Nat} {Q : Option Value → Hp → Prop} {sh : Sh} {fR : FRt} {p : Nat} {f : FI} {g : FL} {a1 : Int32} (hs : StPl sh fR p)
    (H : (((nI 4) ≤ a1 → Q none (sh, (up2 (up2 (up2 (up2 f (p + 5) 2 (nI 0)) (p + 8) 2 (nI 0)) (p + 11) 2 (nI 0)) (p + 14) 2 (nI 0)), g, fR)) ∧ (¬ (nI 4) ≤ a1 → inb a1 4 ∧ LpX6_clear_22 l G d Q sh fR p (up2 f (p + 3) a1.toNatClampNeg (-1)) g (a1 + nI 1)))) :
    LpX6_clear_22 l G d Q sh fR p f g a1 := by
  refine S_iload_n (pc := 22) dX6_clear_22 rfl rfl ?_
  refine S_iconst (pc := 23) dX6_clear_23 ic4 ?_
  refine S_icmp_ge (pc := 24) (tgt := 40) dX6_clear_24 rfl (fun hc1 => ?_) (fun hc1 => ?_)
  · replace H := H.1 hc1
    refine S_aload_n (pc := 40) dX6_clear_40 rfl rfl ?_
    refine S_getR (pc := 41) dX6_clear_41 flX6_27 (sL_0 hs) rfl (rL_0_11 hs) ?_
    refine S_iconst (pc := 44) dX6_clear_44 ic0 ?_
    refine S_putI (pc := 45) dX6_clear_45 flX6_53 (sL_5 hs) (Nat.succ_pos _) (nf_3_2) rfl rfl (fun _ => rfl) ?_
    refine S_aload_n (pc := 48) dX6_clear_48 rfl rfl ?_
    refine S_getR (pc := 49) dX6_clear_49 flX6_31 (sL_0 hs) rfl (rL_0_12 hs) ?_
    refine S_iconst (pc := 52) dX6_clear_52 ic0 ?_
    refine S_putI (pc := 53) dX6_clear_53 flX6_53 (sL_8 hs) (Nat.succ_pos _) (nf_3_2) rfl rfl (fun _ => rfl) ?_
    refine S_aload_n (pc := 56) dX6_clear_56 rfl rfl ?_
    refine S_getR (pc := 57) dX6_clear_57 flX6_34 (sL_0 hs) rfl (rL_0_13 hs) ?_
    refine S_iconst (pc := 60) dX6_clear_60 ic0 ?_
    refine S_putI (pc := 61) dX6_clear_61 flX6_53 (sL_11 hs) (Nat.succ_pos _) (nf_3_2) rfl rfl (fun _ => rfl) ?_
    refine S_aload_n (pc := 64) dX6_clear_64 rfl rfl ?_
    refine S_getR (pc := 65) dX6_clear_65 flX6_37 (sL_0 hs) rfl (rL_0_14 hs) ?_
    refine S_iconst (pc := 68) dX6_clear_68 ic0 ?_
    refine S_putI (pc := 69) dX6_clear_69 flX6_53 (sL_14 hs) (Nat.succ_pos _) (nf_3_2) rfl rfl (fun _ => rfl) ?_
    exact S_vreturn dX6_clear_72 rfl H
  · replace H := H.2 hc1
    refine S_aload_n (pc := 27) dX6_clear_27 rfl rfl ?_
    refine S_getR (pc := 28) dX6_clear_28 flX6_18 (sL_0 hs) rfl (rL_0_9 hs) ?_
    refine S_iload_n (pc := 31) dX6_clear_31 rfl rfl ?_
    refine S_iconst (pc := 32) dX6_clear_32 icm1 ?_
    obtain ⟨hb2, H⟩ := H
    refine S_iast (pc := 33) dX6_clear_33 (sL_3 hs) (Nat.succ_pos _) hb2 ?_
    refine S_iinc (pc := 34) (v := nI 1) (L' := [some (.ref p), some (.int (a1 + nI 1))]) dX6_clear_34 rfl ic1 rfl ?_
    refine S_goto (pc := 37) (tgt := 22) dX6_clear_37 rfl ?_
    exact H
abbrev LpX6_pathNamed_2 (l : Launch) (G : Gx) (d : Nat) (Q : Option Value → Hp → Prop) (sh : Sh) (fR : FRt) (p : Nat) (f : FI) (g : FL) (a1 : Int32) (a2 : Int32) : Prop := WP l G (Zq G 0 0 Q) mX6_pathNamed (rmd d 0 0) 0 0 2 [some (.ref p), some (.int a1), some (.int a2)] [] (sh, f, g, fR)
set_option maxHeartbeats 2000000 in
set_option maxRecDepth 4000 in
theorem VX6_pathNamed {l : Launch} {G : Gx} {d : Nat} {Q : Option Value → Hp → Prop} {sh : Sh} {fR : FRt} {p : Nat} {f : FI} {g : FL} {a1 : Int32} (hs : StPl sh fR p)
    (H : LpX6_pathNamed_2 l G d Q sh fR p f g a1 (nI 0)) :
    Cl l G d 0 0 mX6_pathNamed [.ref p, .int a1] (sh, f, g, fR) Q := by
  refine Cl.of (L0 := [some (.ref p), some (.int a1), none]) miX6_pathNamed rfl rfl ?_
  refine S_iconst (pc := 0) dX6_pathNamed_0 ic0 ?_
  refine S_istore_n (pc := 1) (L' := [some (.ref p), some (.int a1), some (.int (nI 0))]) dX6_pathNamed_1 rfl (by decide) rfl ?_
  exact H
set_option maxHeartbeats 2000000 in
set_option maxRecDepth 4000 in
theorem VX6_pathNamed_2 {l : Launch} {G : Gx} {d : Nat} {Q : Option Value → Hp → Prop} {sh : Sh} {fR : FRt} {p : Nat} {f : FI} {g : FL} {a1 : Int32} {a2 : Int32} (hs : StPl sh fR p)
    (H : (((f p 6) ≤ a2 → Q (some (.int (-1))) (sh, f, g, fR)) ∧ (¬ (f p 6) ≤ a2 → inb a2 4 ∧ ((¬ (f (p + 1) a2.toNatClampNeg) = a1 → LpX6_pathNamed_2 l G d Q sh fR p f g a1 (a2 + nI 1)) ∧ ((f (p + 1) a2.toNatClampNeg) = a1 → Q (some (.int a2)) (sh, f, g, fR)))))) :
    LpX6_pathNamed_2 l G d Q sh fR p f g a1 a2 := by
  refine S_iload_n (pc := 2) dX6_pathNamed_2 rfl rfl ?_
  refine S_aload_n (pc := 3) dX6_pathNamed_3 rfl rfl ?_
  refine S_get (pc := 4) (v := .int (f p 6)) dX6_pathNamed_4 flX6_50 (sL_0 hs) rfl ?_
  refine S_icmp_ge (pc := 7) (tgt := 28) dX6_pathNamed_7 rfl (fun hc1 => ?_) (fun hc1 => ?_)
  · replace H := H.1 hc1
    refine S_iconst (pc := 28) dX6_pathNamed_28 icm1 ?_
    exact S_ireturn dX6_pathNamed_29 rfl H
  · replace H := H.2 hc1
    refine S_aload_n (pc := 10) dX6_pathNamed_10 rfl rfl ?_
    refine S_getR (pc := 11) dX6_pathNamed_11 flX6_9 (sL_0 hs) rfl (rL_0_7 hs) ?_
    refine S_iload_n (pc := 14) dX6_pathNamed_14 rfl rfl ?_
    obtain ⟨hb2, H⟩ := H
    refine S_iald (pc := 15) dX6_pathNamed_15 (sL_1 hs) hb2 ?_
    refine S_iload_n (pc := 16) dX6_pathNamed_16 rfl rfl ?_
    refine S_icmp_ne (pc := 17) (tgt := 22) dX6_pathNamed_17 rfl (fun hc3 => ?_) (fun hc3 => ?_)
    · replace H := H.1 hc3
      refine S_iinc (pc := 22) (v := nI 1) (L' := [some (.ref p), some (.int a1), some (.int (a2 + nI 1))]) dX6_pathNamed_22 rfl ic1 rfl ?_
      refine S_goto (pc := 25) (tgt := 2) dX6_pathNamed_25 rfl ?_
      exact H
    · replace H := H.2 hc3
      refine S_iload_n (pc := 20) dX6_pathNamed_20 rfl rfl ?_
      exact S_ireturn dX6_pathNamed_21 rfl H
abbrev LpX6_sumOf_5 (l : Launch) (G : Gx) (d : Nat) (Q : Option Value → Hp → Prop) (sh : Sh) (fR : FRt) (p : Nat) (f : FI) (g : FL) (a1 : Int32) (a2 : Int32) (a3 : Int32) (a4 : Int32) : Prop := WP l G (Zq G 0 0 Q) mX6_sumOf (rmd d 0 0) 0 0 5 [some (.ref p), some (.int a1), some (.int a2), some (.int a3), some (.int a4)] [] (sh, f, g, fR)
set_option maxHeartbeats 2000000 in
set_option maxRecDepth 4000 in
theorem VX6_sumOf {l : Launch} {G : Gx} {d : Nat} {Q : Option Value → Hp → Prop} {sh : Sh} {fR : FRt} {p : Nat} {f : FI} {g : FL} {a1 : Int32} {a2 : Int32} (hs : StPl sh fR p)
    (H : LpX6_sumOf_5 l G d Q sh fR p f g a1 a2 (nI 0) a1) :
    Cl l G d 0 0 mX6_sumOf [.ref p, .int a1, .int a2] (sh, f, g, fR) Q := by
  refine Cl.of (L0 := [some (.ref p), some (.int a1), some (.int a2), none, none]) miX6_sumOf rfl rfl ?_
  refine S_iconst (pc := 0) dX6_sumOf_0 ic0 ?_
  refine S_istore_n (pc := 1) (L' := [some (.ref p), some (.int a1), some (.int a2), some (.int (nI 0)), none]) dX6_sumOf_1 rfl (by decide) rfl ?_
  refine S_iload_n (pc := 2) dX6_sumOf_2 rfl rfl ?_
  refine S_istore (pc := 3) (L' := [some (.ref p), some (.int a1), some (.int a2), some (.int (nI 0)), some (.int a1)]) dX6_sumOf_3 (by decide) rfl ?_
  exact H
set_option maxHeartbeats 2000000 in
set_option maxRecDepth 4000 in
theorem VX6_sumOf_5 {l : Launch} {G : Gx} {d : Nat} {Q : Option Value → Hp → Prop} {sh : Sh} {fR : FRt} {p : Nat} {f : FI} {g : FL} {a1 : Int32} {a2 : Int32} {a3 : Int32} {a4 : Int32} (hs : StPl sh fR p)
    (H : (((a1 + a2) ≤ a4 → Q (some (.int (a3 - a3 / (nI 251) * (nI 251)))) (sh, f, g, fR)) ∧ (¬ (a1 + a2) ≤ a4 → (∀ w2 : Int32, w2 = a3 + ((((a4 * a4) + ((nI 7) * a4)) + (f p 4)) - (((a4 * a4) + ((nI 7) * a4)) + (f p 4)) / (nI 251) * (nI 251)) → LpX6_sumOf_5 l G d Q sh fR p f g a1 a2 w2 (a4 + nI 1))))) :
    LpX6_sumOf_5 l G d Q sh fR p f g a1 a2 a3 a4 := by
  refine S_iload (pc := 5) dX6_sumOf_5 rfl ?_
  refine S_iload_n (pc := 7) dX6_sumOf_7 rfl rfl ?_
  refine S_iload_n (pc := 8) dX6_sumOf_8 rfl rfl ?_
  refine S_iadd (pc := 9) dX6_sumOf_9 ?_
  refine S_icmp_ge (pc := 10) (tgt := 42) dX6_sumOf_10 rfl (fun hc1 => ?_) (fun hc1 => ?_)
  · replace H := H.1 hc1
    refine S_iload_n (pc := 42) dX6_sumOf_42 rfl rfl ?_
    refine S_sipush (pc := 43) dX6_sumOf_43 sp251 ?_
    refine S_irem (pc := 46) dX6_sumOf_46 (by decide) ?_
    exact S_ireturn dX6_sumOf_47 rfl H
  · replace H := H.2 hc1
    refine S_iload_n (pc := 13) dX6_sumOf_13 rfl rfl ?_
    refine S_iload (pc := 14) dX6_sumOf_14 rfl ?_
    refine S_iload (pc := 16) dX6_sumOf_16 rfl ?_
    refine S_imul (pc := 18) dX6_sumOf_18 ?_
    refine S_bipush (pc := 19) dX6_sumOf_19 bp7 ?_
    refine S_iload (pc := 21) dX6_sumOf_21 rfl ?_
    refine S_imul (pc := 23) dX6_sumOf_23 ?_
    refine S_iadd (pc := 24) dX6_sumOf_24 ?_
    refine S_aload_n (pc := 25) dX6_sumOf_25 rfl rfl ?_
    refine S_get (pc := 26) (v := .int (f p 4)) dX6_sumOf_26 flX6_54 (sL_0 hs) rfl ?_
    refine S_iadd (pc := 29) dX6_sumOf_29 ?_
    refine S_sipush (pc := 30) dX6_sumOf_30 sp251 ?_
    refine S_irem (pc := 33) dX6_sumOf_33 (by decide) ?_
    refine S_iadd (pc := 34) dX6_sumOf_34 ?_
    refine S_namei (fun w2 e3 => ?_)
    replace H := H w2 e3
    refine S_istore_n (pc := 35) (L' := [some (.ref p), some (.int a1), some (.int a2), some (.int w2), some (.int a4)]) dX6_sumOf_35 rfl (by decide) rfl ?_
    refine S_iinc (pc := 36) (v := nI 1) (L' := [some (.ref p), some (.int a1), some (.int a2), some (.int w2), some (.int (a4 + nI 1))]) dX6_sumOf_36 rfl ic1 rfl ?_
    refine S_goto (pc := 39) (tgt := 5) dX6_sumOf_39 rfl ?_
    exact H
abbrev LpX10_begin_74 (l : Launch) (G : Gx) (d : Nat) (Q : Option Value → Hp → Prop) (sh : Sh) (fR : FRt) (x p : Nat) (f : FI) (g : FL) (a2 : Int32) : Prop := WP l G (Zq G 0 0 Q) mX10_begin (rmd (d + 1) 0 0) 0 0 74 [some (.ref x), some (.ref p), some (.int a2)] [] (sh, f, g, fR)
set_option maxHeartbeats 2000000 in
set_option maxRecDepth 4000 in
theorem VX10_begin {l : Launch} {G : Gx} {d : Nat} {Q : Option Value → Hp → Prop} {sh : Sh} {fR : FRt} {x p : Nat} {f : FI} {g : FL}  (hs : StW sh fR x) (hP : StPl sh fR p)
    (H : Cl l G d 0 0 mX7_begin [.ref (x + 2), .ref p] (sh, (up2 (up2 (up2 (up2 (up2 f x 8 (nI 0)) x 9 (nI 0)) x 10 (nI 0)) x 11 (f p 3)) x 12 (nI 0)), g, (up2 fR x 7 (some p))) (qv sh (up2 fR x 7 (some p)) fun f1 g2 => LpX10_begin_74 l G d Q sh (up2 fR x 7 (some p)) x p (up2 (up2 (up2 (up2 (up2 f1 (x + 5) 8 (nI 0)) (x + 14) 5 (nI 0)) (x + 20) 2 (nI 0)) (x + 23) 3 (nI 0)) (x + 23) 4 (nI 0)) g2 (nI 0))) :
    Cl l G (d + 1) 0 0 mX10_begin [.ref x, .ref p] (sh, f, g, fR) Q := by
  refine Cl.of (L0 := [some (.ref x), some (.ref p), none]) miX10_begin rfl rfl ?_
  refine S_aload_n (pc := 0) dX10_begin_0 rfl rfl ?_
  refine S_aload_n (pc := 1) dX10_begin_1 rfl rfl ?_
  refine S_putR (pc := 2) dX10_begin_2 flX10_58 (sW_0 hs) hs.2.2 (nf_10_7) (fun _ => rfl) (fun _ => rfl) (fun _ => rfl) ?_
  refine S_aload_n (pc := 5) dX10_begin_5 rfl rfl ?_
  refine S_iconst (pc := 6) dX10_begin_6 ic0 ?_
  refine S_putI (pc := 7) dX10_begin_7 flX10_63 (sW_0 hs) hs.2.2 (nf_10_8) rfl rfl (fun _ => rfl) ?_
  refine S_aload_n (pc := 10) dX10_begin_10 rfl rfl ?_
  refine S_iconst (pc := 11) dX10_begin_11 ic0 ?_
  refine S_putI (pc := 12) dX10_begin_12 flX10_67 (sW_0 hs) hs.2.2 (nf_10_9) rfl rfl (fun _ => rfl) ?_
  refine S_aload_n (pc := 15) dX10_begin_15 rfl rfl ?_
  refine S_iconst (pc := 16) dX10_begin_16 ic0 ?_
  refine S_putI (pc := 17) dX10_begin_17 flX10_70 (sW_0 hs) hs.2.2 (nf_10_10) rfl rfl (fun _ => rfl) ?_
  refine S_aload_n (pc := 20) dX10_begin_20 rfl rfl ?_
  refine S_aload_n (pc := 21) dX10_begin_21 rfl rfl ?_
  refine S_get (pc := 22) (v := .int ((up2 (up2 (up2 f x 8 (nI 0)) x 9 (nI 0)) x 10 (nI 0)) p 3)) dX10_begin_22 flX10_73 (sL_0 hP) rfl ?_
  refine S_eqi (x := f p 3) ((up2_r (ne_sh (sL_0 hP) (sW_0 hs) (by decide))).trans ((up2_r (ne_sh (sL_0 hP) (sW_0 hs) (by decide))).trans ((up2_r (ne_sh (sL_0 hP) (sW_0 hs) (by decide))).trans rfl))) ?_
  refine S_putI (pc := 25) dX10_begin_25 flX10_78 (sW_0 hs) hs.2.2 (nf_10_11) rfl rfl (fun _ => rfl) ?_
  refine S_aload_n (pc := 28) dX10_begin_28 rfl rfl ?_
  refine S_iconst (pc := 29) dX10_begin_29 ic0 ?_
  refine S_putI (pc := 30) dX10_begin_30 flX10_81 (sW_0 hs) hs.2.2 (nf_10_12) rfl rfl (fun _ => rfl) ?_
  refine S_aload_n (pc := 33) dX10_begin_33 rfl rfl ?_
  refine S_getR (pc := 34) dX10_begin_34 flX10_20 (sW_0 hs) rfl ((up2_ne (by simp)).trans (rW_0_1 hs)) ?_
  refine S_aload_n (pc := 37) dX10_begin_37 rfl rfl ?_
  refine S_callV (As := [.ref p]) (mc := 0) (ms := 0) (pc := 38) dX10_begin_38 miX7_begin mvX7_begin mlX10_84 rfl (sW_2 hs) rfl rfl rfl (RmOK.of rfl) H ?_
  rintro _ _ ⟨f1, g2, rfl, rfl, H⟩
  show WP _ _ _ _ _ _ _ 41 [some (.ref x), some (.ref p), none] [] (sh, f1, g2, (up2 fR x 7 (some p)))
  refine S_aload_n (pc := 41) dX10_begin_41 rfl rfl ?_
  refine S_getR (pc := 42) dX10_begin_42 flX10_27 (sW_0 hs) rfl ((up2_ne (by simp)).trans (rW_0_2 hs)) ?_
  refine S_iconst (pc := 45) dX10_begin_45 ic0 ?_
  refine S_putI (pc := 46) dX10_begin_46 flX10_88 (sW_5 hs) (Nat.succ_pos _) (nf_2_8) rfl rfl (fun _ => rfl) ?_
  refine S_aload_n (pc := 49) dX10_begin_49 rfl rfl ?_
  refine S_getR (pc := 50) dX10_begin_50 flX10_34 (sW_0 hs) rfl ((up2_ne (by simp)).trans (rW_0_3 hs)) ?_
  refine S_iconst (pc := 53) dX10_begin_53 ic0 ?_
  refine S_putI (pc := 54) dX10_begin_54 flX10_91 (sW_14 hs) (Nat.succ_pos _) (nf_0_5) rfl rfl (fun _ => rfl) ?_
  refine S_aload_n (pc := 57) dX10_begin_57 rfl rfl ?_
  refine S_getR (pc := 58) dX10_begin_58 flX10_41 (sW_0 hs) rfl ((up2_ne (by simp)).trans (rW_0_4 hs)) ?_
  refine S_iconst (pc := 61) dX10_begin_61 ic0 ?_
  refine S_putI (pc := 62) dX10_begin_62 flX10_92 (sW_20 hs) (Nat.succ_pos _) (nf_5_2) rfl rfl (fun _ => rfl) ?_
  refine S_aload_n (pc := 65) dX10_begin_65 rfl rfl ?_
  refine S_getR (pc := 66) dX10_begin_66 flX10_48 (sW_0 hs) rfl ((up2_ne (by simp)).trans (rW_0_5 hs)) ?_
  refine S_callV (As := []) (mc := 0) (ms := 0) (pc := 69) dX10_begin_69 miX4_clear mvX4_clear mlX10_93 rfl (sW_23 hs) rfl rfl rfl (RmOK.of rfl) (Q := fun r h => WP _ _ _ _ _ _ _ 72 [some (.ref x), some (.ref p), none] (r.toList ++ []) h) (Cl.of miX4_clear rfl rfl ?_) (fun _ _ q => q)
  refine S_aload_n (pc := 0) dX4_clear_0 rfl rfl ?_
  refine S_iconst (pc := 1) dX4_clear_1 ic0 ?_
  refine S_putI (pc := 2) dX4_clear_2 flX4_19 (sW_23 hs) (Nat.succ_pos _) (nf_4_3) rfl rfl (fun _ => rfl) ?_
  refine S_aload_n (pc := 5) dX4_clear_5 rfl rfl ?_
  refine S_iconst (pc := 6) dX4_clear_6 ic0 ?_
  refine S_putI (pc := 7) dX4_clear_7 flX4_23 (sW_23 hs) (Nat.succ_pos _) (nf_4_4) rfl rfl (fun _ => rfl) ?_
  refine S_vreturn dX4_clear_10 rfl ?_
  show WP _ _ _ _ _ _ _ 72 [some (.ref x), some (.ref p), none] [] (sh, (up2 (up2 (up2 (up2 (up2 f1 (x + 5) 8 (nI 0)) (x + 14) 5 (nI 0)) (x + 20) 2 (nI 0)) (x + 23) 3 (nI 0)) (x + 23) 4 (nI 0)), g2, (up2 fR x 7 (some p)))
  refine S_iconst (pc := 72) dX10_begin_72 ic0 ?_
  refine S_istore_n (pc := 73) (L' := [some (.ref x), some (.ref p), some (.int (nI 0))]) dX10_begin_73 rfl (by decide) rfl ?_
  exact H
set_option maxHeartbeats 2000000 in
set_option maxRecDepth 4000 in
theorem VX10_begin_74 {l : Launch} {G : Gx} {d : Nat} {Q : Option Value → Hp → Prop} {sh : Sh} {fR : FRt} {x p : Nat} {f : FI} {g : FL} {a2 : Int32} (hs : StW sh fR x) (hP : StPl sh fR p)
    (H : (((nI 4) ≤ a2 → (((f p 6) ≤ 0 → Q none (sh, f, g, fR)) ∧ (¬ (f p 6) ≤ 0 → (∃ r5, fR (x + 1) 0 = some r5 ∧ sh[r5]? = some (8, 8) ∧ 0 < r5 ∧ Q none (sh, (up2 (up2 f r5 1 (nI 1)) r5 3 (nI 2000)), g, fR))))) ∧ (¬ (nI 4) ≤ a2 → inb a2 4 ∧ (∃ r10, fR (x + 1) a2.toNatClampNeg = some r10 ∧ sh[r10]? = some (8, 8) ∧ 0 < r10 ∧ inb a2 4 ∧ LpX10_begin_74 l G d Q sh fR x p (up2 (up2 (up2 (up2 (up2 (up2 (up2 (up2 f r10 0 (f (p + 2) a2.toNatClampNeg)) r10 1 (nI 0)) r10 2 (nI 0)) r10 3 (nI 0)) r10 4 (nI 0)) r10 5 (nI 0)) r10 6 (nI 0)) r10 7 (nI 0)) g (a2 + nI 1))))) :
    LpX10_begin_74 l G d Q sh fR x p f g a2 := by
  refine S_iload_n (pc := 74) dX10_begin_74 rfl rfl ?_
  refine S_iconst (pc := 75) dX10_begin_75 ic4 ?_
  refine S_icmp_ge (pc := 76) (tgt := 100) dX10_begin_76 rfl (fun hc3 => ?_) (fun hc3 => ?_)
  · replace H := H.1 hc3
    refine S_aload_n (pc := 100) dX10_begin_100 rfl rfl ?_
    refine S_get (pc := 101) (v := .int (f p 6)) dX10_begin_101 flX10_102 (sL_0 hP) rfl ?_
    refine S_if_le (pc := 104) (tgt := 116) dX10_begin_104 rfl (fun hc4 => ?_) (fun hc4 => ?_)
    · replace H := H.1 hc4
      exact S_vreturn dX10_begin_116 rfl H
    · replace H := H.2 hc4
      refine S_aload_n (pc := 107) dX10_begin_107 rfl rfl ?_
      refine S_getR (pc := 108) dX10_begin_108 flX10_11 (sW_0 hs) rfl (rW_0_0 hs) ?_
      refine S_iconst (pc := 111) dX10_begin_111 ic0 ?_
      obtain ⟨r5, e6, s7, p8, H⟩ := H
      refine S_aald24 (pc := 112) dX10_begin_112 (sW_1 hs) (vp_in_nI (by decide) (by decide)) e6 ?_
      refine S_callV (As := []) (mc := 0) (ms := 0) (pc := 113) dX10_begin_113 miX8_enter mvX8_enter mlX10_105 rfl s7 rfl rfl rfl (RmOK.of rfl) (Q := fun r h => WP _ _ _ _ _ _ _ 116 [some (.ref x), some (.ref p), some (.int a2)] (r.toList ++ []) h) (Cl.of miX8_enter rfl rfl ?_) (fun _ _ q => q)
      refine S_aload_n (pc := 0) dX8_enter_0 rfl rfl ?_
      refine S_iconst (pc := 1) dX8_enter_1 ic1 ?_
      refine S_putI (pc := 2) dX8_enter_2 flX8_13 s7 p8 (nf_8_1) nb1 rfl (fun _ => rfl) ?_
      refine S_aload_n (pc := 5) dX8_enter_5 rfl rfl ?_
      refine S_sipush (pc := 6) dX8_enter_6 sp2000 ?_
      refine S_putI (pc := 9) dX8_enter_9 flX8_20 s7 p8 (nf_8_3) rfl rfl (fun _ => rfl) ?_
      refine S_vreturn dX8_enter_12 rfl ?_
      show WP _ _ _ _ _ _ _ 116 [some (.ref x), some (.ref p), some (.int a2)] [] (sh, (up2 (up2 f r5 1 (nI 1)) r5 3 (nI 2000)), g, fR)
      exact S_vreturn dX10_begin_116 rfl H
  · replace H := H.2 hc3
    refine S_aload_n (pc := 79) dX10_begin_79 rfl rfl ?_
    refine S_getR (pc := 80) dX10_begin_80 flX10_11 (sW_0 hs) rfl (rW_0_0 hs) ?_
    refine S_iload_n (pc := 83) dX10_begin_83 rfl rfl ?_
    obtain ⟨hb9, H⟩ := H
    obtain ⟨r10, e11, s12, p13, H⟩ := H
    refine S_aald24 (pc := 84) dX10_begin_84 (sW_1 hs) hb9 e11 ?_
    refine S_aload_n (pc := 85) dX10_begin_85 rfl rfl ?_
    refine S_getR (pc := 86) dX10_begin_86 flX10_96 (sL_0 hP) rfl (rL_0_8 hP) ?_
    refine S_iload_n (pc := 89) dX10_begin_89 rfl rfl ?_
    obtain ⟨hb14, H⟩ := H
    refine S_iald (pc := 90) dX10_begin_90 (sL_2 hP) hb14 ?_
    refine S_callV (As := [.int (f (p + 2) a2.toNatClampNeg)]) (mc := 0) (ms := 0) (pc := 91) dX10_begin_91 miX8_begin mvX8_begin mlX10_99 rfl s12 rfl rfl rfl (RmOK.of rfl) (Q := fun r h => WP _ _ _ _ _ _ _ 94 [some (.ref x), some (.ref p), some (.int a2)] (r.toList ++ []) h) (Cl.of miX8_begin rfl rfl ?_) (fun _ _ q => q)
    refine S_aload_n (pc := 0) dX8_begin_0 rfl rfl ?_
    refine S_iload_n (pc := 1) dX8_begin_1 rfl rfl ?_
    refine S_putI (pc := 2) dX8_begin_2 flX8_7 s12 p13 (nf_8_0) rfl rfl (fun _ => rfl) ?_
    refine S_aload_n (pc := 5) dX8_begin_5 rfl rfl ?_
    refine S_iconst (pc := 6) dX8_begin_6 ic0 ?_
    refine S_putI (pc := 7) dX8_begin_7 flX8_13 s12 p13 (nf_8_1) nb0 rfl (fun _ => rfl) ?_
    refine S_aload_n (pc := 10) dX8_begin_10 rfl rfl ?_
    refine S_iconst (pc := 11) dX8_begin_11 ic0 ?_
    refine S_putI (pc := 12) dX8_begin_12 flX8_17 s12 p13 (nf_8_2) nb0 rfl (fun _ => rfl) ?_
    refine S_aload_n (pc := 15) dX8_begin_15 rfl rfl ?_
    refine S_iconst (pc := 16) dX8_begin_16 ic0 ?_
    refine S_putI (pc := 17) dX8_begin_17 flX8_20 s12 p13 (nf_8_3) rfl rfl (fun _ => rfl) ?_
    refine S_aload_n (pc := 20) dX8_begin_20 rfl rfl ?_
    refine S_iconst (pc := 21) dX8_begin_21 ic0 ?_
    refine S_putI (pc := 22) dX8_begin_22 flX8_23 s12 p13 (nf_8_4) rfl rfl (fun _ => rfl) ?_
    refine S_aload_n (pc := 25) dX8_begin_25 rfl rfl ?_
    refine S_iconst (pc := 26) dX8_begin_26 ic0 ?_
    refine S_putI (pc := 27) dX8_begin_27 flX8_26 s12 p13 (nf_8_5) rfl rfl (fun _ => rfl) ?_
    refine S_aload_n (pc := 30) dX8_begin_30 rfl rfl ?_
    refine S_iconst (pc := 31) dX8_begin_31 ic0 ?_
    refine S_putI (pc := 32) dX8_begin_32 flX8_29 s12 p13 (nf_8_6) rfl rfl (fun _ => rfl) ?_
    refine S_aload_n (pc := 35) dX8_begin_35 rfl rfl ?_
    refine S_iconst (pc := 36) dX8_begin_36 ic0 ?_
    refine S_putI (pc := 37) dX8_begin_37 flX8_32 s12 p13 (nf_8_7) nb0 rfl (fun _ => rfl) ?_
    refine S_vreturn dX8_begin_40 rfl ?_
    show WP _ _ _ _ _ _ _ 94 [some (.ref x), some (.ref p), some (.int a2)] [] (sh, (up2 (up2 (up2 (up2 (up2 (up2 (up2 (up2 f r10 0 (f (p + 2) a2.toNatClampNeg)) r10 1 (nI 0)) r10 2 (nI 0)) r10 3 (nI 0)) r10 4 (nI 0)) r10 5 (nI 0)) r10 6 (nI 0)) r10 7 (nI 0)), g, fR)
    refine S_iinc (pc := 94) (v := nI 1) (L' := [some (.ref x), some (.ref p), some (.int (a2 + nI 1))]) dX10_begin_94 rfl ic1 rfl ?_
    refine S_goto (pc := 97) (tgt := 74) dX10_begin_97 rfl ?_
    exact H
abbrev LpX10_copyFrom_105 (l : Launch) (G : Gx) (d : Nat) (Q : Option Value → Hp → Prop) (sh : Sh) (fR : FRt) (x y p : Nat) (f : FI) (g : FL) (a2 : Int32) : Prop := WP l G (Zq G 0 0 Q) mX10_copyFrom (rmd (d + 2) 0 0) 0 0 105 [some (.ref x), some (.ref y), some (.int a2)] [] (sh, f, g, fR)
set_option maxHeartbeats 2000000 in
set_option maxRecDepth 4000 in
theorem VX10_copyFrom {l : Launch} {G : Gx} {d : Nat} {Q : Option Value → Hp → Prop} {sh : Sh} {fR : FRt} {x y p : Nat} {f : FI} {g : FL}  (hs : StW sh fR x) (hy : StW sh fR y) (hp : fR y 7 = some p) (hP : StPl sh fR p)
    (H : Cl l G (d + 1) 0 0 mX7_copyFrom [.ref (x + 2), .ref (y + 2)] (sh, (up2 (up2 (up2 (up2 (up2 f x 8 (f y 8)) x 9 ((up2 f x 8 (f y 8)) y 9)) x 10 ((up2 (up2 f x 8 (f y 8)) x 9 ((up2 f x 8 (f y 8)) y 9)) y 10)) x 11 ((up2 (up2 (up2 f x 8 (f y 8)) x 9 ((up2 f x 8 (f y 8)) y 9)) x 10 ((up2 (up2 f x 8 (f y 8)) x 9 ((up2 f x 8 (f y 8)) y 9)) y 10)) y 11)) x 12 ((up2 (up2 (up2 (up2 f x 8 (f y 8)) x 9 ((up2 f x 8 (f y 8)) y 9)) x 10 ((up2 (up2 f x 8 (f y 8)) x 9 ((up2 f x 8 (f y 8)) y 9)) y 10)) x 11 ((up2 (up2 (up2 f x 8 (f y 8)) x 9 ((up2 f x 8 (f y 8)) y 9)) x 10 ((up2 (up2 f x 8 (f y 8)) x 9 ((up2 f x 8 (f y 8)) y 9)) y 10)) y 11)) y 12)), g, (up2 fR x 7 (some p))) (qv sh (up2 fR x 7 (some p)) fun f1 g2 => Cl l G (d + 1) 0 0 mX2_copyFrom [.ref (x + 5), .ref (y + 5)] (sh, f1, g2, (up2 fR x 7 (some p))) (qv sh (up2 fR x 7 (some p)) fun f3 g4 => Cl l G (d + 1) 0 0 mX0_copyFrom [.ref (x + 14), .ref (y + 14)] (sh, f3, g4, (up2 fR x 7 (some p))) (qv sh (up2 fR x 7 (some p)) fun f5 g6 => Cl l G (d + 1) 0 0 mX5_copyFrom [.ref (x + 20), .ref (y + 20)] (sh, f5, g6, (up2 fR x 7 (some p))) (qv sh (up2 fR x 7 (some p)) fun f7 g8 => Cl l G (d + 1) 0 0 mX4_copyFrom [.ref (x + 23), .ref (y + 23)] (sh, f7, g8, (up2 fR x 7 (some p))) (qv sh (up2 fR x 7 (some p)) fun f9 g10 => LpX10_copyFrom_105 l G d Q sh (up2 fR x 7 (some p)) x y p f9 g10 (nI 0))))))) :
    Cl l G (d + 2) 0 0 mX10_copyFrom [.ref x, .ref y] (sh, f, g, fR) Q := by
  refine Cl.of (L0 := [some (.ref x), some (.ref y), none]) miX10_copyFrom rfl rfl ?_
  refine S_aload_n (pc := 0) dX10_copyFrom_0 rfl rfl ?_
  refine S_aload_n (pc := 1) dX10_copyFrom_1 rfl rfl ?_
  refine S_getR (pc := 2) dX10_copyFrom_2 flX10_58 (sW_0 hy) rfl hp ?_
  refine S_putR (pc := 5) dX10_copyFrom_5 flX10_58 (sW_0 hs) hs.2.2 (nf_10_7) (fun _ => rfl) (fun _ => rfl) (fun _ => rfl) ?_
  refine S_aload_n (pc := 8) dX10_copyFrom_8 rfl rfl ?_
  refine S_aload_n (pc := 9) dX10_copyFrom_9 rfl rfl ?_
  refine S_get (pc := 10) (v := .int (f y 8)) dX10_copyFrom_10 flX10_63 (sW_0 hy) rfl ?_
  refine S_putI (pc := 13) dX10_copyFrom_13 flX10_63 (sW_0 hs) hs.2.2 (nf_10_8) rfl rfl (fun _ => rfl) ?_
  refine S_aload_n (pc := 16) dX10_copyFrom_16 rfl rfl ?_
  refine S_aload_n (pc := 17) dX10_copyFrom_17 rfl rfl ?_
  refine S_get (pc := 18) (v := .int ((up2 f x 8 (f y 8)) y 9)) dX10_copyFrom_18 flX10_67 (sW_0 hy) rfl ?_
  refine S_putI (pc := 21) dX10_copyFrom_21 flX10_67 (sW_0 hs) hs.2.2 (nf_10_9) rfl rfl (fun _ => rfl) ?_
  refine S_aload_n (pc := 24) dX10_copyFrom_24 rfl rfl ?_
  refine S_aload_n (pc := 25) dX10_copyFrom_25 rfl rfl ?_
  refine S_get (pc := 26) (v := .int ((up2 (up2 f x 8 (f y 8)) x 9 ((up2 f x 8 (f y 8)) y 9)) y 10)) dX10_copyFrom_26 flX10_70 (sW_0 hy) rfl ?_
  refine S_putI (pc := 29) dX10_copyFrom_29 flX10_70 (sW_0 hs) hs.2.2 (nf_10_10) rfl rfl (fun _ => rfl) ?_
  refine S_aload_n (pc := 32) dX10_copyFrom_32 rfl rfl ?_
  refine S_aload_n (pc := 33) dX10_copyFrom_33 rfl rfl ?_
  refine S_get (pc := 34) (v := .int ((up2 (up2 (up2 f x 8 (f y 8)) x 9 ((up2 f x 8 (f y 8)) y 9)) x 10 ((up2 (up2 f x 8 (f y 8)) x 9 ((up2 f x 8 (f y 8)) y 9)) y 10)) y 11)) dX10_copyFrom_34 flX10_78 (sW_0 hy) rfl ?_
  refine S_putI (pc := 37) dX10_copyFrom_37 flX10_78 (sW_0 hs) hs.2.2 (nf_10_11) rfl rfl (fun _ => rfl) ?_
  refine S_aload_n (pc := 40) dX10_copyFrom_40 rfl rfl ?_
  refine S_aload_n (pc := 41) dX10_copyFrom_41 rfl rfl ?_
  refine S_get (pc := 42) (v := .int ((up2 (up2 (up2 (up2 f x 8 (f y 8)) x 9 ((up2 f x 8 (f y 8)) y 9)) x 10 ((up2 (up2 f x 8 (f y 8)) x 9 ((up2 f x 8 (f y 8)) y 9)) y 10)) x 11 ((up2 (up2 (up2 f x 8 (f y 8)) x 9 ((up2 f x 8 (f y 8)) y 9)) x 10 ((up2 (up2 f x 8 (f y 8)) x 9 ((up2 f x 8 (f y 8)) y 9)) y 10)) y 11)) y 12)) dX10_copyFrom_42 flX10_81 (sW_0 hy) rfl ?_
  refine S_putI (pc := 45) dX10_copyFrom_45 flX10_81 (sW_0 hs) hs.2.2 (nf_10_12) rfl rfl (fun _ => rfl) ?_
  refine S_aload_n (pc := 48) dX10_copyFrom_48 rfl rfl ?_
  refine S_getR (pc := 49) dX10_copyFrom_49 flX10_20 (sW_0 hs) rfl ((up2_ne (by simp)).trans (rW_0_1 hs)) ?_
  refine S_aload_n (pc := 52) dX10_copyFrom_52 rfl rfl ?_
  refine S_getR (pc := 53) dX10_copyFrom_53 flX10_20 (sW_0 hy) rfl ((up2_ne (by simp)).trans (rW_0_1 hy)) ?_
  refine S_callV (As := [.ref (y + 2)]) (mc := 0) (ms := 0) (pc := 56) dX10_copyFrom_56 miX7_copyFrom mvX7_copyFrom mlX10_108 rfl (sW_2 hs) rfl rfl rfl (RmOK.of rfl) H ?_
  rintro _ _ ⟨f1, g2, rfl, rfl, H⟩
  show WP _ _ _ _ _ _ _ 59 [some (.ref x), some (.ref y), none] [] (sh, f1, g2, (up2 fR x 7 (some p)))
  refine S_aload_n (pc := 59) dX10_copyFrom_59 rfl rfl ?_
  refine S_getR (pc := 60) dX10_copyFrom_60 flX10_27 (sW_0 hs) rfl ((up2_ne (by simp)).trans (rW_0_2 hs)) ?_
  refine S_aload_n (pc := 63) dX10_copyFrom_63 rfl rfl ?_
  refine S_getR (pc := 64) dX10_copyFrom_64 flX10_27 (sW_0 hy) rfl ((up2_ne (by simp)).trans (rW_0_2 hy)) ?_
  refine S_callV (As := [.ref (y + 5)]) (mc := 0) (ms := 0) (pc := 67) dX10_copyFrom_67 miX2_copyFrom mvX2_copyFrom mlX10_112 rfl (sW_5 hs) rfl rfl rfl (RmOK.of rfl) H ?_
  rintro _ _ ⟨f3, g4, rfl, rfl, H⟩
  show WP _ _ _ _ _ _ _ 70 [some (.ref x), some (.ref y), none] [] (sh, f3, g4, (up2 fR x 7 (some p)))
  refine S_aload_n (pc := 70) dX10_copyFrom_70 rfl rfl ?_
  refine S_getR (pc := 71) dX10_copyFrom_71 flX10_34 (sW_0 hs) rfl ((up2_ne (by simp)).trans (rW_0_3 hs)) ?_
  refine S_aload_n (pc := 74) dX10_copyFrom_74 rfl rfl ?_
  refine S_getR (pc := 75) dX10_copyFrom_75 flX10_34 (sW_0 hy) rfl ((up2_ne (by simp)).trans (rW_0_3 hy)) ?_
  refine S_callV (As := [.ref (y + 14)]) (mc := 0) (ms := 0) (pc := 78) dX10_copyFrom_78 miX0_copyFrom mvX0_copyFrom mlX10_115 rfl (sW_14 hs) rfl rfl rfl (RmOK.of rfl) H ?_
  rintro _ _ ⟨f5, g6, rfl, rfl, H⟩
  show WP _ _ _ _ _ _ _ 81 [some (.ref x), some (.ref y), none] [] (sh, f5, g6, (up2 fR x 7 (some p)))
  refine S_aload_n (pc := 81) dX10_copyFrom_81 rfl rfl ?_
  refine S_getR (pc := 82) dX10_copyFrom_82 flX10_41 (sW_0 hs) rfl ((up2_ne (by simp)).trans (rW_0_4 hs)) ?_
  refine S_aload_n (pc := 85) dX10_copyFrom_85 rfl rfl ?_
  refine S_getR (pc := 86) dX10_copyFrom_86 flX10_41 (sW_0 hy) rfl ((up2_ne (by simp)).trans (rW_0_4 hy)) ?_
  refine S_callV (As := [.ref (y + 20)]) (mc := 0) (ms := 0) (pc := 89) dX10_copyFrom_89 miX5_copyFrom mvX5_copyFrom mlX10_118 rfl (sW_20 hs) rfl rfl rfl (RmOK.of rfl) H ?_
  rintro _ _ ⟨f7, g8, rfl, rfl, H⟩
  show WP _ _ _ _ _ _ _ 92 [some (.ref x), some (.ref y), none] [] (sh, f7, g8, (up2 fR x 7 (some p)))
  refine S_aload_n (pc := 92) dX10_copyFrom_92 rfl rfl ?_
  refine S_getR (pc := 93) dX10_copyFrom_93 flX10_48 (sW_0 hs) rfl ((up2_ne (by simp)).trans (rW_0_5 hs)) ?_
  refine S_aload_n (pc := 96) dX10_copyFrom_96 rfl rfl ?_
  refine S_getR (pc := 97) dX10_copyFrom_97 flX10_48 (sW_0 hy) rfl ((up2_ne (by simp)).trans (rW_0_5 hy)) ?_
  refine S_callV (As := [.ref (y + 23)]) (mc := 0) (ms := 0) (pc := 100) dX10_copyFrom_100 miX4_copyFrom mvX4_copyFrom mlX10_121 rfl (sW_23 hs) rfl rfl rfl (RmOK.of rfl) H ?_
  rintro _ _ ⟨f9, g10, rfl, rfl, H⟩
  show WP _ _ _ _ _ _ _ 103 [some (.ref x), some (.ref y), none] [] (sh, f9, g10, (up2 fR x 7 (some p)))
  refine S_iconst (pc := 103) dX10_copyFrom_103 ic0 ?_
  refine S_istore_n (pc := 104) (L' := [some (.ref x), some (.ref y), some (.int (nI 0))]) dX10_copyFrom_104 rfl (by decide) rfl ?_
  exact H
set_option maxHeartbeats 2000000 in
set_option maxRecDepth 4000 in
theorem VX10_copyFrom_105 {l : Launch} {G : Gx} {d : Nat} {Q : Option Value → Hp → Prop} {sh : Sh} {fR : FRt} {x y p : Nat} {f : FI} {g : FL} {a2 : Int32} (hs : StW sh fR x) (hy : StW sh fR y) (hp : fR y 7 = some p) (hP : StPl sh fR p)
    (H : (((nI 4) ≤ a2 → Q none (sh, f, g, fR)) ∧ (¬ (nI 4) ≤ a2 → inb a2 4 ∧ (∃ r13, fR (x + 1) a2.toNatClampNeg = some r13 ∧ sh[r13]? = some (8, 8) ∧ 0 < r13 ∧ inb a2 4 ∧ (∃ r18, fR (y + 1) a2.toNatClampNeg = some r18 ∧ sh[r18]? = some (8, 8) ∧ 0 < r18 ∧ ((up2 f r13 0 (f r18 0)) r18 1 = 0 ∨ (up2 f r13 0 (f r18 0)) r18 1 = 1) ∧ ((up2 (up2 f r13 0 (f r18 0)) r13 1 ((up2 f r13 0 (f r18 0)) r18 1)) r18 2 = 0 ∨ (up2 (up2 f r13 0 (f r18 0)) r13 1 ((up2 f r13 0 (f r18 0)) r18 1)) r18 2 = 1) ∧ ((up2 (up2 (up2 (up2 (up2 (up2 (up2 f r13 0 (f r18 0)) r13 1 ((up2 f r13 0 (f r18 0)) r18 1)) r13 2 ((up2 (up2 f r13 0 (f r18 0)) r13 1 ((up2 f r13 0 (f r18 0)) r18 1)) r18 2)) r13 3 ((up2 (up2 (up2 f r13 0 (f r18 0)) r13 1 ((up2 f r13 0 (f r18 0)) r18 1)) r13 2 ((up2 (up2 f r13 0 (f r18 0)) r13 1 ((up2 f r13 0 (f r18 0)) r18 1)) r18 2)) r18 3)) r13 4 ((up2 (up2 (up2 (up2 f r13 0 (f r18 0)) r13 1 ((up2 f r13 0 (f r18 0)) r18 1)) r13 2 ((up2 (up2 f r13 0 (f r18 0)) r13 1 ((up2 f r13 0 (f r18 0)) r18 1)) r18 2)) r13 3 ((up2 (up2 (up2 f r13 0 (f r18 0)) r13 1 ((up2 f r13 0 (f r18 0)) r18 1)) r13 2 ((up2 (up2 f r13 0 (f r18 0)) r13 1 ((up2 f r13 0 (f r18 0)) r18 1)) r18 2)) r18 3)) r18 4)) r13 5 ((up2 (up2 (up2 (up2 (up2 f r13 0 (f r18 0)) r13 1 ((up2 f r13 0 (f r18 0)) r18 1)) r13 2 ((up2 (up2 f r13 0 (f r18 0)) r13 1 ((up2 f r13 0 (f r18 0)) r18 1)) r18 2)) r13 3 ((up2 (up2 (up2 f r13 0 (f r18 0)) r13 1 ((up2 f r13 0 (f r18 0)) r18 1)) r13 2 ((up2 (up2 f r13 0 (f r18 0)) r13 1 ((up2 f r13 0 (f r18 0)) r18 1)) r18 2)) r18 3)) r13 4 ((up2 (up2 (up2 (up2 f r13 0 (f r18 0)) r13 1 ((up2 f r13 0 (f r18 0)) r18 1)) r13 2 ((up2 (up2 f r13 0 (f r18 0)) r13 1 ((up2 f r13 0 (f r18 0)) r18 1)) r18 2)) r13 3 ((up2 (up2 (up2 f r13 0 (f r18 0)) r13 1 ((up2 f r13 0 (f r18 0)) r18 1)) r13 2 ((up2 (up2 f r13 0 (f r18 0)) r13 1 ((up2 f r13 0 (f r18 0)) r18 1)) r18 2)) r18 3)) r18 4)) r18 5)) r13 6 ((up2 (up2 (up2 (up2 (up2 (up2 f r13 0 (f r18 0)) r13 1 ((up2 f r13 0 (f r18 0)) r18 1)) r13 2 ((up2 (up2 f r13 0 (f r18 0)) r13 1 ((up2 f r13 0 (f r18 0)) r18 1)) r18 2)) r13 3 ((up2 (up2 (up2 f r13 0 (f r18 0)) r13 1 ((up2 f r13 0 (f r18 0)) r18 1)) r13 2 ((up2 (up2 f r13 0 (f r18 0)) r13 1 ((up2 f r13 0 (f r18 0)) r18 1)) r18 2)) r18 3)) r13 4 ((up2 (up2 (up2 (up2 f r13 0 (f r18 0)) r13 1 ((up2 f r13 0 (f r18 0)) r18 1)) r13 2 ((up2 (up2 f r13 0 (f r18 0)) r13 1 ((up2 f r13 0 (f r18 0)) r18 1)) r18 2)) r13 3 ((up2 (up2 (up2 f r13 0 (f r18 0)) r13 1 ((up2 f r13 0 (f r18 0)) r18 1)) r13 2 ((up2 (up2 f r13 0 (f r18 0)) r13 1 ((up2 f r13 0 (f r18 0)) r18 1)) r18 2)) r18 3)) r18 4)) r13 5 ((up2 (up2 (up2 (up2 (up2 f r13 0 (f r18 0)) r13 1 ((up2 f r13 0 (f r18 0)) r18 1)) r13 2 ((up2 (up2 f r13 0 (f r18 0)) r13 1 ((up2 f r13 0 (f r18 0)) r18 1)) r18 2)) r13 3 ((up2 (up2 (up2 f r13 0 (f r18 0)) r13 1 ((up2 f r13 0 (f r18 0)) r18 1)) r13 2 ((up2 (up2 f r13 0 (f r18 0)) r13 1 ((up2 f r13 0 (f r18 0)) r18 1)) r18 2)) r18 3)) r13 4 ((up2 (up2 (up2 (up2 f r13 0 (f r18 0)) r13 1 ((up2 f r13 0 (f r18 0)) r18 1)) r13 2 ((up2 (up2 f r13 0 (f r18 0)) r13 1 ((up2 f r13 0 (f r18 0)) r18 1)) r18 2)) r13 3 ((up2 (up2 (up2 f r13 0 (f r18 0)) r13 1 ((up2 f r13 0 (f r18 0)) r18 1)) r13 2 ((up2 (up2 f r13 0 (f r18 0)) r13 1 ((up2 f r13 0 (f r18 0)) r18 1)) r18 2)) r18 3)) r18 4)) r18 5)) r18 6)) r18 7 = 0 ∨ (up2 (up2 (up2 (up2 (up2 (up2 (up2 f r13 0 (f r18 0)) r13 1 ((up2 f r13 0 (f r18 0)) r18 1)) r13 2 ((up2 (up2 f r13 0 (f r18 0)) r13 1 ((up2 f r13 0 (f r18 0)) r18 1)) r18 2)) r13 3 ((up2 (up2 (up2 f r13 0 (f r18 0)) r13 1 ((up2 f r13 0 (f r18 0)) r18 1)) r13 2 ((up2 (up2 f r13 0 (f r18 0)) r13 1 ((up2 f r13 0 (f r18 0)) r18 1)) r18 2)) r18 3)) r13 4 ((up2 (up2 (up2 (up2 f r13 0 (f r18 0)) r13 1 ((up2 f r13 0 (f r18 0)) r18 1)) r13 2 ((up2 (up2 f r13 0 (f r18 0)) r13 1 ((up2 f r13 0 (f r18 0)) r18 1)) r18 2)) r13 3 ((up2 (up2 (up2 f r13 0 (f r18 0)) r13 1 ((up2 f r13 0 (f r18 0)) r18 1)) r13 2 ((up2 (up2 f r13 0 (f r18 0)) r13 1 ((up2 f r13 0 (f r18 0)) r18 1)) r18 2)) r18 3)) r18 4)) r13 5 ((up2 (up2 (up2 (up2 (up2 f r13 0 (f r18 0)) r13 1 ((up2 f r13 0 (f r18 0)) r18 1)) r13 2 ((up2 (up2 f r13 0 (f r18 0)) r13 1 ((up2 f r13 0 (f r18 0)) r18 1)) r18 2)) r13 3 ((up2 (up2 (up2 f r13 0 (f r18 0)) r13 1 ((up2 f r13 0 (f r18 0)) r18 1)) r13 2 ((up2 (up2 f r13 0 (f r18 0)) r13 1 ((up2 f r13 0 (f r18 0)) r18 1)) r18 2)) r18 3)) r13 4 ((up2 (up2 (up2 (up2 f r13 0 (f r18 0)) r13 1 ((up2 f r13 0 (f r18 0)) r18 1)) r13 2 ((up2 (up2 f r13 0 (f r18 0)) r13 1 ((up2 f r13 0 (f r18 0)) r18 1)) r18 2)) r13 3 ((up2 (up2 (up2 f r13 0 (f r18 0)) r13 1 ((up2 f r13 0 (f r18 0)) r18 1)) r13 2 ((up2 (up2 f r13 0 (f r18 0)) r13 1 ((up2 f r13 0 (f r18 0)) r18 1)) r18 2)) r18 3)) r18 4)) r18 5)) r13 6 ((up2 (up2 (up2 (up2 (up2 (up2 f r13 0 (f r18 0)) r13 1 ((up2 f r13 0 (f r18 0)) r18 1)) r13 2 ((up2 (up2 f r13 0 (f r18 0)) r13 1 ((up2 f r13 0 (f r18 0)) r18 1)) r18 2)) r13 3 ((up2 (up2 (up2 f r13 0 (f r18 0)) r13 1 ((up2 f r13 0 (f r18 0)) r18 1)) r13 2 ((up2 (up2 f r13 0 (f r18 0)) r13 1 ((up2 f r13 0 (f r18 0)) r18 1)) r18 2)) r18 3)) r13 4 ((up2 (up2 (up2 (up2 f r13 0 (f r18 0)) r13 1 ((up2 f r13 0 (f r18 0)) r18 1)) r13 2 ((up2 (up2 f r13 0 (f r18 0)) r13 1 ((up2 f r13 0 (f r18 0)) r18 1)) r18 2)) r13 3 ((up2 (up2 (up2 f r13 0 (f r18 0)) r13 1 ((up2 f r13 0 (f r18 0)) r18 1)) r13 2 ((up2 (up2 f r13 0 (f r18 0)) r13 1 ((up2 f r13 0 (f r18 0)) r18 1)) r18 2)) r18 3)) r18 4)) r13 5 ((up2 (up2 (up2 (up2 (up2 f r13 0 (f r18 0)) r13 1 ((up2 f r13 0 (f r18 0)) r18 1)) r13 2 ((up2 (up2 f r13 0 (f r18 0)) r13 1 ((up2 f r13 0 (f r18 0)) r18 1)) r18 2)) r13 3 ((up2 (up2 (up2 f r13 0 (f r18 0)) r13 1 ((up2 f r13 0 (f r18 0)) r18 1)) r13 2 ((up2 (up2 f r13 0 (f r18 0)) r13 1 ((up2 f r13 0 (f r18 0)) r18 1)) r18 2)) r18 3)) r13 4 ((up2 (up2 (up2 (up2 f r13 0 (f r18 0)) r13 1 ((up2 f r13 0 (f r18 0)) r18 1)) r13 2 ((up2 (up2 f r13 0 (f r18 0)) r13 1 ((up2 f r13 0 (f r18 0)) r18 1)) r18 2)) r13 3 ((up2 (up2 (up2 f r13 0 (f r18 0)) r13 1 ((up2 f r13 0 (f r18 0)) r18 1)) r13 2 ((up2 (up2 f r13 0 (f r18 0)) r13 1 ((up2 f r13 0 (f r18 0)) r18 1)) r18 2)) r18 3)) r18 4)) r18 5)) r18 6)) r18 7 = 1) ∧ LpX10_copyFrom_105 l G d Q sh fR x y p (up2 (up2 (up2 (up2 (up2 (up2 (up2 (up2 f r13 0 (f r18 0)) r13 1 ((up2 f r13 0 (f r18 0)) r18 1)) r13 2 ((up2 (up2 f r13 0 (f r18 0)) r13 1 ((up2 f r13 0 (f r18 0)) r18 1)) r18 2)) r13 3 ((up2 (up2 (up2 f r13 0 (f r18 0)) r13 1 ((up2 f r13 0 (f r18 0)) r18 1)) r13 2 ((up2 (up2 f r13 0 (f r18 0)) r13 1 ((up2 f r13 0 (f r18 0)) r18 1)) r18 2)) r18 3)) r13 4 ((up2 (up2 (up2 (up2 f r13 0 (f r18 0)) r13 1 ((up2 f r13 0 (f r18 0)) r18 1)) r13 2 ((up2 (up2 f r13 0 (f r18 0)) r13 1 ((up2 f r13 0 (f r18 0)) r18 1)) r18 2)) r13 3 ((up2 (up2 (up2 f r13 0 (f r18 0)) r13 1 ((up2 f r13 0 (f r18 0)) r18 1)) r13 2 ((up2 (up2 f r13 0 (f r18 0)) r13 1 ((up2 f r13 0 (f r18 0)) r18 1)) r18 2)) r18 3)) r18 4)) r13 5 ((up2 (up2 (up2 (up2 (up2 f r13 0 (f r18 0)) r13 1 ((up2 f r13 0 (f r18 0)) r18 1)) r13 2 ((up2 (up2 f r13 0 (f r18 0)) r13 1 ((up2 f r13 0 (f r18 0)) r18 1)) r18 2)) r13 3 ((up2 (up2 (up2 f r13 0 (f r18 0)) r13 1 ((up2 f r13 0 (f r18 0)) r18 1)) r13 2 ((up2 (up2 f r13 0 (f r18 0)) r13 1 ((up2 f r13 0 (f r18 0)) r18 1)) r18 2)) r18 3)) r13 4 ((up2 (up2 (up2 (up2 f r13 0 (f r18 0)) r13 1 ((up2 f r13 0 (f r18 0)) r18 1)) r13 2 ((up2 (up2 f r13 0 (f r18 0)) r13 1 ((up2 f r13 0 (f r18 0)) r18 1)) r18 2)) r13 3 ((up2 (up2 (up2 f r13 0 (f r18 0)) r13 1 ((up2 f r13 0 (f r18 0)) r18 1)) r13 2 ((up2 (up2 f r13 0 (f r18 0)) r13 1 ((up2 f r13 0 (f r18 0)) r18 1)) r18 2)) r18 3)) r18 4)) r18 5)) r13 6 ((up2 (up2 (up2 (up2 (up2 (up2 f r13 0 (f r18 0)) r13 1 ((up2 f r13 0 (f r18 0)) r18 1)) r13 2 ((up2 (up2 f r13 0 (f r18 0)) r13 1 ((up2 f r13 0 (f r18 0)) r18 1)) r18 2)) r13 3 ((up2 (up2 (up2 f r13 0 (f r18 0)) r13 1 ((up2 f r13 0 (f r18 0)) r18 1)) r13 2 ((up2 (up2 f r13 0 (f r18 0)) r13 1 ((up2 f r13 0 (f r18 0)) r18 1)) r18 2)) r18 3)) r13 4 ((up2 (up2 (up2 (up2 f r13 0 (f r18 0)) r13 1 ((up2 f r13 0 (f r18 0)) r18 1)) r13 2 ((up2 (up2 f r13 0 (f r18 0)) r13 1 ((up2 f r13 0 (f r18 0)) r18 1)) r18 2)) r13 3 ((up2 (up2 (up2 f r13 0 (f r18 0)) r13 1 ((up2 f r13 0 (f r18 0)) r18 1)) r13 2 ((up2 (up2 f r13 0 (f r18 0)) r13 1 ((up2 f r13 0 (f r18 0)) r18 1)) r18 2)) r18 3)) r18 4)) r13 5 ((up2 (up2 (up2 (up2 (up2 f r13 0 (f r18 0)) r13 1 ((up2 f r13 0 (f r18 0)) r18 1)) r13 2 ((up2 (up2 f r13 0 (f r18 0)) r13 1 ((up2 f r13 0 (f r18 0)) r18 1)) r18 2)) r13 3 ((up2 (up2 (up2 f r13 0 (f r18 0)) r13 1 ((up2 f r13 0 (f r18 0)) r18 1)) r13 2 ((up2 (up2 f r13 0 (f r18 0)) r13 1 ((up2 f r13 0 (f r18 0)) r18 1)) r18 2)) r18 3)) r13 4 ((up2 (up2 (up2 (up2 f r13 0 (f r18 0)) r13 1 ((up2 f r13 0 (f r18 0)) r18 1)) r13 2 ((up2 (up2 f r13 0 (f r18 0)) r13 1 ((up2 f r13 0 (f r18 0)) r18 1)) r18 2)) r13 3 ((up2 (up2 (up2 f r13 0 (f r18 0)) r13 1 ((up2 f r13 0 (f r18 0)) r18 1)) r13 2 ((up2 (up2 f r13 0 (f r18 0)) r13 1 ((up2 f r13 0 (f r18 0)) r18 1)) r18 2)) r18 3)) r18 4)) r18 5)) r18 6)) r13 7 ((up2 (up2 (up2 (up2 (up2 (up2 (up2 f r13 0 (f r18 0)) r13 1 ((up2 f r13 0 (f r18 0)) r18 1)) r13 2 ((up2 (up2 f r13 0 (f r18 0)) r13 1 ((up2 f r13 0 (f r18 0)) r18 1)) r18 2)) r13 3 ((up2 (up2 (up2 f r13 0 (f r18 0)) r13 1 ((up2 f r13 0 (f r18 0)) r18 1)) r13 2 ((up2 (up2 f r13 0 (f r18 0)) r13 1 ((up2 f r13 0 (f r18 0)) r18 1)) r18 2)) r18 3)) r13 4 ((up2 (up2 (up2 (up2 f r13 0 (f r18 0)) r13 1 ((up2 f r13 0 (f r18 0)) r18 1)) r13 2 ((up2 (up2 f r13 0 (f r18 0)) r13 1 ((up2 f r13 0 (f r18 0)) r18 1)) r18 2)) r13 3 ((up2 (up2 (up2 f r13 0 (f r18 0)) r13 1 ((up2 f r13 0 (f r18 0)) r18 1)) r13 2 ((up2 (up2 f r13 0 (f r18 0)) r13 1 ((up2 f r13 0 (f r18 0)) r18 1)) r18 2)) r18 3)) r18 4)) r13 5 ((up2 (up2 (up2 (up2 (up2 f r13 0 (f r18 0)) r13 1 ((up2 f r13 0 (f r18 0)) r18 1)) r13 2 ((up2 (up2 f r13 0 (f r18 0)) r13 1 ((up2 f r13 0 (f r18 0)) r18 1)) r18 2)) r13 3 ((up2 (up2 (up2 f r13 0 (f r18 0)) r13 1 ((up2 f r13 0 (f r18 0)) r18 1)) r13 2 ((up2 (up2 f r13 0 (f r18 0)) r13 1 ((up2 f r13 0 (f r18 0)) r18 1)) r18 2)) r18 3)) r13 4 ((up2 (up2 (up2 (up2 f r13 0 (f r18 0)) r13 1 ((up2 f r13 0 (f r18 0)) r18 1)) r13 2 ((up2 (up2 f r13 0 (f r18 0)) r13 1 ((up2 f r13 0 (f r18 0)) r18 1)) r18 2)) r13 3 ((up2 (up2 (up2 f r13 0 (f r18 0)) r13 1 ((up2 f r13 0 (f r18 0)) r18 1)) r13 2 ((up2 (up2 f r13 0 (f r18 0)) r13 1 ((up2 f r13 0 (f r18 0)) r18 1)) r18 2)) r18 3)) r18 4)) r18 5)) r13 6 ((up2 (up2 (up2 (up2 (up2 (up2 f r13 0 (f r18 0)) r13 1 ((up2 f r13 0 (f r18 0)) r18 1)) r13 2 ((up2 (up2 f r13 0 (f r18 0)) r13 1 ((up2 f r13 0 (f r18 0)) r18 1)) r18 2)) r13 3 ((up2 (up2 (up2 f r13 0 (f r18 0)) r13 1 ((up2 f r13 0 (f r18 0)) r18 1)) r13 2 ((up2 (up2 f r13 0 (f r18 0)) r13 1 ((up2 f r13 0 (f r18 0)) r18 1)) r18 2)) r18 3)) r13 4 ((up2 (up2 (up2 (up2 f r13 0 (f r18 0)) r13 1 ((up2 f r13 0 (f r18 0)) r18 1)) r13 2 ((up2 (up2 f r13 0 (f r18 0)) r13 1 ((up2 f r13 0 (f r18 0)) r18 1)) r18 2)) r13 3 ((up2 (up2 (up2 f r13 0 (f r18 0)) r13 1 ((up2 f r13 0 (f r18 0)) r18 1)) r13 2 ((up2 (up2 f r13 0 (f r18 0)) r13 1 ((up2 f r13 0 (f r18 0)) r18 1)) r18 2)) r18 3)) r18 4)) r13 5 ((up2 (up2 (up2 (up2 (up2 f r13 0 (f r18 0)) r13 1 ((up2 f r13 0 (f r18 0)) r18 1)) r13 2 ((up2 (up2 f r13 0 (f r18 0)) r13 1 ((up2 f r13 0 (f r18 0)) r18 1)) r18 2)) r13 3 ((up2 (up2 (up2 f r13 0 (f r18 0)) r13 1 ((up2 f r13 0 (f r18 0)) r18 1)) r13 2 ((up2 (up2 f r13 0 (f r18 0)) r13 1 ((up2 f r13 0 (f r18 0)) r18 1)) r18 2)) r18 3)) r13 4 ((up2 (up2 (up2 (up2 f r13 0 (f r18 0)) r13 1 ((up2 f r13 0 (f r18 0)) r18 1)) r13 2 ((up2 (up2 f r13 0 (f r18 0)) r13 1 ((up2 f r13 0 (f r18 0)) r18 1)) r18 2)) r13 3 ((up2 (up2 (up2 f r13 0 (f r18 0)) r13 1 ((up2 f r13 0 (f r18 0)) r18 1)) r13 2 ((up2 (up2 f r13 0 (f r18 0)) r13 1 ((up2 f r13 0 (f r18 0)) r18 1)) r18 2)) r18 3)) r18 4)) r18 5)) r18 6)) r18 7)) g (a2 + nI 1)))))) :
    LpX10_copyFrom_105 l G d Q sh fR x y p f g a2 := by
  refine S_iload_n (pc := 105) dX10_copyFrom_105 rfl rfl ?_
  refine S_iconst (pc := 106) dX10_copyFrom_106 ic4 ?_
  refine S_icmp_ge (pc := 107) (tgt := 131) dX10_copyFrom_107 rfl (fun hc11 => ?_) (fun hc11 => ?_)
  · replace H := H.1 hc11
    exact S_vreturn dX10_copyFrom_131 rfl H
  · replace H := H.2 hc11
    refine S_aload_n (pc := 110) dX10_copyFrom_110 rfl rfl ?_
    refine S_getR (pc := 111) dX10_copyFrom_111 flX10_11 (sW_0 hs) rfl (rW_0_0 hs) ?_
    refine S_iload_n (pc := 114) dX10_copyFrom_114 rfl rfl ?_
    obtain ⟨hb12, H⟩ := H
    obtain ⟨r13, e14, s15, p16, H⟩ := H
    refine S_aald24 (pc := 115) dX10_copyFrom_115 (sW_1 hs) hb12 e14 ?_
    refine S_aload_n (pc := 116) dX10_copyFrom_116 rfl rfl ?_
    refine S_getR (pc := 117) dX10_copyFrom_117 flX10_11 (sW_0 hy) rfl (rW_0_0 hy) ?_
    refine S_iload_n (pc := 120) dX10_copyFrom_120 rfl rfl ?_
    obtain ⟨hb17, H⟩ := H
    obtain ⟨r18, e19, s20, p21, H⟩ := H
    refine S_aald24 (pc := 121) dX10_copyFrom_121 (sW_1 hy) hb17 e19 ?_
    refine S_callV (As := [.ref r18]) (mc := 0) (ms := 0) (pc := 122) dX10_copyFrom_122 miX8_copyFrom mvX8_copyFrom mlX10_124 rfl s15 rfl rfl rfl (RmOK.of rfl) (Q := fun r h => WP _ _ _ _ _ _ _ 125 [some (.ref x), some (.ref y), some (.int a2)] (r.toList ++ []) h) (Cl.of miX8_copyFrom rfl rfl ?_) (fun _ _ q => q)
    refine S_aload_n (pc := 0) dX8_copyFrom_0 rfl rfl ?_
    refine S_aload_n (pc := 1) dX8_copyFrom_1 rfl rfl ?_
    refine S_get (pc := 2) (v := .int (f r18 0)) dX8_copyFrom_2 flX8_7 s20 rfl ?_
    refine S_putI (pc := 5) dX8_copyFrom_5 flX8_7 s15 p16 (nf_8_0) rfl rfl (fun _ => rfl) ?_
    refine S_aload_n (pc := 8) dX8_copyFrom_8 rfl rfl ?_
    refine S_aload_n (pc := 9) dX8_copyFrom_9 rfl rfl ?_
    refine S_get (pc := 10) (v := .int ((up2 f r13 0 (f r18 0)) r18 1)) dX8_copyFrom_10 flX8_13 s20 rfl ?_
    obtain ⟨hc22, H⟩ := H
    refine S_putI (pc := 13) dX8_copyFrom_13 flX8_13 s15 p16 (nf_8_1) (nb_of hc22) (fb_of hc22) (fun _ => rfl) ?_
    refine S_aload_n (pc := 16) dX8_copyFrom_16 rfl rfl ?_
    refine S_aload_n (pc := 17) dX8_copyFrom_17 rfl rfl ?_
    refine S_get (pc := 18) (v := .int ((up2 (up2 f r13 0 (f r18 0)) r13 1 ((up2 f r13 0 (f r18 0)) r18 1)) r18 2)) dX8_copyFrom_18 flX8_17 s20 rfl ?_
    obtain ⟨hc23, H⟩ := H
    refine S_putI (pc := 21) dX8_copyFrom_21 flX8_17 s15 p16 (nf_8_2) (nb_of hc23) (fb_of hc23) (fun _ => rfl) ?_
    refine S_aload_n (pc := 24) dX8_copyFrom_24 rfl rfl ?_
    refine S_aload_n (pc := 25) dX8_copyFrom_25 rfl rfl ?_
    refine S_get (pc := 26) (v := .int ((up2 (up2 (up2 f r13 0 (f r18 0)) r13 1 ((up2 f r13 0 (f r18 0)) r18 1)) r13 2 ((up2 (up2 f r13 0 (f r18 0)) r13 1 ((up2 f r13 0 (f r18 0)) r18 1)) r18 2)) r18 3)) dX8_copyFrom_26 flX8_20 s20 rfl ?_
    refine S_putI (pc := 29) dX8_copyFrom_29 flX8_20 s15 p16 (nf_8_3) rfl rfl (fun _ => rfl) ?_
    refine S_aload_n (pc := 32) dX8_copyFrom_32 rfl rfl ?_
    refine S_aload_n (pc := 33) dX8_copyFrom_33 rfl rfl ?_
    refine S_get (pc := 34) (v := .int ((up2 (up2 (up2 (up2 f r13 0 (f r18 0)) r13 1 ((up2 f r13 0 (f r18 0)) r18 1)) r13 2 ((up2 (up2 f r13 0 (f r18 0)) r13 1 ((up2 f r13 0 (f r18 0)) r18 1)) r18 2)) r13 3 ((up2 (up2 (up2 f r13 0 (f r18 0)) r13 1 ((up2 f r13 0 (f r18 0)) r18 1)) r13 2 ((up2 (up2 f r13 0 (f r18 0)) r13 1 ((up2 f r13 0 (f r18 0)) r18 1)) r18 2)) r18 3)) r18 4)) dX8_copyFrom_34 flX8_23 s20 rfl ?_
    refine S_putI (pc := 37) dX8_copyFrom_37 flX8_23 s15 p16 (nf_8_4) rfl rfl (fun _ => rfl) ?_
    refine S_aload_n (pc := 40) dX8_copyFrom_40 rfl rfl ?_
    refine S_aload_n (pc := 41) dX8_copyFrom_41 rfl rfl ?_
    refine S_get (pc := 42) (v := .int ((up2 (up2 (up2 (up2 (up2 f r13 0 (f r18 0)) r13 1 ((up2 f r13 0 (f r18 0)) r18 1)) r13 2 ((up2 (up2 f r13 0 (f r18 0)) r13 1 ((up2 f r13 0 (f r18 0)) r18 1)) r18 2)) r13 3 ((up2 (up2 (up2 f r13 0 (f r18 0)) r13 1 ((up2 f r13 0 (f r18 0)) r18 1)) r13 2 ((up2 (up2 f r13 0 (f r18 0)) r13 1 ((up2 f r13 0 (f r18 0)) r18 1)) r18 2)) r18 3)) r13 4 ((up2 (up2 (up2 (up2 f r13 0 (f r18 0)) r13 1 ((up2 f r13 0 (f r18 0)) r18 1)) r13 2 ((up2 (up2 f r13 0 (f r18 0)) r13 1 ((up2 f r13 0 (f r18 0)) r18 1)) r18 2)) r13 3 ((up2 (up2 (up2 f r13 0 (f r18 0)) r13 1 ((up2 f r13 0 (f r18 0)) r18 1)) r13 2 ((up2 (up2 f r13 0 (f r18 0)) r13 1 ((up2 f r13 0 (f r18 0)) r18 1)) r18 2)) r18 3)) r18 4)) r18 5)) dX8_copyFrom_42 flX8_26 s20 rfl ?_
    refine S_putI (pc := 45) dX8_copyFrom_45 flX8_26 s15 p16 (nf_8_5) rfl rfl (fun _ => rfl) ?_
    refine S_aload_n (pc := 48) dX8_copyFrom_48 rfl rfl ?_
    refine S_aload_n (pc := 49) dX8_copyFrom_49 rfl rfl ?_
    refine S_get (pc := 50) (v := .int ((up2 (up2 (up2 (up2 (up2 (up2 f r13 0 (f r18 0)) r13 1 ((up2 f r13 0 (f r18 0)) r18 1)) r13 2 ((up2 (up2 f r13 0 (f r18 0)) r13 1 ((up2 f r13 0 (f r18 0)) r18 1)) r18 2)) r13 3 ((up2 (up2 (up2 f r13 0 (f r18 0)) r13 1 ((up2 f r13 0 (f r18 0)) r18 1)) r13 2 ((up2 (up2 f r13 0 (f r18 0)) r13 1 ((up2 f r13 0 (f r18 0)) r18 1)) r18 2)) r18 3)) r13 4 ((up2 (up2 (up2 (up2 f r13 0 (f r18 0)) r13 1 ((up2 f r13 0 (f r18 0)) r18 1)) r13 2 ((up2 (up2 f r13 0 (f r18 0)) r13 1 ((up2 f r13 0 (f r18 0)) r18 1)) r18 2)) r13 3 ((up2 (up2 (up2 f r13 0 (f r18 0)) r13 1 ((up2 f r13 0 (f r18 0)) r18 1)) r13 2 ((up2 (up2 f r13 0 (f r18 0)) r13 1 ((up2 f r13 0 (f r18 0)) r18 1)) r18 2)) r18 3)) r18 4)) r13 5 ((up2 (up2 (up2 (up2 (up2 f r13 0 (f r18 0)) r13 1 ((up2 f r13 0 (f r18 0)) r18 1)) r13 2 ((up2 (up2 f r13 0 (f r18 0)) r13 1 ((up2 f r13 0 (f r18 0)) r18 1)) r18 2)) r13 3 ((up2 (up2 (up2 f r13 0 (f r18 0)) r13 1 ((up2 f r13 0 (f r18 0)) r18 1)) r13 2 ((up2 (up2 f r13 0 (f r18 0)) r13 1 ((up2 f r13 0 (f r18 0)) r18 1)) r18 2)) r18 3)) r13 4 ((up2 (up2 (up2 (up2 f r13 0 (f r18 0)) r13 1 ((up2 f r13 0 (f r18 0)) r18 1)) r13 2 ((up2 (up2 f r13 0 (f r18 0)) r13 1 ((up2 f r13 0 (f r18 0)) r18 1)) r18 2)) r13 3 ((up2 (up2 (up2 f r13 0 (f r18 0)) r13 1 ((up2 f r13 0 (f r18 0)) r18 1)) r13 2 ((up2 (up2 f r13 0 (f r18 0)) r13 1 ((up2 f r13 0 (f r18 0)) r18 1)) r18 2)) r18 3)) r18 4)) r18 5)) r18 6)) dX8_copyFrom_50 flX8_29 s20 rfl ?_
    refine S_putI (pc := 53) dX8_copyFrom_53 flX8_29 s15 p16 (nf_8_6) rfl rfl (fun _ => rfl) ?_
    refine S_aload_n (pc := 56) dX8_copyFrom_56 rfl rfl ?_
    refine S_aload_n (pc := 57) dX8_copyFrom_57 rfl rfl ?_
    refine S_get (pc := 58) (v := .int ((up2 (up2 (up2 (up2 (up2 (up2 (up2 f r13 0 (f r18 0)) r13 1 ((up2 f r13 0 (f r18 0)) r18 1)) r13 2 ((up2 (up2 f r13 0 (f r18 0)) r13 1 ((up2 f r13 0 (f r18 0)) r18 1)) r18 2)) r13 3 ((up2 (up2 (up2 f r13 0 (f r18 0)) r13 1 ((up2 f r13 0 (f r18 0)) r18 1)) r13 2 ((up2 (up2 f r13 0 (f r18 0)) r13 1 ((up2 f r13 0 (f r18 0)) r18 1)) r18 2)) r18 3)) r13 4 ((up2 (up2 (up2 (up2 f r13 0 (f r18 0)) r13 1 ((up2 f r13 0 (f r18 0)) r18 1)) r13 2 ((up2 (up2 f r13 0 (f r18 0)) r13 1 ((up2 f r13 0 (f r18 0)) r18 1)) r18 2)) r13 3 ((up2 (up2 (up2 f r13 0 (f r18 0)) r13 1 ((up2 f r13 0 (f r18 0)) r18 1)) r13 2 ((up2 (up2 f r13 0 (f r18 0)) r13 1 ((up2 f r13 0 (f r18 0)) r18 1)) r18 2)) r18 3)) r18 4)) r13 5 ((up2 (up2 (up2 (up2 (up2 f r13 0 (f r18 0)) r13 1 ((up2 f r13 0 (f r18 0)) r18 1)) r13 2 ((up2 (up2 f r13 0 (f r18 0)) r13 1 ((up2 f r13 0 (f r18 0)) r18 1)) r18 2)) r13 3 ((up2 (up2 (up2 f r13 0 (f r18 0)) r13 1 ((up2 f r13 0 (f r18 0)) r18 1)) r13 2 ((up2 (up2 f r13 0 (f r18 0)) r13 1 ((up2 f r13 0 (f r18 0)) r18 1)) r18 2)) r18 3)) r13 4 ((up2 (up2 (up2 (up2 f r13 0 (f r18 0)) r13 1 ((up2 f r13 0 (f r18 0)) r18 1)) r13 2 ((up2 (up2 f r13 0 (f r18 0)) r13 1 ((up2 f r13 0 (f r18 0)) r18 1)) r18 2)) r13 3 ((up2 (up2 (up2 f r13 0 (f r18 0)) r13 1 ((up2 f r13 0 (f r18 0)) r18 1)) r13 2 ((up2 (up2 f r13 0 (f r18 0)) r13 1 ((up2 f r13 0 (f r18 0)) r18 1)) r18 2)) r18 3)) r18 4)) r18 5)) r13 6 ((up2 (up2 (up2 (up2 (up2 (up2 f r13 0 (f r18 0)) r13 1 ((up2 f r13 0 (f r18 0)) r18 1)) r13 2 ((up2 (up2 f r13 0 (f r18 0)) r13 1 ((up2 f r13 0 (f r18 0)) r18 1)) r18 2)) r13 3 ((up2 (up2 (up2 f r13 0 (f r18 0)) r13 1 ((up2 f r13 0 (f r18 0)) r18 1)) r13 2 ((up2 (up2 f r13 0 (f r18 0)) r13 1 ((up2 f r13 0 (f r18 0)) r18 1)) r18 2)) r18 3)) r13 4 ((up2 (up2 (up2 (up2 f r13 0 (f r18 0)) r13 1 ((up2 f r13 0 (f r18 0)) r18 1)) r13 2 ((up2 (up2 f r13 0 (f r18 0)) r13 1 ((up2 f r13 0 (f r18 0)) r18 1)) r18 2)) r13 3 ((up2 (up2 (up2 f r13 0 (f r18 0)) r13 1 ((up2 f r13 0 (f r18 0)) r18 1)) r13 2 ((up2 (up2 f r13 0 (f r18 0)) r13 1 ((up2 f r13 0 (f r18 0)) r18 1)) r18 2)) r18 3)) r18 4)) r13 5 ((up2 (up2 (up2 (up2 (up2 f r13 0 (f r18 0)) r13 1 ((up2 f r13 0 (f r18 0)) r18 1)) r13 2 ((up2 (up2 f r13 0 (f r18 0)) r13 1 ((up2 f r13 0 (f r18 0)) r18 1)) r18 2)) r13 3 ((up2 (up2 (up2 f r13 0 (f r18 0)) r13 1 ((up2 f r13 0 (f r18 0)) r18 1)) r13 2 ((up2 (up2 f r13 0 (f r18 0)) r13 1 ((up2 f r13 0 (f r18 0)) r18 1)) r18 2)) r18 3)) r13 4 ((up2 (up2 (up2 (up2 f r13 0 (f r18 0)) r13 1 ((up2 f r13 0 (f r18 0)) r18 1)) r13 2 ((up2 (up2 f r13 0 (f r18 0)) r13 1 ((up2 f r13 0 (f r18 0)) r18 1)) r18 2)) r13 3 ((up2 (up2 (up2 f r13 0 (f r18 0)) r13 1 ((up2 f r13 0 (f r18 0)) r18 1)) r13 2 ((up2 (up2 f r13 0 (f r18 0)) r13 1 ((up2 f r13 0 (f r18 0)) r18 1)) r18 2)) r18 3)) r18 4)) r18 5)) r18 6)) r18 7)) dX8_copyFrom_58 flX8_32 s20 rfl ?_
    obtain ⟨hc24, H⟩ := H
    refine S_putI (pc := 61) dX8_copyFrom_61 flX8_32 s15 p16 (nf_8_7) (nb_of hc24) (fb_of hc24) (fun _ => rfl) ?_
    refine S_vreturn dX8_copyFrom_64 rfl ?_
    show WP _ _ _ _ _ _ _ 125 [some (.ref x), some (.ref y), some (.int a2)] [] (sh, (up2 (up2 (up2 (up2 (up2 (up2 (up2 (up2 f r13 0 (f r18 0)) r13 1 ((up2 f r13 0 (f r18 0)) r18 1)) r13 2 ((up2 (up2 f r13 0 (f r18 0)) r13 1 ((up2 f r13 0 (f r18 0)) r18 1)) r18 2)) r13 3 ((up2 (up2 (up2 f r13 0 (f r18 0)) r13 1 ((up2 f r13 0 (f r18 0)) r18 1)) r13 2 ((up2 (up2 f r13 0 (f r18 0)) r13 1 ((up2 f r13 0 (f r18 0)) r18 1)) r18 2)) r18 3)) r13 4 ((up2 (up2 (up2 (up2 f r13 0 (f r18 0)) r13 1 ((up2 f r13 0 (f r18 0)) r18 1)) r13 2 ((up2 (up2 f r13 0 (f r18 0)) r13 1 ((up2 f r13 0 (f r18 0)) r18 1)) r18 2)) r13 3 ((up2 (up2 (up2 f r13 0 (f r18 0)) r13 1 ((up2 f r13 0 (f r18 0)) r18 1)) r13 2 ((up2 (up2 f r13 0 (f r18 0)) r13 1 ((up2 f r13 0 (f r18 0)) r18 1)) r18 2)) r18 3)) r18 4)) r13 5 ((up2 (up2 (up2 (up2 (up2 f r13 0 (f r18 0)) r13 1 ((up2 f r13 0 (f r18 0)) r18 1)) r13 2 ((up2 (up2 f r13 0 (f r18 0)) r13 1 ((up2 f r13 0 (f r18 0)) r18 1)) r18 2)) r13 3 ((up2 (up2 (up2 f r13 0 (f r18 0)) r13 1 ((up2 f r13 0 (f r18 0)) r18 1)) r13 2 ((up2 (up2 f r13 0 (f r18 0)) r13 1 ((up2 f r13 0 (f r18 0)) r18 1)) r18 2)) r18 3)) r13 4 ((up2 (up2 (up2 (up2 f r13 0 (f r18 0)) r13 1 ((up2 f r13 0 (f r18 0)) r18 1)) r13 2 ((up2 (up2 f r13 0 (f r18 0)) r13 1 ((up2 f r13 0 (f r18 0)) r18 1)) r18 2)) r13 3 ((up2 (up2 (up2 f r13 0 (f r18 0)) r13 1 ((up2 f r13 0 (f r18 0)) r18 1)) r13 2 ((up2 (up2 f r13 0 (f r18 0)) r13 1 ((up2 f r13 0 (f r18 0)) r18 1)) r18 2)) r18 3)) r18 4)) r18 5)) r13 6 ((up2 (up2 (up2 (up2 (up2 (up2 f r13 0 (f r18 0)) r13 1 ((up2 f r13 0 (f r18 0)) r18 1)) r13 2 ((up2 (up2 f r13 0 (f r18 0)) r13 1 ((up2 f r13 0 (f r18 0)) r18 1)) r18 2)) r13 3 ((up2 (up2 (up2 f r13 0 (f r18 0)) r13 1 ((up2 f r13 0 (f r18 0)) r18 1)) r13 2 ((up2 (up2 f r13 0 (f r18 0)) r13 1 ((up2 f r13 0 (f r18 0)) r18 1)) r18 2)) r18 3)) r13 4 ((up2 (up2 (up2 (up2 f r13 0 (f r18 0)) r13 1 ((up2 f r13 0 (f r18 0)) r18 1)) r13 2 ((up2 (up2 f r13 0 (f r18 0)) r13 1 ((up2 f r13 0 (f r18 0)) r18 1)) r18 2)) r13 3 ((up2 (up2 (up2 f r13 0 (f r18 0)) r13 1 ((up2 f r13 0 (f r18 0)) r18 1)) r13 2 ((up2 (up2 f r13 0 (f r18 0)) r13 1 ((up2 f r13 0 (f r18 0)) r18 1)) r18 2)) r18 3)) r18 4)) r13 5 ((up2 (up2 (up2 (up2 (up2 f r13 0 (f r18 0)) r13 1 ((up2 f r13 0 (f r18 0)) r18 1)) r13 2 ((up2 (up2 f r13 0 (f r18 0)) r13 1 ((up2 f r13 0 (f r18 0)) r18 1)) r18 2)) r13 3 ((up2 (up2 (up2 f r13 0 (f r18 0)) r13 1 ((up2 f r13 0 (f r18 0)) r18 1)) r13 2 ((up2 (up2 f r13 0 (f r18 0)) r13 1 ((up2 f r13 0 (f r18 0)) r18 1)) r18 2)) r18 3)) r13 4 ((up2 (up2 (up2 (up2 f r13 0 (f r18 0)) r13 1 ((up2 f r13 0 (f r18 0)) r18 1)) r13 2 ((up2 (up2 f r13 0 (f r18 0)) r13 1 ((up2 f r13 0 (f r18 0)) r18 1)) r18 2)) r13 3 ((up2 (up2 (up2 f r13 0 (f r18 0)) r13 1 ((up2 f r13 0 (f r18 0)) r18 1)) r13 2 ((up2 (up2 f r13 0 (f r18 0)) r13 1 ((up2 f r13 0 (f r18 0)) r18 1)) r18 2)) r18 3)) r18 4)) r18 5)) r18 6)) r13 7 ((up2 (up2 (up2 (up2 (up2 (up2 (up2 f r13 0 (f r18 0)) r13 1 ((up2 f r13 0 (f r18 0)) r18 1)) r13 2 ((up2 (up2 f r13 0 (f r18 0)) r13 1 ((up2 f r13 0 (f r18 0)) r18 1)) r18 2)) r13 3 ((up2 (up2 (up2 f r13 0 (f r18 0)) r13 1 ((up2 f r13 0 (f r18 0)) r18 1)) r13 2 ((up2 (up2 f r13 0 (f r18 0)) r13 1 ((up2 f r13 0 (f r18 0)) r18 1)) r18 2)) r18 3)) r13 4 ((up2 (up2 (up2 (up2 f r13 0 (f r18 0)) r13 1 ((up2 f r13 0 (f r18 0)) r18 1)) r13 2 ((up2 (up2 f r13 0 (f r18 0)) r13 1 ((up2 f r13 0 (f r18 0)) r18 1)) r18 2)) r13 3 ((up2 (up2 (up2 f r13 0 (f r18 0)) r13 1 ((up2 f r13 0 (f r18 0)) r18 1)) r13 2 ((up2 (up2 f r13 0 (f r18 0)) r13 1 ((up2 f r13 0 (f r18 0)) r18 1)) r18 2)) r18 3)) r18 4)) r13 5 ((up2 (up2 (up2 (up2 (up2 f r13 0 (f r18 0)) r13 1 ((up2 f r13 0 (f r18 0)) r18 1)) r13 2 ((up2 (up2 f r13 0 (f r18 0)) r13 1 ((up2 f r13 0 (f r18 0)) r18 1)) r18 2)) r13 3 ((up2 (up2 (up2 f r13 0 (f r18 0)) r13 1 ((up2 f r13 0 (f r18 0)) r18 1)) r13 2 ((up2 (up2 f r13 0 (f r18 0)) r13 1 ((up2 f r13 0 (f r18 0)) r18 1)) r18 2)) r18 3)) r13 4 ((up2 (up2 (up2 (up2 f r13 0 (f r18 0)) r13 1 ((up2 f r13 0 (f r18 0)) r18 1)) r13 2 ((up2 (up2 f r13 0 (f r18 0)) r13 1 ((up2 f r13 0 (f r18 0)) r18 1)) r18 2)) r13 3 ((up2 (up2 (up2 f r13 0 (f r18 0)) r13 1 ((up2 f r13 0 (f r18 0)) r18 1)) r13 2 ((up2 (up2 f r13 0 (f r18 0)) r13 1 ((up2 f r13 0 (f r18 0)) r18 1)) r18 2)) r18 3)) r18 4)) r18 5)) r13 6 ((up2 (up2 (up2 (up2 (up2 (up2 f r13 0 (f r18 0)) r13 1 ((up2 f r13 0 (f r18 0)) r18 1)) r13 2 ((up2 (up2 f r13 0 (f r18 0)) r13 1 ((up2 f r13 0 (f r18 0)) r18 1)) r18 2)) r13 3 ((up2 (up2 (up2 f r13 0 (f r18 0)) r13 1 ((up2 f r13 0 (f r18 0)) r18 1)) r13 2 ((up2 (up2 f r13 0 (f r18 0)) r13 1 ((up2 f r13 0 (f r18 0)) r18 1)) r18 2)) r18 3)) r13 4 ((up2 (up2 (up2 (up2 f r13 0 (f r18 0)) r13 1 ((up2 f r13 0 (f r18 0)) r18 1)) r13 2 ((up2 (up2 f r13 0 (f r18 0)) r13 1 ((up2 f r13 0 (f r18 0)) r18 1)) r18 2)) r13 3 ((up2 (up2 (up2 f r13 0 (f r18 0)) r13 1 ((up2 f r13 0 (f r18 0)) r18 1)) r13 2 ((up2 (up2 f r13 0 (f r18 0)) r13 1 ((up2 f r13 0 (f r18 0)) r18 1)) r18 2)) r18 3)) r18 4)) r13 5 ((up2 (up2 (up2 (up2 (up2 f r13 0 (f r18 0)) r13 1 ((up2 f r13 0 (f r18 0)) r18 1)) r13 2 ((up2 (up2 f r13 0 (f r18 0)) r13 1 ((up2 f r13 0 (f r18 0)) r18 1)) r18 2)) r13 3 ((up2 (up2 (up2 f r13 0 (f r18 0)) r13 1 ((up2 f r13 0 (f r18 0)) r18 1)) r13 2 ((up2 (up2 f r13 0 (f r18 0)) r13 1 ((up2 f r13 0 (f r18 0)) r18 1)) r18 2)) r18 3)) r13 4 ((up2 (up2 (up2 (up2 f r13 0 (f r18 0)) r13 1 ((up2 f r13 0 (f r18 0)) r18 1)) r13 2 ((up2 (up2 f r13 0 (f r18 0)) r13 1 ((up2 f r13 0 (f r18 0)) r18 1)) r18 2)) r13 3 ((up2 (up2 (up2 f r13 0 (f r18 0)) r13 1 ((up2 f r13 0 (f r18 0)) r18 1)) r13 2 ((up2 (up2 f r13 0 (f r18 0)) r13 1 ((up2 f r13 0 (f r18 0)) r18 1)) r18 2)) r18 3)) r18 4)) r18 5)) r18 6)) r18 7)), g, fR)
    refine S_iinc (pc := 125) (v := nI 1) (L' := [some (.ref x), some (.ref y), some (.int (a2 + nI 1))]) dX10_copyFrom_125 rfl ic1 rfl ?_
    refine S_goto (pc := 128) (tgt := 105) dX10_copyFrom_128 rfl ?_
    exact H
set_option maxHeartbeats 2000000 in
set_option maxRecDepth 4000 in
theorem VX10_isFinished {l : Launch} {G : Gx} {d : Nat} {Q : Option Value → Hp → Prop} {sh : Sh} {fR : FRt} {x p : Nat} {f : FI} {g : FL}  (hs : StW sh fR x) (hp : fR x 7 = some p) (hP : StPl sh fR p)
    (H : (((f x 10) < (f (x + 2) 2) → Q (some (.int (nI 0))) (sh, f, g, fR)) ∧ (¬ (f x 10) < (f (x + 2) 2) → Q (some (.int (nI 1))) (sh, f, g, fR)))) :
    Cl l G d 0 0 mX10_isFinished [.ref x] (sh, f, g, fR) Q := by
  refine Cl.of (L0 := [some (.ref x)]) miX10_isFinished rfl rfl ?_
  refine S_aload_n (pc := 0) dX10_isFinished_0 rfl rfl ?_
  refine S_get (pc := 1) (v := .int (f x 10)) dX10_isFinished_1 flX10_70 (sW_0 hs) rfl ?_
  refine S_aload_n (pc := 4) dX10_isFinished_4 rfl rfl ?_
  refine S_getR (pc := 5) dX10_isFinished_5 flX10_20 (sW_0 hs) rfl (rW_0_1 hs) ?_
  refine S_get (pc := 8) (v := .int (f (x + 2) 2)) dX10_isFinished_8 flX10_127 (sW_2 hs) rfl ?_
  refine S_icmp_lt (pc := 11) (tgt := 18) dX10_isFinished_11 rfl (fun hc1 => ?_) (fun hc1 => ?_)
  · replace H := H.1 hc1
    refine S_iconst (pc := 18) dX10_isFinished_18 ic0 ?_
    exact S_zreturn dX10_isFinished_19 rfl (Or.inl rfl) H
  · replace H := H.2 hc1
    refine S_iconst (pc := 14) dX10_isFinished_14 ic1 ?_
    refine S_goto (pc := 15) (tgt := 19) dX10_isFinished_15 rfl ?_
    exact S_zreturn dX10_isFinished_19 rfl (Or.inr rfl) H
abbrev LpX10_alive_4 (l : Launch) (G : Gx) (d : Nat) (Q : Option Value → Hp → Prop) (sh : Sh) (fR : FRt) (x p : Nat) (f : FI) (g : FL) (a1 : Int32) (a2 : Int32) : Prop := WP l G (Zq G 0 0 Q) mX10_alive (rmd (d + 1) 0 0) 0 0 4 [some (.ref x), some (.int a1), some (.int a2)] [] (sh, f, g, fR)
abbrev LpX10_alive_30 (l : Launch) (G : Gx) (d : Nat) (Q : Option Value → Hp → Prop) (sh : Sh) (fR : FRt) (x p : Nat) (f : FI) (g : FL) (a1 : Int32) (a2 : Int32) : Prop := WP l G (Zq G 0 0 Q) mX10_alive (rmd (d + 1) 0 0) 0 0 30 [some (.ref x), some (.int a1), some (.int a2)] [] (sh, f, g, fR)
set_option maxHeartbeats 2000000 in
set_option maxRecDepth 4000 in
theorem VX10_alive {l : Launch} {G : Gx} {d : Nat} {Q : Option Value → Hp → Prop} {sh : Sh} {fR : FRt} {x p : Nat} {f : FI} {g : FL}  (hs : StW sh fR x) (hp : fR x 7 = some p) (hP : StPl sh fR p)
    (H : LpX10_alive_4 l G d Q sh fR x p f g (nI 0) (nI 0)) :
    Cl l G (d + 1) 0 0 mX10_alive [.ref x] (sh, f, g, fR) Q := by
  refine Cl.of (L0 := [some (.ref x), none, none]) miX10_alive rfl rfl ?_
  refine S_iconst (pc := 0) dX10_alive_0 ic0 ?_
  refine S_istore_n (pc := 1) (L' := [some (.ref x), some (.int (nI 0)), none]) dX10_alive_1 rfl (by decide) rfl ?_
  refine S_iconst (pc := 2) dX10_alive_2 ic0 ?_
  refine S_istore_n (pc := 3) (L' := [some (.ref x), some (.int (nI 0)), some (.int (nI 0))]) dX10_alive_3 rfl (by decide) rfl ?_
  exact H
set_option maxHeartbeats 2000000 in
set_option maxRecDepth 4000 in
theorem VX10_alive_4 {l : Launch} {G : Gx} {d : Nat} {Q : Option Value → Hp → Prop} {sh : Sh} {fR : FRt} {x p : Nat} {f : FI} {g : FL} {a1 : Int32} {a2 : Int32} (hs : StW sh fR x) (hp : fR x 7 = some p) (hP : StPl sh fR p)
    (H : (((f p 6) ≤ a2 → Q (some (.int a1)) (sh, f, g, fR)) ∧ (¬ (f p 6) ≤ a2 → inb a2 4 ∧ (∃ r3, fR (x + 1) a2.toNatClampNeg = some r3 ∧ sh[r3]? = some (8, 8) ∧ 0 < r3 ∧ Cl l G d 0 0 mX8_isAlive [.ref r3] (sh, f, g, fR) (qi sh fR fun x9 f7 g8 => ((x9 = 0 → LpX10_alive_30 l G d Q sh fR x p f7 g8 a1 a2) ∧ (¬ x9 = 0 → LpX10_alive_30 l G d Q sh fR x p f7 g8 (a1 + nI 1) a2))))))) :
    LpX10_alive_4 l G d Q sh fR x p f g a1 a2 := by
  refine S_iload_n (pc := 4) dX10_alive_4 rfl rfl ?_
  refine S_aload_n (pc := 5) dX10_alive_5 rfl rfl ?_
  refine S_getR (pc := 6) dX10_alive_6 flX10_58 (sW_0 hs) rfl hp ?_
  refine S_get (pc := 9) (v := .int (f p 6)) dX10_alive_9 flX10_102 (sL_0 hP) rfl ?_
  refine S_icmp_ge (pc := 12) (tgt := 36) dX10_alive_12 rfl (fun hc1 => ?_) (fun hc1 => ?_)
  · replace H := H.1 hc1
    refine S_iload_n (pc := 36) dX10_alive_36 rfl rfl ?_
    exact S_ireturn dX10_alive_37 rfl H
  · replace H := H.2 hc1
    refine S_aload_n (pc := 15) dX10_alive_15 rfl rfl ?_
    refine S_getR (pc := 16) dX10_alive_16 flX10_11 (sW_0 hs) rfl (rW_0_0 hs) ?_
    refine S_iload_n (pc := 19) dX10_alive_19 rfl rfl ?_
    obtain ⟨hb2, H⟩ := H
    obtain ⟨r3, e4, s5, p6, H⟩ := H
    refine S_aald24 (pc := 20) dX10_alive_20 (sW_1 hs) hb2 e4 ?_
    refine S_callV (As := []) (mc := 0) (ms := 0) (pc := 21) dX10_alive_21 miX8_isAlive mvX8_isAlive mlX10_130 rfl s5 rfl rfl rfl (RmOK.of rfl) H ?_
    rintro _ _ ⟨x9, f7, g8, rfl, rfl, H⟩
    show WP _ _ _ _ _ _ _ 24 [some (.ref x), some (.int a1), some (.int a2)] [.int x9] (sh, f7, g8, fR)
    refine S_if_eq (pc := 24) (tgt := 30) dX10_alive_24 rfl (fun hc10 => ?_) (fun hc10 => ?_)
    · replace H := H.1 hc10
      exact H
    · replace H := H.2 hc10
      refine S_iinc (pc := 27) (v := nI 1) (L' := [some (.ref x), some (.int (a1 + nI 1)), some (.int a2)]) dX10_alive_27 rfl ic1 rfl ?_
      exact H
set_option maxHeartbeats 2000000 in
set_option maxRecDepth 4000 in
theorem VX10_alive_30 {l : Launch} {G : Gx} {d : Nat} {Q : Option Value → Hp → Prop} {sh : Sh} {fR : FRt} {x p : Nat} {f : FI} {g : FL} {a1 : Int32} {a2 : Int32} (hs : StW sh fR x) (hp : fR x 7 = some p) (hP : StPl sh fR p)
    (H : LpX10_alive_4 l G d Q sh fR x p f g a1 (a2 + nI 1)) :
    LpX10_alive_30 l G d Q sh fR x p f g a1 a2 := by
  refine S_iinc (pc := 30) (v := nI 1) (L' := [some (.ref x), some (.int a1), some (.int (a2 + nI 1))]) dX10_alive_30 rfl ic1 rfl ?_
  refine S_goto (pc := 33) (tgt := 4) dX10_alive_33 rfl ?_
  exact H
abbrev LpX10_flying_4 (l : Launch) (G : Gx) (d : Nat) (Q : Option Value → Hp → Prop) (sh : Sh) (fR : FRt) (x p : Nat) (f : FI) (g : FL) (a1 : Int32) (a2 : Int32) : Prop := WP l G (Zq G 0 0 Q) mX10_flying (rmd d 0 0) 0 0 4 [some (.ref x), some (.int a1), some (.int a2)] [] (sh, f, g, fR)
set_option maxHeartbeats 2000000 in
set_option maxRecDepth 4000 in
theorem VX10_flying {l : Launch} {G : Gx} {d : Nat} {Q : Option Value → Hp → Prop} {sh : Sh} {fR : FRt} {x p : Nat} {f : FI} {g : FL}  (hs : StW sh fR x) (hp : fR x 7 = some p) (hP : StPl sh fR p)
    (H : LpX10_flying_4 l G d Q sh fR x p f g (nI 0) (nI 0)) :
    Cl l G d 0 0 mX10_flying [.ref x] (sh, f, g, fR) Q := by
  refine Cl.of (L0 := [some (.ref x), none, none]) miX10_flying rfl rfl ?_
  refine S_iconst (pc := 0) dX10_flying_0 ic0 ?_
  refine S_istore_n (pc := 1) (L' := [some (.ref x), some (.int (nI 0)), none]) dX10_flying_1 rfl (by decide) rfl ?_
  refine S_iconst (pc := 2) dX10_flying_2 ic0 ?_
  refine S_istore_n (pc := 3) (L' := [some (.ref x), some (.int (nI 0)), some (.int (nI 0))]) dX10_flying_3 rfl (by decide) rfl ?_
  exact H
set_option maxHeartbeats 2000000 in
set_option maxRecDepth 4000 in
theorem VX10_flying_4 {l : Launch} {G : Gx} {d : Nat} {Q : Option Value → Hp → Prop} {sh : Sh} {fR : FRt} {x p : Nat} {f : FI} {g : FL} {a1 : Int32} {a2 : Int32} (hs : StW sh fR x) (hp : fR x 7 = some p) (hP : StPl sh fR p)
    (H : (((f p 6) ≤ a2 → Q (some (.int a1)) (sh, f, g, fR)) ∧ (¬ (f p 6) ≤ a2 → inb a2 4 ∧ (∃ r3, fR (x + 1) a2.toNatClampNeg = some r3 ∧ sh[r3]? = some (8, 8) ∧ 0 < r3 ∧ (∀ w7 : Int32, w7 = a1 + (f r3 5) → LpX10_flying_4 l G d Q sh fR x p f g w7 (a2 + nI 1)))))) :
    LpX10_flying_4 l G d Q sh fR x p f g a1 a2 := by
  refine S_iload_n (pc := 4) dX10_flying_4 rfl rfl ?_
  refine S_aload_n (pc := 5) dX10_flying_5 rfl rfl ?_
  refine S_getR (pc := 6) dX10_flying_6 flX10_58 (sW_0 hs) rfl hp ?_
  refine S_get (pc := 9) (v := .int (f p 6)) dX10_flying_9 flX10_102 (sL_0 hP) rfl ?_
  refine S_icmp_ge (pc := 12) (tgt := 33) dX10_flying_12 rfl (fun hc1 => ?_) (fun hc1 => ?_)
  · replace H := H.1 hc1
    refine S_iload_n (pc := 33) dX10_flying_33 rfl rfl ?_
    exact S_ireturn dX10_flying_34 rfl H
  · replace H := H.2 hc1
    refine S_iload_n (pc := 15) dX10_flying_15 rfl rfl ?_
    refine S_aload_n (pc := 16) dX10_flying_16 rfl rfl ?_
    refine S_getR (pc := 17) dX10_flying_17 flX10_11 (sW_0 hs) rfl (rW_0_0 hs) ?_
    refine S_iload_n (pc := 20) dX10_flying_20 rfl rfl ?_
    obtain ⟨hb2, H⟩ := H
    obtain ⟨r3, e4, s5, p6, H⟩ := H
    refine S_aald24 (pc := 21) dX10_flying_21 (sW_1 hs) hb2 e4 ?_
    refine S_get (pc := 22) (v := .int (f r3 5)) dX10_flying_22 flX10_134 s5 rfl ?_
    refine S_iadd (pc := 25) dX10_flying_25 ?_
    refine S_namei (fun w7 e8 => ?_)
    replace H := H w7 e8
    refine S_istore_n (pc := 26) (L' := [some (.ref x), some (.int w7), some (.int a2)]) dX10_flying_26 rfl (by decide) rfl ?_
    refine S_iinc (pc := 27) (v := nI 1) (L' := [some (.ref x), some (.int w7), some (.int (a2 + nI 1))]) dX10_flying_27 rfl ic1 rfl ?_
    refine S_goto (pc := 30) (tgt := 4) dX10_flying_30 rfl ?_
    exact H
set_option maxHeartbeats 2000000 in
set_option maxRecDepth 4000 in
theorem VX10_waitOn {l : Launch} {G : Gx} {d : Nat} {Q : Option Value → Hp → Prop} {sh : Sh} {fR : FRt} {x p : Nat} {f : FI} {g : FL} {a1 : Int32} (hs : StW sh fR x) (hp : fR x 7 = some p) (hP : StPl sh fR p)
    (H : inb a1 4 ∧ (∃ r2, fR (x + 1) a1.toNatClampNeg = some r2 ∧ sh[r2]? = some (8, 8) ∧ 0 < r2 ∧ (∀ w6 : Int32, w6 = ((nI 4) * (f r2 0)) + (nI 2) → Cl l G (d + 2) 0 0 mX3_isTold [.ref (p + 14)] (sh, f, g, fR) (qi sh fR fun x10 f8 g9 => ((x10 = 0 → Cl l G (d + 2) 0 0 mJ_min [.int (nI 99), .int w6] (sh, f8, g9, fR) (qi sh fR fun x14 f12 g13 => Cl l G (d + 2) 0 0 mJ_max [.int (nI 1), .int x14] (sh, f12, g13, fR) (qi sh fR fun x17 f15 g16 => Q (some (.int x17)) (sh, f15, g16, fR)))) ∧ (¬ x10 = 0 → Cl l G (d + 2) 0 0 mX3_valueBy [.ref (p + 14), .ref (x + 27)] (sh, (up2 (up2 (up2 (up2 f8 (x + 27) 0 (f8 x 8)) (x + 27) 4 (f8 r2 0)) (x + 27) 5 (f8 r2 3)) (x + 27) 7 (f8 r2 4)), g9, fR) (qi sh fR fun x20 f18 g19 => Cl l G (d + 2) 0 0 mJ_min [.int (nI 99), .int x20] (sh, f18, g19, fR) (qi sh fR fun x23 f21 g22 => Cl l G (d + 2) 0 0 mJ_max [.int (nI 1), .int x23] (sh, f21, g22, fR) (qi sh fR fun x26 f24 g25 => Q (some (.int x26)) (sh, f24, g25, fR)))))))))) :
    Cl l G (d + 3) 0 0 mX10_waitOn [.ref x, .int a1] (sh, f, g, fR) Q := by
  refine Cl.of (L0 := [some (.ref x), some (.int a1), none, none]) miX10_waitOn rfl rfl ?_
  refine S_aload_n (pc := 0) dX10_waitOn_0 rfl rfl ?_
  refine S_getR (pc := 1) dX10_waitOn_1 flX10_11 (sW_0 hs) rfl (rW_0_0 hs) ?_
  refine S_iload_n (pc := 4) dX10_waitOn_4 rfl rfl ?_
  obtain ⟨hb1, H⟩ := H
  obtain ⟨r2, e3, s4, p5, H⟩ := H
  refine S_aald24 (pc := 5) dX10_waitOn_5 (sW_1 hs) hb1 e3 ?_
  refine S_astore_n (pc := 6) (L' := [some (.ref x), some (.int a1), some (.ref r2), none]) dX10_waitOn_6 rfl (by decide) rfl ?_
  refine S_iconst (pc := 7) dX10_waitOn_7 ic4 ?_
  refine S_aload_n (pc := 8) dX10_waitOn_8 rfl rfl ?_
  refine S_get (pc := 9) (v := .int (f r2 0)) dX10_waitOn_9 flX10_137 s4 rfl ?_
  refine S_imul (pc := 12) dX10_waitOn_12 ?_
  refine S_iconst (pc := 13) dX10_waitOn_13 ic2 ?_
  refine S_iadd (pc := 14) dX10_waitOn_14 ?_
  refine S_namei (fun w6 e7 => ?_)
  replace H := H w6 e7
  refine S_istore_n (pc := 15) (L' := [some (.ref x), some (.int a1), some (.ref r2), some (.int w6)]) dX10_waitOn_15 rfl (by decide) rfl ?_
  refine S_aload_n (pc := 16) dX10_waitOn_16 rfl rfl ?_
  refine S_getR (pc := 17) dX10_waitOn_17 flX10_58 (sW_0 hs) rfl hp ?_
  refine S_getR (pc := 20) dX10_waitOn_20 flX10_139 (sL_0 hP) rfl (rL_0_14 hP) ?_
  refine S_callV (As := []) (mc := 0) (ms := 0) (pc := 23) dX10_waitOn_23 miX3_isTold mvX3_isTold mlX10_143 rfl (sL_14 hP) rfl rfl rfl (RmOK.of rfl) H ?_
  rintro _ _ ⟨x10, f8, g9, rfl, rfl, H⟩
  show WP _ _ _ _ _ _ _ 26 [some (.ref x), some (.int a1), some (.ref r2), some (.int w6)] [.int x10] (sh, f8, g9, fR)
  refine S_if_eq (pc := 26) (tgt := 85) dX10_waitOn_26 rfl (fun hc11 => ?_) (fun hc11 => ?_)
  · replace H := H.1 hc11
    refine S_iconst (pc := 85) dX10_waitOn_85 ic1 ?_
    refine S_bipush (pc := 86) dX10_waitOn_86 bp99 ?_
    refine S_iload_n (pc := 88) dX10_waitOn_88 rfl rfl ?_
    refine S_callSJ (As := [.int (nI 99), .int w6]) (mc := 0) (ms := 0) (pc := 89) dX10_waitOn_89 miJ_min mvJ_min mlX10_156 rfl rfl (RmOK.of rfl) H ?_
    rintro _ _ ⟨x14, f12, g13, rfl, rfl, H⟩
    show WP _ _ _ _ _ _ _ 92 [some (.ref x), some (.int a1), some (.ref r2), some (.int w6)] [.int x14, .int (nI 1)] (sh, f12, g13, fR)
    refine S_callSJ (As := [.int (nI 1), .int x14]) (mc := 0) (ms := 0) (pc := 92) dX10_waitOn_92 miJ_max mvJ_max mlX10_162 rfl rfl (RmOK.of rfl) H ?_
    rintro _ _ ⟨x17, f15, g16, rfl, rfl, H⟩
    show WP _ _ _ _ _ _ _ 95 [some (.ref x), some (.int a1), some (.ref r2), some (.int w6)] [.int x17] (sh, f15, g16, fR)
    exact S_ireturn dX10_waitOn_95 rfl H
  · replace H := H.2 hc11
    refine S_aload_n (pc := 29) dX10_waitOn_29 rfl rfl ?_
    refine S_getR (pc := 30) dX10_waitOn_30 flX10_54 (sW_0 hs) rfl (rW_0_6 hs) ?_
    refine S_iconst (pc := 33) dX10_waitOn_33 ic0 ?_
    refine S_aload_n (pc := 34) dX10_waitOn_34 rfl rfl ?_
    refine S_get (pc := 35) (v := .int (f8 x 8)) dX10_waitOn_35 flX10_63 (sW_0 hs) rfl ?_
    refine S_iast (pc := 38) dX10_waitOn_38 (sW_27 hs) (Nat.succ_pos _) (vp_in_nI (by decide) (by decide)) ?_
    show WP _ _ _ _ _ _ _ 39 _ _ (sh, (up2 f8 (x + 27) 0 (f8 x 8)), g9, fR)
    refine S_aload_n (pc := 39) dX10_waitOn_39 rfl rfl ?_
    refine S_getR (pc := 40) dX10_waitOn_40 flX10_54 (sW_0 hs) rfl (rW_0_6 hs) ?_
    refine S_iconst (pc := 43) dX10_waitOn_43 ic4 ?_
    refine S_aload_n (pc := 44) dX10_waitOn_44 rfl rfl ?_
    refine S_get (pc := 45) (v := .int ((up2 f8 (x + 27) 0 (f8 x 8)) r2 0)) dX10_waitOn_45 flX10_137 s4 rfl ?_
    refine S_eqi (x := f8 r2 0) ((up2_r (ne_sh s4 (sW_27 hs) (by decide))).trans rfl) ?_
    refine S_iast (pc := 48) dX10_waitOn_48 (sW_27 hs) (Nat.succ_pos _) (vp_in_nI (by decide) (by decide)) ?_
    show WP _ _ _ _ _ _ _ 49 _ _ (sh, (up2 (up2 f8 (x + 27) 0 (f8 x 8)) (x + 27) 4 (f8 r2 0)), g9, fR)
    refine S_aload_n (pc := 49) dX10_waitOn_49 rfl rfl ?_
    refine S_getR (pc := 50) dX10_waitOn_50 flX10_54 (sW_0 hs) rfl (rW_0_6 hs) ?_
    refine S_iconst (pc := 53) dX10_waitOn_53 ic5 ?_
    refine S_aload_n (pc := 54) dX10_waitOn_54 rfl rfl ?_
    refine S_get (pc := 55) (v := .int ((up2 (up2 f8 (x + 27) 0 (f8 x 8)) (x + 27) 4 (f8 r2 0)) r2 3)) dX10_waitOn_55 flX10_146 s4 rfl ?_
    refine S_eqi (x := f8 r2 3) ((up2_r (ne_sh s4 (sW_27 hs) (by decide))).trans ((up2_r (ne_sh s4 (sW_27 hs) (by decide))).trans rfl)) ?_
    refine S_iast (pc := 58) dX10_waitOn_58 (sW_27 hs) (Nat.succ_pos _) (vp_in_nI (by decide) (by decide)) ?_
    show WP _ _ _ _ _ _ _ 59 _ _ (sh, (up2 (up2 (up2 f8 (x + 27) 0 (f8 x 8)) (x + 27) 4 (f8 r2 0)) (x + 27) 5 (f8 r2 3)), g9, fR)
    refine S_aload_n (pc := 59) dX10_waitOn_59 rfl rfl ?_
    refine S_getR (pc := 60) dX10_waitOn_60 flX10_54 (sW_0 hs) rfl (rW_0_6 hs) ?_
    refine S_bipush (pc := 63) dX10_waitOn_63 bp7 ?_
    refine S_aload_n (pc := 65) dX10_waitOn_65 rfl rfl ?_
    refine S_get (pc := 66) (v := .int ((up2 (up2 (up2 f8 (x + 27) 0 (f8 x 8)) (x + 27) 4 (f8 r2 0)) (x + 27) 5 (f8 r2 3)) r2 4)) dX10_waitOn_66 flX10_149 s4 rfl ?_
    refine S_eqi (x := f8 r2 4) ((up2_r (ne_sh s4 (sW_27 hs) (by decide))).trans ((up2_r (ne_sh s4 (sW_27 hs) (by decide))).trans ((up2_r (ne_sh s4 (sW_27 hs) (by decide))).trans rfl))) ?_
    refine S_iast (pc := 69) dX10_waitOn_69 (sW_27 hs) (Nat.succ_pos _) (vp_in_nI (by decide) (by decide)) ?_
    show WP _ _ _ _ _ _ _ 70 _ _ (sh, (up2 (up2 (up2 (up2 f8 (x + 27) 0 (f8 x 8)) (x + 27) 4 (f8 r2 0)) (x + 27) 5 (f8 r2 3)) (x + 27) 7 (f8 r2 4)), g9, fR)
    refine S_aload_n (pc := 70) dX10_waitOn_70 rfl rfl ?_
    refine S_getR (pc := 71) dX10_waitOn_71 flX10_58 (sW_0 hs) rfl hp ?_
    refine S_getR (pc := 74) dX10_waitOn_74 flX10_139 (sL_0 hP) rfl (rL_0_14 hP) ?_
    refine S_aload_n (pc := 77) dX10_waitOn_77 rfl rfl ?_
    refine S_getR (pc := 78) dX10_waitOn_78 flX10_54 (sW_0 hs) rfl (rW_0_6 hs) ?_
    refine S_callV (As := [.ref (x + 27)]) (mc := 0) (ms := 0) (pc := 81) dX10_waitOn_81 miX3_valueBy mvX3_valueBy mlX10_152 rfl (sL_14 hP) rfl rfl rfl (RmOK.of rfl) H ?_
    rintro _ _ ⟨x20, f18, g19, rfl, rfl, H⟩
    show WP _ _ _ _ _ _ _ 84 [some (.ref x), some (.int a1), some (.ref r2), some (.int w6)] [.int x20] (sh, f18, g19, fR)
    refine S_istore_n (pc := 84) (L' := [some (.ref x), some (.int a1), some (.ref r2), some (.int x20)]) dX10_waitOn_84 rfl (by decide) rfl ?_
    refine S_iconst (pc := 85) dX10_waitOn_85 ic1 ?_
    refine S_bipush (pc := 86) dX10_waitOn_86 bp99 ?_
    refine S_iload_n (pc := 88) dX10_waitOn_88 rfl rfl ?_
    refine S_callSJ (As := [.int (nI 99), .int x20]) (mc := 0) (ms := 0) (pc := 89) dX10_waitOn_89 miJ_min mvJ_min mlX10_156 rfl rfl (RmOK.of rfl) H ?_
    rintro _ _ ⟨x23, f21, g22, rfl, rfl, H⟩
    show WP _ _ _ _ _ _ _ 92 [some (.ref x), some (.int a1), some (.ref r2), some (.int x20)] [.int x23, .int (nI 1)] (sh, f21, g22, fR)
    refine S_callSJ (As := [.int (nI 1), .int x23]) (mc := 0) (ms := 0) (pc := 92) dX10_waitOn_92 miJ_max mvJ_max mlX10_162 rfl rfl (RmOK.of rfl) H ?_
    rintro _ _ ⟨x26, f24, g25, rfl, rfl, H⟩
    show WP _ _ _ _ _ _ _ 95 [some (.ref x), some (.int a1), some (.ref r2), some (.int x20)] [.int x26] (sh, f24, g25, fR)
    exact S_ireturn dX10_waitOn_95 rfl H
abbrev LpX10_tryToken_34 (l : Launch) (G : Gx) (d : Nat) (Q : Option Value → Hp → Prop) (sh : Sh) (fR : FRt) (x p : Nat) (f : FI) (g : FL)  : Prop := WP l G (Zq G 0 0 Q) mX10_tryToken (rmd (d + 1) 0 0) 0 0 34 [some (.ref x), none, none] [] (sh, f, g, fR)
set_option maxHeartbeats 2000000 in
set_option maxRecDepth 4000 in
theorem VX10_tryToken {l : Launch} {G : Gx} {d : Nat} {Q : Option Value → Hp → Prop} {sh : Sh} {fR : FRt} {x p : Nat} {f : FI} {g : FL} {a1 : Int32} {a2 : Int32} (hs : StW sh fR x) (hp : fR x 7 = some p) (hP : StPl sh fR p)
    (H : inb a1 4 ∧ (∃ r2, fR (x + 1) a1.toNatClampNeg = some r2 ∧ sh[r2]? = some (8, 8) ∧ 0 < r2 ∧ Cl l G d 0 0 mX8_isNew [.ref r2] (sh, f, g, fR) (qi sh fR fun x8 f6 g7 => ((x8 = 0 → LpX10_tryToken_34 l G d Q sh fR x p f6 g7) ∧ (¬ x8 = 0 → ((¬ a2 = ((((nI 31) * (f6 p 4)) + (nI 17)) - (((nI 31) * (f6 p 4)) + (nI 17)) / (nI 1000) * (nI 1000)) → LpX10_tryToken_34 l G d Q sh fR x p f6 g7) ∧ (a2 = ((((nI 31) * (f6 p 4)) + (nI 17)) - (((nI 31) * (f6 p 4)) + (nI 17)) / (nI 1000) * (nI 1000)) → inb a1 4 ∧ (∃ r12, fR (x + 1) a1.toNatClampNeg = some r12 ∧ sh[r12]? = some (8, 8) ∧ 0 < r12 ∧ Q (some (.int (nI 1))) (sh, (up2 (up2 f6 r12 1 (nI 1)) r12 3 (nI 2000)), g7, fR))))))))) :
    Cl l G (d + 1) 0 0 mX10_tryToken [.ref x, .int a1, .int a2] (sh, f, g, fR) Q := by
  refine Cl.of (L0 := [some (.ref x), some (.int a1), some (.int a2)]) miX10_tryToken rfl rfl ?_
  refine S_aload_n (pc := 0) dX10_tryToken_0 rfl rfl ?_
  refine S_getR (pc := 1) dX10_tryToken_1 flX10_11 (sW_0 hs) rfl (rW_0_0 hs) ?_
  refine S_iload_n (pc := 4) dX10_tryToken_4 rfl rfl ?_
  obtain ⟨hb1, H⟩ := H
  obtain ⟨r2, e3, s4, p5, H⟩ := H
  refine S_aald24 (pc := 5) dX10_tryToken_5 (sW_1 hs) hb1 e3 ?_
  refine S_callV (As := []) (mc := 0) (ms := 0) (pc := 6) dX10_tryToken_6 miX8_isNew mvX8_isNew mlX10_165 rfl s4 rfl rfl rfl (RmOK.of rfl) H ?_
  rintro _ _ ⟨x8, f6, g7, rfl, rfl, H⟩
  show WP _ _ _ _ _ _ _ 9 [some (.ref x), some (.int a1), some (.int a2)] [.int x8] (sh, f6, g7, fR)
  refine S_if_eq (pc := 9) (tgt := 34) dX10_tryToken_9 rfl (fun hc9 => ?_) (fun hc9 => ?_)
  · replace H := H.1 hc9
    exact S_weak (L' := [some (.ref x), none, none]) (ls_e (ls_n (ls_n ls_0))) H
  · replace H := H.2 hc9
    refine S_iload_n (pc := 12) dX10_tryToken_12 rfl rfl ?_
    refine S_aload_n (pc := 13) dX10_tryToken_13 rfl rfl ?_
    refine S_getR (pc := 14) dX10_tryToken_14 flX10_58 (sW_0 hs) rfl hp ?_
    refine S_callV (As := []) (mc := 0) (ms := 0) (pc := 17) dX10_tryToken_17 miX6_rightToken mvX6_rightToken mlX10_168 rfl (sL_0 hP) rfl rfl rfl (RmOK.of rfl) (Q := fun r h => WP _ _ _ _ _ _ _ 20 [some (.ref x), some (.int a1), some (.int a2)] (r.toList ++ [.int a2]) h) (Cl.of miX6_rightToken rfl rfl ?_) (fun _ _ q => q)
    refine S_bipush (pc := 0) dX6_rightToken_0 bp31 ?_
    refine S_aload_n (pc := 2) dX6_rightToken_2 rfl rfl ?_
    refine S_get (pc := 3) (v := .int (f6 p 4)) dX6_rightToken_3 flX6_54 (sL_0 hP) rfl ?_
    refine S_imul (pc := 6) dX6_rightToken_6 ?_
    refine S_bipush (pc := 7) dX6_rightToken_7 bp17 ?_
    refine S_iadd (pc := 9) dX6_rightToken_9 ?_
    refine S_sipush (pc := 10) dX6_rightToken_10 sp1000 ?_
    refine S_irem (pc := 13) dX6_rightToken_13 (by decide) ?_
    refine S_ireturn dX6_rightToken_14 rfl ?_
    show WP _ _ _ _ _ _ _ 20 [some (.ref x), some (.int a1), some (.int a2)] [.int ((((nI 31) * (f6 p 4)) + (nI 17)) - (((nI 31) * (f6 p 4)) + (nI 17)) / (nI 1000) * (nI 1000)), .int a2] (sh, f6, g7, fR)
    refine S_icmp_ne (pc := 20) (tgt := 34) dX10_tryToken_20 rfl (fun hc10 => ?_) (fun hc10 => ?_)
    · replace H := H.1 hc10
      exact S_weak (L' := [some (.ref x), none, none]) (ls_e (ls_n (ls_n ls_0))) H
    · replace H := H.2 hc10
      refine S_aload_n (pc := 23) dX10_tryToken_23 rfl rfl ?_
      refine S_getR (pc := 24) dX10_tryToken_24 flX10_11 (sW_0 hs) rfl (rW_0_0 hs) ?_
      refine S_iload_n (pc := 27) dX10_tryToken_27 rfl rfl ?_
      obtain ⟨hb11, H⟩ := H
      obtain ⟨r12, e13, s14, p15, H⟩ := H
      refine S_aald24 (pc := 28) dX10_tryToken_28 (sW_1 hs) hb11 e13 ?_
      refine S_callV (As := []) (mc := 0) (ms := 0) (pc := 29) dX10_tryToken_29 miX8_enter mvX8_enter mlX10_105 rfl s14 rfl rfl rfl (RmOK.of rfl) (Q := fun r h => WP _ _ _ _ _ _ _ 32 [some (.ref x), some (.int a1), some (.int a2)] (r.toList ++ []) h) (Cl.of miX8_enter rfl rfl ?_) (fun _ _ q => q)
      refine S_aload_n (pc := 0) dX8_enter_0 rfl rfl ?_
      refine S_iconst (pc := 1) dX8_enter_1 ic1 ?_
      refine S_putI (pc := 2) dX8_enter_2 flX8_13 s14 p15 (nf_8_1) nb1 rfl (fun _ => rfl) ?_
      refine S_aload_n (pc := 5) dX8_enter_5 rfl rfl ?_
      refine S_sipush (pc := 6) dX8_enter_6 sp2000 ?_
      refine S_putI (pc := 9) dX8_enter_9 flX8_20 s14 p15 (nf_8_3) rfl rfl (fun _ => rfl) ?_
      refine S_vreturn dX8_enter_12 rfl ?_
      show WP _ _ _ _ _ _ _ 32 [some (.ref x), some (.int a1), some (.int a2)] [] (sh, (up2 (up2 f6 r12 1 (nI 1)) r12 3 (nI 2000)), g7, fR)
      refine S_iconst (pc := 32) dX10_tryToken_32 ic1 ?_
      exact S_zreturn dX10_tryToken_33 rfl (Or.inr rfl) H
set_option maxHeartbeats 2000000 in
set_option maxRecDepth 4000 in
theorem VX10_tryToken_34 {l : Launch} {G : Gx} {d : Nat} {Q : Option Value → Hp → Prop} {sh : Sh} {fR : FRt} {x p : Nat} {f : FI} {g : FL}  (hs : StW sh fR x) (hp : fR x 7 = some p) (hP : StPl sh fR p)
    (H : Q (some (.int (nI 0))) (sh, (up2 f (x + 4) 0 ((f (x + 4) 0) + (nI 1))), g, fR)) :
    LpX10_tryToken_34 l G d Q sh fR x p f g  := by
  refine S_aload_n (pc := 34) dX10_tryToken_34 rfl rfl ?_
  refine S_getR (pc := 35) dX10_tryToken_35 flX10_20 (sW_0 hs) rfl (rW_0_1 hs) ?_
  refine S_getR (pc := 38) dX10_tryToken_38 flX10_172 (sW_2 hs) rfl (rW_2_1 hs) ?_
  refine S_iconst (pc := 41) dX10_tryToken_41 ic0 ?_
  refine S_dup2 (pc := 42) dX10_tryToken_42 rfl rfl ?_
  refine S_iald (pc := 43) dX10_tryToken_43 (sW_4 hs) (vp_in_nI (by decide) (by decide)) ?_
  show WP _ _ _ _ _ _ _ 44 _ (.int (f (x + 4) 0) :: _) _
  refine S_iconst (pc := 44) dX10_tryToken_44 ic1 ?_
  refine S_iadd (pc := 45) dX10_tryToken_45 ?_
  refine S_iast (pc := 46) dX10_tryToken_46 (sW_4 hs) (Nat.succ_pos _) (vp_in_nI (by decide) (by decide)) ?_
  show WP _ _ _ _ _ _ _ 47 _ _ (sh, (up2 f (x + 4) 0 ((f (x + 4) 0) + (nI 1))), g, fR)
  refine S_iconst (pc := 47) dX10_tryToken_47 ic0 ?_
  exact S_zreturn dX10_tryToken_48 rfl (Or.inl rfl) H
abbrev LpX10_bury_35 (l : Launch) (G : Gx) (d : Nat) (Q : Option Value → Hp → Prop) (sh : Sh) (fR : FRt) (x p : Nat) (f : FI) (g : FL) (a1 : Int32) (a3 : Int32) : Prop := WP l G (Zq G 0 0 Q) mX10_bury (rmd (d + 2) 0 0) 0 0 35 [some (.ref x), some (.int a1), none, some (.int a3)] [] (sh, f, g, fR)
abbrev LpX10_bury_76 (l : Launch) (G : Gx) (d : Nat) (Q : Option Value → Hp → Prop) (sh : Sh) (fR : FRt) (x p : Nat) (f : FI) (g : FL) (a1 : Int32) (a3 : Int32) : Prop := WP l G (Zq G 0 0 Q) mX10_bury (rmd (d + 2) 0 0) 0 0 76 [some (.ref x), some (.int a1), none, some (.int a3)] [] (sh, f, g, fR)
set_option maxHeartbeats 2000000 in
set_option maxRecDepth 4000 in
theorem VX10_bury {l : Launch} {G : Gx} {d : Nat} {Q : Option Value → Hp → Prop} {sh : Sh} {fR : FRt} {x p : Nat} {f : FI} {g : FL} {a1 : Int32} (hs : StW sh fR x) (hp : fR x 7 = some p) (hP : StPl sh fR p)
    (H : inb a1 4 ∧ (∃ r2, fR (x + 1) a1.toNatClampNeg = some r2 ∧ sh[r2]? = some (8, 8) ∧ 0 < r2 ∧ (((f r2 2) = 0 → Cl l G (d + 1) 0 0 mX4_add [.ref (x + 23), .int (nI 2), .int a1, .int (f x 8)] (sh, (up2 f r2 2 (nI 1)), g, fR) (qv sh fR fun f7 g8 => LpX10_bury_35 l G d Q sh fR x p f7 g8 a1 (nI 0))) ∧ (¬ (f r2 2) = 0 → Q none (sh, f, g, fR))))) :
    Cl l G (d + 2) 0 0 mX10_bury [.ref x, .int a1] (sh, f, g, fR) Q := by
  refine Cl.of (L0 := [some (.ref x), some (.int a1), none, none]) miX10_bury rfl rfl ?_
  refine S_aload_n (pc := 0) dX10_bury_0 rfl rfl ?_
  refine S_getR (pc := 1) dX10_bury_1 flX10_11 (sW_0 hs) rfl (rW_0_0 hs) ?_
  refine S_iload_n (pc := 4) dX10_bury_4 rfl rfl ?_
  obtain ⟨hb1, H⟩ := H
  obtain ⟨r2, e3, s4, p5, H⟩ := H
  refine S_aald24 (pc := 5) dX10_bury_5 (sW_1 hs) hb1 e3 ?_
  refine S_astore_n (pc := 6) (L' := [some (.ref x), some (.int a1), some (.ref r2), none]) dX10_bury_6 rfl (by decide) rfl ?_
  refine S_aload_n (pc := 7) dX10_bury_7 rfl rfl ?_
  refine S_get (pc := 8) (v := .int (f r2 2)) dX10_bury_8 flX10_175 s4 rfl ?_
  refine S_if_eq (pc := 11) (tgt := 15) dX10_bury_11 rfl (fun hc6 => ?_) (fun hc6 => ?_)
  · replace H := H.1 hc6
    refine S_aload_n (pc := 15) dX10_bury_15 rfl rfl ?_
    refine S_iconst (pc := 16) dX10_bury_16 ic1 ?_
    refine S_putI (pc := 17) dX10_bury_17 flX10_175 s4 p5 (nf_8_2) nb1 rfl (fun _ => rfl) ?_
    refine S_aload_n (pc := 20) dX10_bury_20 rfl rfl ?_
    refine S_getR (pc := 21) dX10_bury_21 flX10_48 (sW_0 hs) rfl (rW_0_5 hs) ?_
    refine S_iconst (pc := 24) dX10_bury_24 ic2 ?_
    refine S_iload_n (pc := 25) dX10_bury_25 rfl rfl ?_
    refine S_aload_n (pc := 26) dX10_bury_26 rfl rfl ?_
    refine S_get (pc := 27) (v := .int ((up2 f r2 2 (nI 1)) x 8)) dX10_bury_27 flX10_63 (sW_0 hs) rfl ?_
    refine S_eqi (x := f x 8) ((up2_r (ne_sh (sW_0 hs) s4 (by decide))).trans rfl) ?_
    refine S_callV (As := [.int (nI 2), .int a1, .int (f x 8)]) (mc := 0) (ms := 0) (pc := 30) dX10_bury_30 miX4_add mvX4_add mlX10_179 rfl (sW_23 hs) rfl rfl rfl (RmOK.of rfl) H ?_
    rintro _ _ ⟨f7, g8, rfl, rfl, H⟩
    show WP _ _ _ _ _ _ _ 33 [some (.ref x), some (.int a1), some (.ref r2), none] [] (sh, f7, g8, fR)
    refine S_iconst (pc := 33) dX10_bury_33 ic0 ?_
    refine S_istore_n (pc := 34) (L' := [some (.ref x), some (.int a1), some (.ref r2), some (.int (nI 0))]) dX10_bury_34 rfl (by decide) rfl ?_
    exact S_weak (L' := [some (.ref x), some (.int a1), none, some (.int (nI 0))]) (ls_e (ls_e (ls_n (ls_e ls_0)))) H
  · replace H := H.2 hc6
    exact S_vreturn dX10_bury_14 rfl H
set_option maxHeartbeats 2000000 in
set_option maxRecDepth 4000 in
theorem VX10_bury_35 {l : Launch} {G : Gx} {d : Nat} {Q : Option Value → Hp → Prop} {sh : Sh} {fR : FRt} {x p : Nat} {f : FI} {g : FL} {a1 : Int32} {a3 : Int32} (hs : StW sh fR x) (hp : fR x 7 = some p) (hP : StPl sh fR p)
    (H : (((f (x + 5) 8) ≤ a3 → Q none (sh, f, g, fR)) ∧ (¬ (f (x + 5) 8) ≤ a3 → inb a3 512 ∧ (((f (x + 13) a3.toNatClampNeg) = 0 → LpX10_bury_76 l G d Q sh fR x p f g a1 a3) ∧ (¬ (f (x + 13) a3.toNatClampNeg) = 0 → inb a3 512 ∧ ((¬ (f (x + 6) a3.toNatClampNeg) = a1 → LpX10_bury_76 l G d Q sh fR x p f g a1 a3) ∧ ((f (x + 6) a3.toNatClampNeg) = a1 → Cl l G (d + 1) 0 0 mX10_sendAgain [.ref x, .int a3] (sh, f, g, fR) (qv sh fR fun f14 g15 => LpX10_bury_76 l G d Q sh fR x p f14 g15 a1 a3)))))))) :
    LpX10_bury_35 l G d Q sh fR x p f g a1 a3 := by
  refine S_iload_n (pc := 35) dX10_bury_35 rfl rfl ?_
  refine S_aload_n (pc := 36) dX10_bury_36 rfl rfl ?_
  refine S_getR (pc := 37) dX10_bury_37 flX10_27 (sW_0 hs) rfl (rW_0_2 hs) ?_
  refine S_get (pc := 40) (v := .int (f (x + 5) 8)) dX10_bury_40 flX10_88 (sW_5 hs) rfl ?_
  refine S_icmp_ge (pc := 43) (tgt := 82) dX10_bury_43 rfl (fun hc9 => ?_) (fun hc9 => ?_)
  · replace H := H.1 hc9
    exact S_vreturn dX10_bury_82 rfl H
  · replace H := H.2 hc9
    refine S_aload_n (pc := 46) dX10_bury_46 rfl rfl ?_
    refine S_getR (pc := 47) dX10_bury_47 flX10_27 (sW_0 hs) rfl (rW_0_2 hs) ?_
    refine S_getR (pc := 50) dX10_bury_50 flX10_183 (sW_5 hs) rfl (rW_5_7 hs) ?_
    refine S_iload_n (pc := 53) dX10_bury_53 rfl rfl ?_
    obtain ⟨hb10, H⟩ := H
    refine S_zald (pc := 54) dX10_bury_54 (sW_13 hs) hb10 ?_
    refine S_if_eq (pc := 55) (tgt := 76) dX10_bury_55 rfl (fun hc11 => ?_) (fun hc11 => ?_)
    · replace H := H.1 hc11
      exact H
    · replace H := H.2 hc11
      refine S_aload_n (pc := 58) dX10_bury_58 rfl rfl ?_
      refine S_getR (pc := 59) dX10_bury_59 flX10_27 (sW_0 hs) rfl (rW_0_2 hs) ?_
      refine S_getR (pc := 62) dX10_bury_62 flX10_187 (sW_5 hs) rfl (rW_5_0 hs) ?_
      refine S_iload_n (pc := 65) dX10_bury_65 rfl rfl ?_
      obtain ⟨hb12, H⟩ := H
      refine S_iald (pc := 66) dX10_bury_66 (sW_6 hs) hb12 ?_
      refine S_iload_n (pc := 67) dX10_bury_67 rfl rfl ?_
      refine S_icmp_ne (pc := 68) (tgt := 76) dX10_bury_68 rfl (fun hc13 => ?_) (fun hc13 => ?_)
      · replace H := H.1 hc13
        exact H
      · replace H := H.2 hc13
        refine S_aload_n (pc := 71) dX10_bury_71 rfl rfl ?_
        refine S_iload_n (pc := 72) dX10_bury_72 rfl rfl ?_
        refine S_callV (As := [.int a3]) (mc := 0) (ms := 0) (pc := 73) dX10_bury_73 miX10_sendAgain mvX10_sendAgain mlX10_190 rfl (sW_0 hs) rfl rfl rfl (RmOK.of rfl) H ?_
        rintro _ _ ⟨f14, g15, rfl, rfl, H⟩
        show WP _ _ _ _ _ _ _ 76 [some (.ref x), some (.int a1), none, some (.int a3)] [] (sh, f14, g15, fR)
        exact H
set_option maxHeartbeats 2000000 in
set_option maxRecDepth 4000 in
theorem VX10_bury_76 {l : Launch} {G : Gx} {d : Nat} {Q : Option Value → Hp → Prop} {sh : Sh} {fR : FRt} {x p : Nat} {f : FI} {g : FL} {a1 : Int32} {a3 : Int32} (hs : StW sh fR x) (hp : fR x 7 = some p) (hP : StPl sh fR p)
    (H : LpX10_bury_35 l G d Q sh fR x p f g a1 (a3 + nI 1)) :
    LpX10_bury_76 l G d Q sh fR x p f g a1 a3 := by
  refine S_iinc (pc := 76) (v := nI 1) (L' := [some (.ref x), some (.int a1), none, some (.int (a3 + nI 1))]) dX10_bury_76 rfl ic1 rfl ?_
  refine S_goto (pc := 79) (tgt := 35) dX10_bury_79 rfl ?_
  exact H
set_option maxHeartbeats 2000000 in
set_option maxRecDepth 4000 in
theorem VX10_sendAgain {l : Launch} {G : Gx} {d : Nat} {Q : Option Value → Hp → Prop} {sh : Sh} {fR : FRt} {x p : Nat} {f : FI} {g : FL} {a1 : Int32} (hs : StW sh fR x) (hp : fR x 7 = some p) (hP : StPl sh fR p)
    (H : inb a1 512 ∧ inb a1 512 ∧ inb (f (x + 6) a1.toNatClampNeg) 4 ∧ (∃ r4, fR (x + 1) (f (x + 6) a1.toNatClampNeg).toNatClampNeg = some r4 ∧ sh[r4]? = some (8, 8) ∧ 0 < r4 ∧ inb a1 512 ∧ inb a1 512 ∧ Cl l G d 0 0 mX5_add [.ref (x + 20), .int (f (x + 8) a1.toNatClampNeg), .int (f (x + 9) a1.toNatClampNeg)] (sh, (up2 (up2 f (x + 13) a1.toNatClampNeg (nI 0)) r4 5 ((f r4 5) - (nI 1))), g, fR) (qv sh fR fun f10 g11 => Q none (sh, f10, g11, fR)))) :
    Cl l G (d + 1) 0 0 mX10_sendAgain [.ref x, .int a1] (sh, f, g, fR) Q := by
  refine Cl.of (L0 := [some (.ref x), some (.int a1)]) miX10_sendAgain rfl rfl ?_
  refine S_aload_n (pc := 0) dX10_sendAgain_0 rfl rfl ?_
  refine S_getR (pc := 1) dX10_sendAgain_1 flX10_27 (sW_0 hs) rfl (rW_0_2 hs) ?_
  refine S_getR (pc := 4) dX10_sendAgain_4 flX10_183 (sW_5 hs) rfl (rW_5_7 hs) ?_
  refine S_iload_n (pc := 7) dX10_sendAgain_7 rfl rfl ?_
  refine S_iconst (pc := 8) dX10_sendAgain_8 ic0 ?_
  obtain ⟨hb1, H⟩ := H
  refine S_zast (pc := 9) dX10_sendAgain_9 (sW_13 hs) (Nat.succ_pos _) hb1 ?_
  show WP _ _ _ _ _ _ _ 10 _ _ (sh, (up2 f (x + 13) a1.toNatClampNeg (nI 0)), g, fR)
  refine S_aload_n (pc := 10) dX10_sendAgain_10 rfl rfl ?_
  refine S_getR (pc := 11) dX10_sendAgain_11 flX10_11 (sW_0 hs) rfl (rW_0_0 hs) ?_
  refine S_aload_n (pc := 14) dX10_sendAgain_14 rfl rfl ?_
  refine S_getR (pc := 15) dX10_sendAgain_15 flX10_27 (sW_0 hs) rfl (rW_0_2 hs) ?_
  refine S_getR (pc := 18) dX10_sendAgain_18 flX10_187 (sW_5 hs) rfl (rW_5_0 hs) ?_
  refine S_iload_n (pc := 21) dX10_sendAgain_21 rfl rfl ?_
  obtain ⟨hb2, H⟩ := H
  refine S_iald (pc := 22) dX10_sendAgain_22 (sW_6 hs) hb2 ?_
  refine S_eqi (x := f (x + 6) a1.toNatClampNeg) ((up2_r (by omega)).trans rfl) ?_
  obtain ⟨hb3, H⟩ := H
  obtain ⟨r4, e5, s6, p7, H⟩ := H
  refine S_aald24 (pc := 23) dX10_sendAgain_23 (sW_1 hs) hb3 e5 ?_
  refine S_dup (pc := 24) dX10_sendAgain_24 rfl ?_
  refine S_get (pc := 25) (v := .int ((up2 f (x + 13) a1.toNatClampNeg (nI 0)) r4 5)) dX10_sendAgain_25 flX10_134 s6 rfl ?_
  refine S_eqi (x := f r4 5) ((up2_r (ne_sh s6 (sW_13 hs) (by decide))).trans rfl) ?_
  refine S_iconst (pc := 28) dX10_sendAgain_28 ic1 ?_
  refine S_isub (pc := 29) dX10_sendAgain_29 ?_
  refine S_putI (pc := 30) dX10_sendAgain_30 flX10_134 s6 p7 (nf_8_5) rfl rfl (fun _ => rfl) ?_
  refine S_aload_n (pc := 33) dX10_sendAgain_33 rfl rfl ?_
  refine S_getR (pc := 34) dX10_sendAgain_34 flX10_41 (sW_0 hs) rfl (rW_0_4 hs) ?_
  refine S_aload_n (pc := 37) dX10_sendAgain_37 rfl rfl ?_
  refine S_getR (pc := 38) dX10_sendAgain_38 flX10_27 (sW_0 hs) rfl (rW_0_2 hs) ?_
  refine S_getR (pc := 41) dX10_sendAgain_41 flX10_193 (sW_5 hs) rfl (rW_5_2 hs) ?_
  refine S_iload_n (pc := 44) dX10_sendAgain_44 rfl rfl ?_
  obtain ⟨hb8, H⟩ := H
  refine S_iald (pc := 45) dX10_sendAgain_45 (sW_8 hs) hb8 ?_
  refine S_eqi (x := f (x + 8) a1.toNatClampNeg) ((up2_r (ne_sh (sW_8 hs) s6 (by decide))).trans ((up2_r (by omega)).trans rfl)) ?_
  refine S_aload_n (pc := 46) dX10_sendAgain_46 rfl rfl ?_
  refine S_getR (pc := 47) dX10_sendAgain_47 flX10_27 (sW_0 hs) rfl (rW_0_2 hs) ?_
  refine S_getR (pc := 50) dX10_sendAgain_50 flX10_196 (sW_5 hs) rfl (rW_5_3 hs) ?_
  refine S_iload_n (pc := 53) dX10_sendAgain_53 rfl rfl ?_
  obtain ⟨hb9, H⟩ := H
  refine S_iald (pc := 54) dX10_sendAgain_54 (sW_9 hs) hb9 ?_
  refine S_eqi (x := f (x + 9) a1.toNatClampNeg) ((up2_r (ne_sh (sW_9 hs) s6 (by decide))).trans ((up2_r (by omega)).trans rfl)) ?_
  refine S_callV (As := [.int (f (x + 8) a1.toNatClampNeg), .int (f (x + 9) a1.toNatClampNeg)]) (mc := 0) (ms := 0) (pc := 55) dX10_sendAgain_55 miX5_add mvX5_add mlX10_199 rfl (sW_20 hs) rfl rfl rfl (RmOK.of rfl) H ?_
  rintro _ _ ⟨f10, g11, rfl, rfl, H⟩
  show WP _ _ _ _ _ _ _ 58 [some (.ref x), some (.int a1)] [] (sh, f10, g11, fR)
  exact S_vreturn dX10_sendAgain_58 rfl H
abbrev LpX10_stepN_40 (l : Launch) (G : Gx) (d : Nat) (Q : Option Value → Hp → Prop) (sh : Sh) (fR : FRt) (x p : Nat) (f : FI) (g : FL) (a2 : Int32) : Prop := WP l G (Zq G 0 0 Q) mX10_step (rmd (d + 5) 0 0) 0 0 40 [some (.ref x), some (.null), some (.int a2)] [] (sh, f, g, fR)
set_option maxHeartbeats 2000000 in
set_option maxRecDepth 4000 in
theorem VX10_stepN {l : Launch} {G : Gx} {d : Nat} {Q : Option Value → Hp → Prop} {sh : Sh} {fR : FRt} {x p : Nat} {f : FI} {g : FL}  (hs : StW sh fR x) (hp : fR x 7 = some p) (hP : StPl sh fR p)
    (H : Cl l G (d + 4) 0 0 mX10_joinTold [.ref x] (sh, (up2 (up2 (up2 f x 13 (nI 0)) x 14 (nI 0)) x 15 (nI 0)), g, fR) (qv sh fR fun f1 g2 => Cl l G (d + 4) 0 0 mX10_hearAnswers [.ref x] (sh, f1, g2, fR) (qv sh fR fun f3 g4 => Cl l G (d + 4) 0 0 mX10_receive [.ref x] (sh, f3, g4, fR) (qv sh fR fun f5 g6 => Cl l G (d + 4) 0 0 mX0_tidy [.ref (x + 14), .int (f5 x 8)] (sh, f5, g6, fR) (qv sh fR fun f7 g8 => LpX10_stepN_40 l G d Q sh fR x p f7 g8 (nI 0)))))) :
    Cl l G (d + 5) 0 0 mX10_step [.ref x, .null] (sh, f, g, fR) Q := by
  refine Cl.of (L0 := [some (.ref x), some (.null), none]) miX10_step rfl rfl ?_
  refine S_aload_n (pc := 0) dX10_step_0 rfl rfl ?_
  refine S_iconst (pc := 1) dX10_step_1 ic0 ?_
  refine S_putI (pc := 2) dX10_step_2 flX10_202 (sW_0 hs) hs.2.2 (nf_10_13) rfl rfl (fun _ => rfl) ?_
  refine S_aload_n (pc := 5) dX10_step_5 rfl rfl ?_
  refine S_iconst (pc := 6) dX10_step_6 ic0 ?_
  refine S_putI (pc := 7) dX10_step_7 flX10_205 (sW_0 hs) hs.2.2 (nf_10_14) rfl rfl (fun _ => rfl) ?_
  refine S_aload_n (pc := 10) dX10_step_10 rfl rfl ?_
  refine S_iconst (pc := 11) dX10_step_11 ic0 ?_
  refine S_putI (pc := 12) dX10_step_12 flX10_208 (sW_0 hs) hs.2.2 (nf_10_15) nb0 rfl (fun _ => rfl) ?_
  refine S_aload_n (pc := 15) dX10_step_15 rfl rfl ?_
  refine S_callV (As := []) (mc := 0) (ms := 0) (pc := 16) dX10_step_16 miX10_joinTold mvX10_joinTold mlX10_211 rfl (sW_0 hs) rfl rfl rfl (RmOK.of rfl) H ?_
  rintro _ _ ⟨f1, g2, rfl, rfl, H⟩
  show WP _ _ _ _ _ _ _ 19 [some (.ref x), some (.null), none] [] (sh, f1, g2, fR)
  refine S_aload_n (pc := 19) dX10_step_19 rfl rfl ?_
  refine S_callV (As := []) (mc := 0) (ms := 0) (pc := 20) dX10_step_20 miX10_hearAnswers mvX10_hearAnswers mlX10_214 rfl (sW_0 hs) rfl rfl rfl (RmOK.of rfl) H ?_
  rintro _ _ ⟨f3, g4, rfl, rfl, H⟩
  show WP _ _ _ _ _ _ _ 23 [some (.ref x), some (.null), none] [] (sh, f3, g4, fR)
  refine S_aload_n (pc := 23) dX10_step_23 rfl rfl ?_
  refine S_callV (As := []) (mc := 0) (ms := 0) (pc := 24) dX10_step_24 miX10_receive mvX10_receive mlX10_217 rfl (sW_0 hs) rfl rfl rfl (RmOK.of rfl) H ?_
  rintro _ _ ⟨f5, g6, rfl, rfl, H⟩
  show WP _ _ _ _ _ _ _ 27 [some (.ref x), some (.null), none] [] (sh, f5, g6, fR)
  refine S_aload_n (pc := 27) dX10_step_27 rfl rfl ?_
  refine S_getR (pc := 28) dX10_step_28 flX10_34 (sW_0 hs) rfl (rW_0_3 hs) ?_
  refine S_aload_n (pc := 31) dX10_step_31 rfl rfl ?_
  refine S_get (pc := 32) (v := .int (f5 x 8)) dX10_step_32 flX10_63 (sW_0 hs) rfl ?_
  refine S_callV (As := [.int (f5 x 8)]) (mc := 0) (ms := 0) (pc := 35) dX10_step_35 miX0_tidy mvX0_tidy mlX10_220 rfl (sW_14 hs) rfl rfl rfl (RmOK.of rfl) H ?_
  rintro _ _ ⟨f7, g8, rfl, rfl, H⟩
  show WP _ _ _ _ _ _ _ 38 [some (.ref x), some (.null), none] [] (sh, f7, g8, fR)
  refine S_iconst (pc := 38) dX10_step_38 ic0 ?_
  refine S_istore_n (pc := 39) (L' := [some (.ref x), some (.null), some (.int (nI 0))]) dX10_step_39 rfl (by decide) rfl ?_
  exact H
set_option maxHeartbeats 2000000 in
set_option maxRecDepth 4000 in
theorem VX10_stepN_40 {l : Launch} {G : Gx} {d : Nat} {Q : Option Value → Hp → Prop} {sh : Sh} {fR : FRt} {x p : Nat} {f : FI} {g : FL} {a2 : Int32} (hs : StW sh fR x) (hp : fR x 7 = some p) (hP : StPl sh fR p)
    (H : (((f p 6) ≤ a2 → Cl l G (d + 4) 0 0 mX2_tidy [.ref (x + 5), .int (f x 8)] (sh, f, g, fR) (qv sh fR fun f10 g11 => Cl l G (d + 4) 0 0 mX10_sendPieces [.ref x, .null] (sh, f10, g11, fR) (qi sh fR fun x14 f12 g13 => ((x14 = 0 → Q none (sh, (up2 f12 x 8 ((f12 x 8) + (nI 1))), g13, fR)) ∧ (¬ x14 = 0 → Cl l G (d + 4) 0 0 mX10_penalise [.ref x, .null] (sh, f12, g13, fR) (qv sh fR fun f16 g17 => Q none (sh, (up2 f16 x 8 ((f16 x 8) + (nI 1))), g17, fR))))))) ∧ (¬ (f p 6) ≤ a2 → Cl l G (d + 4) 0 0 mX10_failLate [.ref x, .int a2] (sh, f, g, fR) (qv sh fR fun f18 g19 => LpX10_stepN_40 l G d Q sh fR x p f18 g19 (a2 + nI 1))))) :
    LpX10_stepN_40 l G d Q sh fR x p f g a2 := by
  refine S_iload_n (pc := 40) dX10_step_40 rfl rfl ?_
  refine S_aload_n (pc := 41) dX10_step_41 rfl rfl ?_
  refine S_getR (pc := 42) dX10_step_42 flX10_58 (sW_0 hs) rfl hp ?_
  refine S_get (pc := 45) (v := .int (f p 6)) dX10_step_45 flX10_102 (sL_0 hP) rfl ?_
  refine S_icmp_ge (pc := 48) (tgt := 62) dX10_step_48 rfl (fun hc9 => ?_) (fun hc9 => ?_)
  · replace H := H.1 hc9
    refine S_aload_n (pc := 62) dX10_step_62 rfl rfl ?_
    refine S_getR (pc := 63) dX10_step_63 flX10_27 (sW_0 hs) rfl (rW_0_2 hs) ?_
    refine S_aload_n (pc := 66) dX10_step_66 rfl rfl ?_
    refine S_get (pc := 67) (v := .int (f x 8)) dX10_step_67 flX10_63 (sW_0 hs) rfl ?_
    refine S_callV (As := [.int (f x 8)]) (mc := 0) (ms := 0) (pc := 70) dX10_step_70 miX2_tidy mvX2_tidy mlX10_226 rfl (sW_5 hs) rfl rfl rfl (RmOK.of rfl) H ?_
    rintro _ _ ⟨f10, g11, rfl, rfl, H⟩
    show WP _ _ _ _ _ _ _ 73 [some (.ref x), some (.null), some (.int a2)] [] (sh, f10, g11, fR)
    refine S_aload_n (pc := 73) dX10_step_73 rfl rfl ?_
    refine S_aload_nN (pc := 74) dX10_step_74 rfl rfl ?_
    refine S_callV (As := [.null]) (mc := 0) (ms := 0) (pc := 75) dX10_step_75 miX10_sendPieces mvX10_sendPieces mlX10_227 rfl (sW_0 hs) rfl rfl rfl (RmOK.of rfl) H ?_
    rintro _ _ ⟨x14, f12, g13, rfl, rfl, H⟩
    show WP _ _ _ _ _ _ _ 78 [some (.ref x), some (.null), some (.int a2)] [.int x14] (sh, f12, g13, fR)
    refine S_if_eq (pc := 78) (tgt := 86) dX10_step_78 rfl (fun hc15 => ?_) (fun hc15 => ?_)
    · replace H := H.1 hc15
      refine S_aload_n (pc := 86) dX10_step_86 rfl rfl ?_
      refine S_dup (pc := 87) dX10_step_87 rfl ?_
      refine S_get (pc := 88) (v := .int (f12 x 8)) dX10_step_88 flX10_63 (sW_0 hs) rfl ?_
      refine S_iconst (pc := 91) dX10_step_91 ic1 ?_
      refine S_iadd (pc := 92) dX10_step_92 ?_
      refine S_putI (pc := 93) dX10_step_93 flX10_63 (sW_0 hs) hs.2.2 (nf_10_8) rfl rfl (fun _ => rfl) ?_
      exact S_vreturn dX10_step_96 rfl H
    · replace H := H.2 hc15
      refine S_aload_n (pc := 81) dX10_step_81 rfl rfl ?_
      refine S_aload_nN (pc := 82) dX10_step_82 rfl rfl ?_
      refine S_callV (As := [.null]) (mc := 0) (ms := 0) (pc := 83) dX10_step_83 miX10_penalise mvX10_penalise mlX10_231 rfl (sW_0 hs) rfl rfl rfl (RmOK.of rfl) H ?_
      rintro _ _ ⟨f16, g17, rfl, rfl, H⟩
      show WP _ _ _ _ _ _ _ 86 [some (.ref x), some (.null), some (.int a2)] [] (sh, f16, g17, fR)
      refine S_aload_n (pc := 86) dX10_step_86 rfl rfl ?_
      refine S_dup (pc := 87) dX10_step_87 rfl ?_
      refine S_get (pc := 88) (v := .int (f16 x 8)) dX10_step_88 flX10_63 (sW_0 hs) rfl ?_
      refine S_iconst (pc := 91) dX10_step_91 ic1 ?_
      refine S_iadd (pc := 92) dX10_step_92 ?_
      refine S_putI (pc := 93) dX10_step_93 flX10_63 (sW_0 hs) hs.2.2 (nf_10_8) rfl rfl (fun _ => rfl) ?_
      exact S_vreturn dX10_step_96 rfl H
  · replace H := H.2 hc9
    refine S_aload_n (pc := 51) dX10_step_51 rfl rfl ?_
    refine S_iload_n (pc := 52) dX10_step_52 rfl rfl ?_
    refine S_callV (As := [.int a2]) (mc := 0) (ms := 0) (pc := 53) dX10_step_53 miX10_failLate mvX10_failLate mlX10_223 rfl (sW_0 hs) rfl rfl rfl (RmOK.of rfl) H ?_
    rintro _ _ ⟨f18, g19, rfl, rfl, H⟩
    show WP _ _ _ _ _ _ _ 56 [some (.ref x), some (.null), some (.int a2)] [] (sh, f18, g19, fR)
    refine S_iinc (pc := 56) (v := nI 1) (L' := [some (.ref x), some (.null), some (.int (a2 + nI 1))]) dX10_step_56 rfl ic1 rfl ?_
    refine S_goto (pc := 59) (tgt := 40) dX10_step_59 rfl ?_
    exact H
abbrev LpX10_stepD_40 (l : Launch) (G : Gx) (d : Nat) (Q : Option Value → Hp → Prop) (sh : Sh) (fR : FRt) (x p w : Nat) (f : FI) (g : FL) (a2 : Int32) : Prop := WP l G (Zq G 0 0 Q) mX10_step (rmd (d + 5) 0 0) 0 0 40 [some (.ref x), some (.ref w), some (.int a2)] [] (sh, f, g, fR)
set_option maxHeartbeats 2000000 in
set_option maxRecDepth 4000 in
theorem VX10_stepD {l : Launch} {G : Gx} {d : Nat} {Q : Option Value → Hp → Prop} {sh : Sh} {fR : FRt} {x p w : Nat} {f : FI} {g : FL}  (hs : StW sh fR x) (hp : fR x 7 = some p) (hP : StPl sh fR p) (hw : sh[w]? = some (1, 1) ∧ 0 < w)
    (H : Cl l G (d + 4) 0 0 mX10_joinTold [.ref x] (sh, (up2 (up2 (up2 f x 13 (nI 0)) x 14 (nI 0)) x 15 (nI 0)), g, fR) (qv sh fR fun f1 g2 => Cl l G (d + 4) 0 0 mX10_hearAnswers [.ref x] (sh, f1, g2, fR) (qv sh fR fun f3 g4 => Cl l G (d + 4) 0 0 mX10_receive [.ref x] (sh, f3, g4, fR) (qv sh fR fun f5 g6 => Cl l G (d + 4) 0 0 mX0_tidy [.ref (x + 14), .int (f5 x 8)] (sh, f5, g6, fR) (qv sh fR fun f7 g8 => LpX10_stepD_40 l G d Q sh fR x p w f7 g8 (nI 0)))))) :
    Cl l G (d + 5) 0 0 mX10_step [.ref x, .ref w] (sh, f, g, fR) Q := by
  refine Cl.of (L0 := [some (.ref x), some (.ref w), none]) miX10_step rfl rfl ?_
  refine S_aload_n (pc := 0) dX10_step_0 rfl rfl ?_
  refine S_iconst (pc := 1) dX10_step_1 ic0 ?_
  refine S_putI (pc := 2) dX10_step_2 flX10_202 (sW_0 hs) hs.2.2 (nf_10_13) rfl rfl (fun _ => rfl) ?_
  refine S_aload_n (pc := 5) dX10_step_5 rfl rfl ?_
  refine S_iconst (pc := 6) dX10_step_6 ic0 ?_
  refine S_putI (pc := 7) dX10_step_7 flX10_205 (sW_0 hs) hs.2.2 (nf_10_14) rfl rfl (fun _ => rfl) ?_
  refine S_aload_n (pc := 10) dX10_step_10 rfl rfl ?_
  refine S_iconst (pc := 11) dX10_step_11 ic0 ?_
  refine S_putI (pc := 12) dX10_step_12 flX10_208 (sW_0 hs) hs.2.2 (nf_10_15) nb0 rfl (fun _ => rfl) ?_
  refine S_aload_n (pc := 15) dX10_step_15 rfl rfl ?_
  refine S_callV (As := []) (mc := 0) (ms := 0) (pc := 16) dX10_step_16 miX10_joinTold mvX10_joinTold mlX10_211 rfl (sW_0 hs) rfl rfl rfl (RmOK.of rfl) H ?_
  rintro _ _ ⟨f1, g2, rfl, rfl, H⟩
  show WP _ _ _ _ _ _ _ 19 [some (.ref x), some (.ref w), none] [] (sh, f1, g2, fR)
  refine S_aload_n (pc := 19) dX10_step_19 rfl rfl ?_
  refine S_callV (As := []) (mc := 0) (ms := 0) (pc := 20) dX10_step_20 miX10_hearAnswers mvX10_hearAnswers mlX10_214 rfl (sW_0 hs) rfl rfl rfl (RmOK.of rfl) H ?_
  rintro _ _ ⟨f3, g4, rfl, rfl, H⟩
  show WP _ _ _ _ _ _ _ 23 [some (.ref x), some (.ref w), none] [] (sh, f3, g4, fR)
  refine S_aload_n (pc := 23) dX10_step_23 rfl rfl ?_
  refine S_callV (As := []) (mc := 0) (ms := 0) (pc := 24) dX10_step_24 miX10_receive mvX10_receive mlX10_217 rfl (sW_0 hs) rfl rfl rfl (RmOK.of rfl) H ?_
  rintro _ _ ⟨f5, g6, rfl, rfl, H⟩
  show WP _ _ _ _ _ _ _ 27 [some (.ref x), some (.ref w), none] [] (sh, f5, g6, fR)
  refine S_aload_n (pc := 27) dX10_step_27 rfl rfl ?_
  refine S_getR (pc := 28) dX10_step_28 flX10_34 (sW_0 hs) rfl (rW_0_3 hs) ?_
  refine S_aload_n (pc := 31) dX10_step_31 rfl rfl ?_
  refine S_get (pc := 32) (v := .int (f5 x 8)) dX10_step_32 flX10_63 (sW_0 hs) rfl ?_
  refine S_callV (As := [.int (f5 x 8)]) (mc := 0) (ms := 0) (pc := 35) dX10_step_35 miX0_tidy mvX0_tidy mlX10_220 rfl (sW_14 hs) rfl rfl rfl (RmOK.of rfl) H ?_
  rintro _ _ ⟨f7, g8, rfl, rfl, H⟩
  show WP _ _ _ _ _ _ _ 38 [some (.ref x), some (.ref w), none] [] (sh, f7, g8, fR)
  refine S_iconst (pc := 38) dX10_step_38 ic0 ?_
  refine S_istore_n (pc := 39) (L' := [some (.ref x), some (.ref w), some (.int (nI 0))]) dX10_step_39 rfl (by decide) rfl ?_
  exact H
set_option maxHeartbeats 2000000 in
set_option maxRecDepth 4000 in
theorem VX10_stepD_40 {l : Launch} {G : Gx} {d : Nat} {Q : Option Value → Hp → Prop} {sh : Sh} {fR : FRt} {x p w : Nat} {f : FI} {g : FL} {a2 : Int32} (hs : StW sh fR x) (hp : fR x 7 = some p) (hP : StPl sh fR p) (hw : sh[w]? = some (1, 1) ∧ 0 < w)
    (H : (((f p 6) ≤ a2 → Cl l G (d + 4) 0 0 mX2_tidy [.ref (x + 5), .int (f x 8)] (sh, f, g, fR) (qv sh fR fun f10 g11 => Cl l G (d + 4) 0 0 mX10_sendPieces [.ref x, .ref w] (sh, f10, g11, fR) (qi sh fR fun x14 f12 g13 => ((x14 = 0 → Q none (sh, (up2 f12 x 8 ((f12 x 8) + (nI 1))), g13, fR)) ∧ (¬ x14 = 0 → Cl l G (d + 4) 0 0 mX10_penalise [.ref x, .ref w] (sh, f12, g13, fR) (qv sh fR fun f16 g17 => Q none (sh, (up2 f16 x 8 ((f16 x 8) + (nI 1))), g17, fR))))))) ∧ (¬ (f p 6) ≤ a2 → Cl l G (d + 4) 0 0 mX10_failLate [.ref x, .int a2] (sh, f, g, fR) (qv sh fR fun f18 g19 => LpX10_stepD_40 l G d Q sh fR x p w f18 g19 (a2 + nI 1))))) :
    LpX10_stepD_40 l G d Q sh fR x p w f g a2 := by
  refine S_iload_n (pc := 40) dX10_step_40 rfl rfl ?_
  refine S_aload_n (pc := 41) dX10_step_41 rfl rfl ?_
  refine S_getR (pc := 42) dX10_step_42 flX10_58 (sW_0 hs) rfl hp ?_
  refine S_get (pc := 45) (v := .int (f p 6)) dX10_step_45 flX10_102 (sL_0 hP) rfl ?_
  refine S_icmp_ge (pc := 48) (tgt := 62) dX10_step_48 rfl (fun hc9 => ?_) (fun hc9 => ?_)
  · replace H := H.1 hc9
    refine S_aload_n (pc := 62) dX10_step_62 rfl rfl ?_
    refine S_getR (pc := 63) dX10_step_63 flX10_27 (sW_0 hs) rfl (rW_0_2 hs) ?_
    refine S_aload_n (pc := 66) dX10_step_66 rfl rfl ?_
    refine S_get (pc := 67) (v := .int (f x 8)) dX10_step_67 flX10_63 (sW_0 hs) rfl ?_
    refine S_callV (As := [.int (f x 8)]) (mc := 0) (ms := 0) (pc := 70) dX10_step_70 miX2_tidy mvX2_tidy mlX10_226 rfl (sW_5 hs) rfl rfl rfl (RmOK.of rfl) H ?_
    rintro _ _ ⟨f10, g11, rfl, rfl, H⟩
    show WP _ _ _ _ _ _ _ 73 [some (.ref x), some (.ref w), some (.int a2)] [] (sh, f10, g11, fR)
    refine S_aload_n (pc := 73) dX10_step_73 rfl rfl ?_
    refine S_aload_n (pc := 74) dX10_step_74 rfl rfl ?_
    refine S_callV (As := [.ref w]) (mc := 0) (ms := 0) (pc := 75) dX10_step_75 miX10_sendPieces mvX10_sendPieces mlX10_227 rfl (sW_0 hs) rfl rfl rfl (RmOK.of rfl) H ?_
    rintro _ _ ⟨x14, f12, g13, rfl, rfl, H⟩
    show WP _ _ _ _ _ _ _ 78 [some (.ref x), some (.ref w), some (.int a2)] [.int x14] (sh, f12, g13, fR)
    refine S_if_eq (pc := 78) (tgt := 86) dX10_step_78 rfl (fun hc15 => ?_) (fun hc15 => ?_)
    · replace H := H.1 hc15
      refine S_aload_n (pc := 86) dX10_step_86 rfl rfl ?_
      refine S_dup (pc := 87) dX10_step_87 rfl ?_
      refine S_get (pc := 88) (v := .int (f12 x 8)) dX10_step_88 flX10_63 (sW_0 hs) rfl ?_
      refine S_iconst (pc := 91) dX10_step_91 ic1 ?_
      refine S_iadd (pc := 92) dX10_step_92 ?_
      refine S_putI (pc := 93) dX10_step_93 flX10_63 (sW_0 hs) hs.2.2 (nf_10_8) rfl rfl (fun _ => rfl) ?_
      exact S_vreturn dX10_step_96 rfl H
    · replace H := H.2 hc15
      refine S_aload_n (pc := 81) dX10_step_81 rfl rfl ?_
      refine S_aload_n (pc := 82) dX10_step_82 rfl rfl ?_
      refine S_callV (As := [.ref w]) (mc := 0) (ms := 0) (pc := 83) dX10_step_83 miX10_penalise mvX10_penalise mlX10_231 rfl (sW_0 hs) rfl rfl rfl (RmOK.of rfl) H ?_
      rintro _ _ ⟨f16, g17, rfl, rfl, H⟩
      show WP _ _ _ _ _ _ _ 86 [some (.ref x), some (.ref w), some (.int a2)] [] (sh, f16, g17, fR)
      refine S_aload_n (pc := 86) dX10_step_86 rfl rfl ?_
      refine S_dup (pc := 87) dX10_step_87 rfl ?_
      refine S_get (pc := 88) (v := .int (f16 x 8)) dX10_step_88 flX10_63 (sW_0 hs) rfl ?_
      refine S_iconst (pc := 91) dX10_step_91 ic1 ?_
      refine S_iadd (pc := 92) dX10_step_92 ?_
      refine S_putI (pc := 93) dX10_step_93 flX10_63 (sW_0 hs) hs.2.2 (nf_10_8) rfl rfl (fun _ => rfl) ?_
      exact S_vreturn dX10_step_96 rfl H
  · replace H := H.2 hc9
    refine S_aload_n (pc := 51) dX10_step_51 rfl rfl ?_
    refine S_iload_n (pc := 52) dX10_step_52 rfl rfl ?_
    refine S_callV (As := [.int a2]) (mc := 0) (ms := 0) (pc := 53) dX10_step_53 miX10_failLate mvX10_failLate mlX10_223 rfl (sW_0 hs) rfl rfl rfl (RmOK.of rfl) H ?_
    rintro _ _ ⟨f18, g19, rfl, rfl, H⟩
    show WP _ _ _ _ _ _ _ 56 [some (.ref x), some (.ref w), some (.int a2)] [] (sh, f18, g19, fR)
    refine S_iinc (pc := 56) (v := nI 1) (L' := [some (.ref x), some (.ref w), some (.int (a2 + nI 1))]) dX10_step_56 rfl ic1 rfl ?_
    refine S_goto (pc := 59) (tgt := 40) dX10_step_59 rfl ?_
    exact H
abbrev LpX10_joinTold_2 (l : Launch) (G : Gx) (d : Nat) (Q : Option Value → Hp → Prop) (sh : Sh) (fR : FRt) (x p : Nat) (f : FI) (g : FL) (a1 : Int32) : Prop := WP l G (Zq G 0 0 Q) mX10_joinTold (rmd (d + 2) 0 0) 0 0 2 [some (.ref x), some (.int a1)] [] (sh, f, g, fR)
abbrev LpX10_joinTold_44 (l : Launch) (G : Gx) (d : Nat) (Q : Option Value → Hp → Prop) (sh : Sh) (fR : FRt) (x p : Nat) (f : FI) (g : FL) (a1 : Int32) : Prop := WP l G (Zq G 0 0 Q) mX10_joinTold (rmd (d + 2) 0 0) 0 0 44 [some (.ref x), some (.int a1)] [] (sh, f, g, fR)
set_option maxHeartbeats 2000000 in
set_option maxRecDepth 4000 in
theorem VX10_joinTold {l : Launch} {G : Gx} {d : Nat} {Q : Option Value → Hp → Prop} {sh : Sh} {fR : FRt} {x p : Nat} {f : FI} {g : FL}  (hs : StW sh fR x) (hp : fR x 7 = some p) (hP : StPl sh fR p)
    (H : LpX10_joinTold_2 l G d Q sh fR x p f g (nI 0)) :
    Cl l G (d + 2) 0 0 mX10_joinTold [.ref x] (sh, f, g, fR) Q := by
  refine Cl.of (L0 := [some (.ref x), none]) miX10_joinTold rfl rfl ?_
  refine S_iconst (pc := 0) dX10_joinTold_0 ic0 ?_
  refine S_istore_n (pc := 1) (L' := [some (.ref x), some (.int (nI 0))]) dX10_joinTold_1 rfl (by decide) rfl ?_
  exact H
set_option maxHeartbeats 2000000 in
set_option maxRecDepth 4000 in
theorem VX10_joinTold_2 {l : Launch} {G : Gx} {d : Nat} {Q : Option Value → Hp → Prop} {sh : Sh} {fR : FRt} {x p : Nat} {f : FI} {g : FL} {a1 : Int32} (hs : StW sh fR x) (hp : fR x 7 = some p) (hP : StPl sh fR p)
    (H : (((f p 6) ≤ a1 → Q none (sh, f, g, fR)) ∧ (¬ (f p 6) ≤ a1 → inb a1 4 ∧ ((¬ (f (p + 3) a1.toNatClampNeg) = (f x 8) → LpX10_joinTold_44 l G d Q sh fR x p f g a1) ∧ ((f (p + 3) a1.toNatClampNeg) = (f x 8) → inb a1 4 ∧ Cl l G (d + 1) 0 0 mX10_tryToken [.ref x, .int a1, .int (f (p + 4) a1.toNatClampNeg)] (sh, f, g, fR) (qi sh fR fun x7 f5 g6 => LpX10_joinTold_44 l G d Q sh fR x p f5 g6 a1)))))) :
    LpX10_joinTold_2 l G d Q sh fR x p f g a1 := by
  refine S_iload_n (pc := 2) dX10_joinTold_2 rfl rfl ?_
  refine S_aload_n (pc := 3) dX10_joinTold_3 rfl rfl ?_
  refine S_getR (pc := 4) dX10_joinTold_4 flX10_58 (sW_0 hs) rfl hp ?_
  refine S_get (pc := 7) (v := .int (f p 6)) dX10_joinTold_7 flX10_102 (sL_0 hP) rfl ?_
  refine S_icmp_ge (pc := 10) (tgt := 50) dX10_joinTold_10 rfl (fun hc1 => ?_) (fun hc1 => ?_)
  · replace H := H.1 hc1
    exact S_vreturn dX10_joinTold_50 rfl H
  · replace H := H.2 hc1
    refine S_aload_n (pc := 13) dX10_joinTold_13 rfl rfl ?_
    refine S_getR (pc := 14) dX10_joinTold_14 flX10_58 (sW_0 hs) rfl hp ?_
    refine S_getR (pc := 17) dX10_joinTold_17 flX10_235 (sL_0 hP) rfl (rL_0_9 hP) ?_
    refine S_iload_n (pc := 20) dX10_joinTold_20 rfl rfl ?_
    obtain ⟨hb2, H⟩ := H
    refine S_iald (pc := 21) dX10_joinTold_21 (sL_3 hP) hb2 ?_
    refine S_aload_n (pc := 22) dX10_joinTold_22 rfl rfl ?_
    refine S_get (pc := 23) (v := .int (f x 8)) dX10_joinTold_23 flX10_63 (sW_0 hs) rfl ?_
    refine S_icmp_ne (pc := 26) (tgt := 44) dX10_joinTold_26 rfl (fun hc3 => ?_) (fun hc3 => ?_)
    · replace H := H.1 hc3
      exact H
    · replace H := H.2 hc3
      refine S_aload_n (pc := 29) dX10_joinTold_29 rfl rfl ?_
      refine S_iload_n (pc := 30) dX10_joinTold_30 rfl rfl ?_
      refine S_aload_n (pc := 31) dX10_joinTold_31 rfl rfl ?_
      refine S_getR (pc := 32) dX10_joinTold_32 flX10_58 (sW_0 hs) rfl hp ?_
      refine S_getR (pc := 35) dX10_joinTold_35 flX10_238 (sL_0 hP) rfl (rL_0_10 hP) ?_
      refine S_iload_n (pc := 38) dX10_joinTold_38 rfl rfl ?_
      obtain ⟨hb4, H⟩ := H
      refine S_iald (pc := 39) dX10_joinTold_39 (sL_4 hP) hb4 ?_
      refine S_callV (As := [.int a1, .int (f (p + 4) a1.toNatClampNeg)]) (mc := 0) (ms := 0) (pc := 40) dX10_joinTold_40 miX10_tryToken mvX10_tryToken mlX10_241 rfl (sW_0 hs) rfl rfl rfl (RmOK.of rfl) H ?_
      rintro _ _ ⟨x7, f5, g6, rfl, rfl, H⟩
      show WP _ _ _ _ _ _ _ 43 [some (.ref x), some (.int a1)] [.int x7] (sh, f5, g6, fR)
      refine S_pop (pc := 43) dX10_joinTold_43 rfl ?_
      exact H
set_option maxHeartbeats 2000000 in
set_option maxRecDepth 4000 in
theorem VX10_joinTold_44 {l : Launch} {G : Gx} {d : Nat} {Q : Option Value → Hp → Prop} {sh : Sh} {fR : FRt} {x p : Nat} {f : FI} {g : FL} {a1 : Int32} (hs : StW sh fR x) (hp : fR x 7 = some p) (hP : StPl sh fR p)
    (H : LpX10_joinTold_2 l G d Q sh fR x p f g (a1 + nI 1)) :
    LpX10_joinTold_44 l G d Q sh fR x p f g a1 := by
  refine S_iinc (pc := 44) (v := nI 1) (L' := [some (.ref x), some (.int (a1 + nI 1))]) dX10_joinTold_44 rfl ic1 rfl ?_
  refine S_goto (pc := 47) (tgt := 2) dX10_joinTold_47 rfl ?_
  exact H
abbrev LpX10_hearAnswers_2 (l : Launch) (G : Gx) (d : Nat) (Q : Option Value → Hp → Prop) (sh : Sh) (fR : FRt) (x p : Nat) (f : FI) (g : FL) (a1 : Int32) : Prop := WP l G (Zq G 0 0 Q) mX10_hearAnswers (rmd (d + 3) 0 0) 0 0 2 [some (.ref x), some (.int a1), none] [] (sh, f, g, fR)
abbrev LpX10_hearAnswers_105 (l : Launch) (G : Gx) (d : Nat) (Q : Option Value → Hp → Prop) (sh : Sh) (fR : FRt) (x p : Nat) (f : FI) (g : FL) (a1 : Int32) : Prop := WP l G (Zq G 0 0 Q) mX10_hearAnswers (rmd (d + 3) 0 0) 0 0 105 [some (.ref x), some (.int a1), none] [] (sh, f, g, fR)
set_option maxHeartbeats 2000000 in
set_option maxRecDepth 4000 in
theorem VX10_hearAnswers {l : Launch} {G : Gx} {d : Nat} {Q : Option Value → Hp → Prop} {sh : Sh} {fR : FRt} {x p : Nat} {f : FI} {g : FL}  (hs : StW sh fR x) (hp : fR x 7 = some p) (hP : StPl sh fR p)
    (H : LpX10_hearAnswers_2 l G d Q sh fR x p f g (nI 0)) :
    Cl l G (d + 3) 0 0 mX10_hearAnswers [.ref x] (sh, f, g, fR) Q := by
  refine Cl.of (L0 := [some (.ref x), none, none]) miX10_hearAnswers rfl rfl ?_
  refine S_iconst (pc := 0) dX10_hearAnswers_0 ic0 ?_
  refine S_istore_n (pc := 1) (L' := [some (.ref x), some (.int (nI 0)), none]) dX10_hearAnswers_1 rfl (by decide) rfl ?_
  exact H
set_option maxHeartbeats 2000000 in
set_option maxRecDepth 4000 in
theorem VX10_hearAnswers_2 {l : Launch} {G : Gx} {d : Nat} {Q : Option Value → Hp → Prop} {sh : Sh} {fR : FRt} {x p : Nat} {f : FI} {g : FL} {a1 : Int32} (hs : StW sh fR x) (hp : fR x 7 = some p) (hP : StPl sh fR p)
    (H : (((f (x + 14) 5) ≤ a1 → Q none (sh, f, g, fR)) ∧ (¬ (f (x + 14) 5) ≤ a1 → inb a1 512 ∧ ((¬ (f (x + 19) a1.toNatClampNeg) = (f x 8) → LpX10_hearAnswers_105 l G d Q sh fR x p f g a1) ∧ ((f (x + 19) a1.toNatClampNeg) = (f x 8) → inb a1 512 ∧ Cl l G (d + 2) 0 0 mJ_max [.int (f x 10), .int (f (x + 17) a1.toNatClampNeg)] (sh, f, g, fR) (qi sh fR fun x7 f5 g6 => inb a1 512 ∧ Cl l G (d + 2) 0 0 mJ_max [.int (f5 x 11), .int (f5 (x + 18) a1.toNatClampNeg)] (sh, (up2 f5 x 10 x7), g6, fR) (qi sh fR fun x11 f9 g10 => inb a1 512 ∧ inb a1 512 ∧ Cl l G (d + 2) 0 0 mX2_rowOf [.ref (x + 5), .int (f9 (x + 15) a1.toNatClampNeg), .int (f9 (x + 16) a1.toNatClampNeg)] (sh, (up2 f9 x 11 x11), g10, fR) (qi sh fR fun x16 f14 g15 => ((x16 = (-1) → LpX10_hearAnswers_105 l G d Q sh fR x p f14 g15 a1) ∧ (¬ x16 = (-1) → Cl l G (d + 2) 0 0 mX10_settle [.ref x, .int x16] (sh, f14, g15, fR) (qv sh fR fun f18 g19 => LpX10_hearAnswers_105 l G d Q sh fR x p f18 g19 a1))))))))))) :
    LpX10_hearAnswers_2 l G d Q sh fR x p f g a1 := by
  refine S_iload_n (pc := 2) dX10_hearAnswers_2 rfl rfl ?_
  refine S_aload_n (pc := 3) dX10_hearAnswers_3 rfl rfl ?_
  refine S_getR (pc := 4) dX10_hearAnswers_4 flX10_34 (sW_0 hs) rfl (rW_0_3 hs) ?_
  refine S_get (pc := 7) (v := .int (f (x + 14) 5)) dX10_hearAnswers_7 flX10_91 (sW_14 hs) rfl ?_
  refine S_icmp_ge (pc := 10) (tgt := 111) dX10_hearAnswers_10 rfl (fun hc1 => ?_) (fun hc1 => ?_)
  · replace H := H.1 hc1
    exact S_vreturn dX10_hearAnswers_111 rfl H
  · replace H := H.2 hc1
    refine S_aload_n (pc := 13) dX10_hearAnswers_13 rfl rfl ?_
    refine S_getR (pc := 14) dX10_hearAnswers_14 flX10_34 (sW_0 hs) rfl (rW_0_3 hs) ?_
    refine S_getR (pc := 17) dX10_hearAnswers_17 flX10_245 (sW_14 hs) rfl (rW_14_4 hs) ?_
    refine S_iload_n (pc := 20) dX10_hearAnswers_20 rfl rfl ?_
    obtain ⟨hb2, H⟩ := H
    refine S_iald (pc := 21) dX10_hearAnswers_21 (sW_19 hs) hb2 ?_
    refine S_aload_n (pc := 22) dX10_hearAnswers_22 rfl rfl ?_
    refine S_get (pc := 23) (v := .int (f x 8)) dX10_hearAnswers_23 flX10_63 (sW_0 hs) rfl ?_
    refine S_icmp_ne (pc := 26) (tgt := 105) dX10_hearAnswers_26 rfl (fun hc3 => ?_) (fun hc3 => ?_)
    · replace H := H.1 hc3
      exact H
    · replace H := H.2 hc3
      refine S_aload_n (pc := 29) dX10_hearAnswers_29 rfl rfl ?_
      refine S_aload_n (pc := 30) dX10_hearAnswers_30 rfl rfl ?_
      refine S_get (pc := 31) (v := .int (f x 10)) dX10_hearAnswers_31 flX10_70 (sW_0 hs) rfl ?_
      refine S_aload_n (pc := 34) dX10_hearAnswers_34 rfl rfl ?_
      refine S_getR (pc := 35) dX10_hearAnswers_35 flX10_34 (sW_0 hs) rfl (rW_0_3 hs) ?_
      refine S_getR (pc := 38) dX10_hearAnswers_38 flX10_248 (sW_14 hs) rfl (rW_14_2 hs) ?_
      refine S_iload_n (pc := 41) dX10_hearAnswers_41 rfl rfl ?_
      obtain ⟨hb4, H⟩ := H
      refine S_iald (pc := 42) dX10_hearAnswers_42 (sW_17 hs) hb4 ?_
      refine S_callSJ (As := [.int (f x 10), .int (f (x + 17) a1.toNatClampNeg)]) (mc := 0) (ms := 0) (pc := 43) dX10_hearAnswers_43 miJ_max mvJ_max mlX10_162 rfl rfl (RmOK.of rfl) H ?_
      rintro _ _ ⟨x7, f5, g6, rfl, rfl, H⟩
      show WP _ _ _ _ _ _ _ 46 [some (.ref x), some (.int a1), none] [.int x7, .ref x] (sh, f5, g6, fR)
      refine S_putI (pc := 46) dX10_hearAnswers_46 flX10_70 (sW_0 hs) hs.2.2 (nf_10_10) rfl rfl (fun _ => rfl) ?_
      refine S_aload_n (pc := 49) dX10_hearAnswers_49 rfl rfl ?_
      refine S_aload_n (pc := 50) dX10_hearAnswers_50 rfl rfl ?_
      refine S_get (pc := 51) (v := .int ((up2 f5 x 10 x7) x 11)) dX10_hearAnswers_51 flX10_78 (sW_0 hs) rfl ?_
      refine S_eqi (x := f5 x 11) ((up2_k (by decide)).trans rfl) ?_
      refine S_aload_n (pc := 54) dX10_hearAnswers_54 rfl rfl ?_
      refine S_getR (pc := 55) dX10_hearAnswers_55 flX10_34 (sW_0 hs) rfl (rW_0_3 hs) ?_
      refine S_getR (pc := 58) dX10_hearAnswers_58 flX10_250 (sW_14 hs) rfl (rW_14_3 hs) ?_
      refine S_iload_n (pc := 61) dX10_hearAnswers_61 rfl rfl ?_
      obtain ⟨hb8, H⟩ := H
      refine S_iald (pc := 62) dX10_hearAnswers_62 (sW_18 hs) hb8 ?_
      refine S_eqi (x := f5 (x + 18) a1.toNatClampNeg) ((up2_r (by omega)).trans rfl) ?_
      refine S_callSJ (As := [.int (f5 x 11), .int (f5 (x + 18) a1.toNatClampNeg)]) (mc := 0) (ms := 0) (pc := 63) dX10_hearAnswers_63 miJ_max mvJ_max mlX10_162 rfl rfl (RmOK.of rfl) H ?_
      rintro _ _ ⟨x11, f9, g10, rfl, rfl, H⟩
      show WP _ _ _ _ _ _ _ 66 [some (.ref x), some (.int a1), none] [.int x11, .ref x] (sh, f9, g10, fR)
      refine S_putI (pc := 66) dX10_hearAnswers_66 flX10_78 (sW_0 hs) hs.2.2 (nf_10_11) rfl rfl (fun _ => rfl) ?_
      refine S_aload_n (pc := 69) dX10_hearAnswers_69 rfl rfl ?_
      refine S_getR (pc := 70) dX10_hearAnswers_70 flX10_27 (sW_0 hs) rfl (rW_0_2 hs) ?_
      refine S_aload_n (pc := 73) dX10_hearAnswers_73 rfl rfl ?_
      refine S_getR (pc := 74) dX10_hearAnswers_74 flX10_34 (sW_0 hs) rfl (rW_0_3 hs) ?_
      refine S_getR (pc := 77) dX10_hearAnswers_77 flX10_252 (sW_14 hs) rfl (rW_14_0 hs) ?_
      refine S_iload_n (pc := 80) dX10_hearAnswers_80 rfl rfl ?_
      obtain ⟨hb12, H⟩ := H
      refine S_iald (pc := 81) dX10_hearAnswers_81 (sW_15 hs) hb12 ?_
      refine S_eqi (x := f9 (x + 15) a1.toNatClampNeg) ((up2_r (by omega)).trans rfl) ?_
      refine S_aload_n (pc := 82) dX10_hearAnswers_82 rfl rfl ?_
      refine S_getR (pc := 83) dX10_hearAnswers_83 flX10_34 (sW_0 hs) rfl (rW_0_3 hs) ?_
      refine S_getR (pc := 86) dX10_hearAnswers_86 flX10_253 (sW_14 hs) rfl (rW_14_1 hs) ?_
      refine S_iload_n (pc := 89) dX10_hearAnswers_89 rfl rfl ?_
      obtain ⟨hb13, H⟩ := H
      refine S_iald (pc := 90) dX10_hearAnswers_90 (sW_16 hs) hb13 ?_
      refine S_eqi (x := f9 (x + 16) a1.toNatClampNeg) ((up2_r (by omega)).trans rfl) ?_
      refine S_callV (As := [.int (f9 (x + 15) a1.toNatClampNeg), .int (f9 (x + 16) a1.toNatClampNeg)]) (mc := 0) (ms := 0) (pc := 91) dX10_hearAnswers_91 miX2_rowOf mvX2_rowOf mlX10_256 rfl (sW_5 hs) rfl rfl rfl (RmOK.of rfl) H ?_
      rintro _ _ ⟨x16, f14, g15, rfl, rfl, H⟩
      show WP _ _ _ _ _ _ _ 94 [some (.ref x), some (.int a1), none] [.int x16] (sh, f14, g15, fR)
      refine S_istore_n (pc := 94) (L' := [some (.ref x), some (.int a1), some (.int x16)]) dX10_hearAnswers_94 rfl (by decide) rfl ?_
      refine S_iload_n (pc := 95) dX10_hearAnswers_95 rfl rfl ?_
      refine S_iconst (pc := 96) dX10_hearAnswers_96 icm1 ?_
      refine S_icmp_eq (pc := 97) (tgt := 105) dX10_hearAnswers_97 rfl (fun hc17 => ?_) (fun hc17 => ?_)
      · replace H := H.1 hc17
        exact S_weak (L' := [some (.ref x), some (.int a1), none]) (ls_e (ls_e (ls_n ls_0))) H
      · replace H := H.2 hc17
        refine S_aload_n (pc := 100) dX10_hearAnswers_100 rfl rfl ?_
        refine S_iload_n (pc := 101) dX10_hearAnswers_101 rfl rfl ?_
        refine S_callV (As := [.int x16]) (mc := 0) (ms := 0) (pc := 102) dX10_hearAnswers_102 miX10_settle mvX10_settle mlX10_259 rfl (sW_0 hs) rfl rfl rfl (RmOK.of rfl) H ?_
        rintro _ _ ⟨f18, g19, rfl, rfl, H⟩
        show WP _ _ _ _ _ _ _ 105 [some (.ref x), some (.int a1), some (.int x16)] [] (sh, f18, g19, fR)
        exact S_weak (L' := [some (.ref x), some (.int a1), none]) (ls_e (ls_e (ls_n ls_0))) H
set_option maxHeartbeats 2000000 in
set_option maxRecDepth 4000 in
theorem VX10_hearAnswers_105 {l : Launch} {G : Gx} {d : Nat} {Q : Option Value → Hp → Prop} {sh : Sh} {fR : FRt} {x p : Nat} {f : FI} {g : FL} {a1 : Int32} (hs : StW sh fR x) (hp : fR x 7 = some p) (hP : StPl sh fR p)
    (H : LpX10_hearAnswers_2 l G d Q sh fR x p f g (a1 + nI 1)) :
    LpX10_hearAnswers_105 l G d Q sh fR x p f g a1 := by
  refine S_iinc (pc := 105) (v := nI 1) (L' := [some (.ref x), some (.int (a1 + nI 1)), none]) dX10_hearAnswers_105 rfl ic1 rfl ?_
  refine S_goto (pc := 108) (tgt := 2) dX10_hearAnswers_108 rfl ?_
  exact H
abbrev LpX10_settle_45 (l : Launch) (G : Gx) (d : Nat) (Q : Option Value → Hp → Prop) (sh : Sh) (fR : FRt) (x p : Nat) (f : FI) (g : FL) (r2 : Nat) (a3 : Int32) (a4 : Int32) : Prop := WP l G (Zq G 0 0 Q) mX10_settle (rmd (d + 2) 0 0) 0 0 45 [some (.ref x), none, some (.ref r2), some (.int a3), some (.int a4)] [] (sh, f, g, fR)
abbrev LpX10_settle_83 (l : Launch) (G : Gx) (d : Nat) (Q : Option Value → Hp → Prop) (sh : Sh) (fR : FRt) (x p : Nat) (f : FI) (g : FL) (r2 : Nat) (a3 : Int32) (a4 : Int32) : Prop := WP l G (Zq G 0 0 Q) mX10_settle (rmd (d + 2) 0 0) 0 0 83 [some (.ref x), none, some (.ref r2), some (.int a3), some (.int a4)] [] (sh, f, g, fR)
set_option maxHeartbeats 2000000 in
set_option maxRecDepth 4000 in
theorem VX10_settle {l : Launch} {G : Gx} {d : Nat} {Q : Option Value → Hp → Prop} {sh : Sh} {fR : FRt} {x p : Nat} {f : FI} {g : FL} {a1 : Int32} (hs : StW sh fR x) (hp : fR x 7 = some p) (hP : StPl sh fR p)
    (H : inb a1 512 ∧ inb (f (x + 6) a1.toNatClampNeg) 4 ∧ (∃ r3, fR (x + 1) (f (x + 6) a1.toNatClampNeg).toNatClampNeg = some r3 ∧ sh[r3]? = some (8, 8) ∧ 0 < r3 ∧ inb a1 512 ∧ LpX10_settle_45 l G d Q sh fR x p (up2 (up2 (up2 f (x + 13) a1.toNatClampNeg (nI 0)) r3 5 ((f r3 5) - (nI 1))) r3 4 (nI 0)) g r3 (nI 0) (nI 0))) :
    Cl l G (d + 2) 0 0 mX10_settle [.ref x, .int a1] (sh, f, g, fR) Q := by
  refine Cl.of (L0 := [some (.ref x), some (.int a1), none, none, none]) miX10_settle rfl rfl ?_
  refine S_aload_n (pc := 0) dX10_settle_0 rfl rfl ?_
  refine S_getR (pc := 1) dX10_settle_1 flX10_11 (sW_0 hs) rfl (rW_0_0 hs) ?_
  refine S_aload_n (pc := 4) dX10_settle_4 rfl rfl ?_
  refine S_getR (pc := 5) dX10_settle_5 flX10_27 (sW_0 hs) rfl (rW_0_2 hs) ?_
  refine S_getR (pc := 8) dX10_settle_8 flX10_187 (sW_5 hs) rfl (rW_5_0 hs) ?_
  refine S_iload_n (pc := 11) dX10_settle_11 rfl rfl ?_
  obtain ⟨hb1, H⟩ := H
  refine S_iald (pc := 12) dX10_settle_12 (sW_6 hs) hb1 ?_
  obtain ⟨hb2, H⟩ := H
  obtain ⟨r3, e4, s5, p6, H⟩ := H
  refine S_aald24 (pc := 13) dX10_settle_13 (sW_1 hs) hb2 e4 ?_
  refine S_astore_n (pc := 14) (L' := [some (.ref x), some (.int a1), some (.ref r3), none, none]) dX10_settle_14 rfl (by decide) rfl ?_
  refine S_aload_n (pc := 15) dX10_settle_15 rfl rfl ?_
  refine S_getR (pc := 16) dX10_settle_16 flX10_27 (sW_0 hs) rfl (rW_0_2 hs) ?_
  refine S_getR (pc := 19) dX10_settle_19 flX10_183 (sW_5 hs) rfl (rW_5_7 hs) ?_
  refine S_iload_n (pc := 22) dX10_settle_22 rfl rfl ?_
  refine S_iconst (pc := 23) dX10_settle_23 ic0 ?_
  obtain ⟨hb7, H⟩ := H
  refine S_zast (pc := 24) dX10_settle_24 (sW_13 hs) (Nat.succ_pos _) hb7 ?_
  show WP _ _ _ _ _ _ _ 25 _ _ (sh, (up2 f (x + 13) a1.toNatClampNeg (nI 0)), g, fR)
  refine S_aload_n (pc := 25) dX10_settle_25 rfl rfl ?_
  refine S_dup (pc := 26) dX10_settle_26 rfl ?_
  refine S_get (pc := 27) (v := .int ((up2 f (x + 13) a1.toNatClampNeg (nI 0)) r3 5)) dX10_settle_27 flX10_134 s5 rfl ?_
  refine S_eqi (x := f r3 5) ((up2_r (ne_sh s5 (sW_13 hs) (by decide))).trans rfl) ?_
  refine S_iconst (pc := 30) dX10_settle_30 ic1 ?_
  refine S_isub (pc := 31) dX10_settle_31 ?_
  refine S_putI (pc := 32) dX10_settle_32 flX10_134 s5 p6 (nf_8_5) rfl rfl (fun _ => rfl) ?_
  refine S_aload_n (pc := 35) dX10_settle_35 rfl rfl ?_
  refine S_iconst (pc := 36) dX10_settle_36 ic0 ?_
  refine S_putI (pc := 37) dX10_settle_37 flX10_149 s5 p6 (nf_8_4) rfl rfl (fun _ => rfl) ?_
  refine S_iconst (pc := 40) dX10_settle_40 ic0 ?_
  refine S_istore_n (pc := 41) (L' := [some (.ref x), some (.int a1), some (.ref r3), some (.int (nI 0)), none]) dX10_settle_41 rfl (by decide) rfl ?_
  refine S_iconst (pc := 42) dX10_settle_42 ic0 ?_
  refine S_istore (pc := 43) (L' := [some (.ref x), some (.int a1), some (.ref r3), some (.int (nI 0)), some (.int (nI 0))]) dX10_settle_43 (by decide) rfl ?_
  exact S_weak (L' := [some (.ref x), none, some (.ref r3), some (.int (nI 0)), some (.int (nI 0))]) (ls_e (ls_n (ls_e (ls_e (ls_e ls_0))))) H
set_option maxHeartbeats 2000000 in
set_option maxRecDepth 4000 in
theorem VX10_settle_45 {l : Launch} {G : Gx} {d : Nat} {Q : Option Value → Hp → Prop} {sh : Sh} {fR : FRt} {x p : Nat} {f : FI} {g : FL} {r2 : Nat} {a3 : Int32} {a4 : Int32} (hs : StW sh fR x) (hp : fR x 7 = some p) (hP : StPl sh fR p) (hr2 : sh[r2]? = some (8, 8) ∧ 0 < r2)
    (H : (((f p 6) ≤ a4 → ((a3 ≤ 0 → Q none (sh, f, g, fR)) ∧ (¬ a3 ≤ 0 → ¬ a3 = 0 ∧ Cl l G (d + 1) 0 0 mX8_grow [.ref r2, .int ((nI 1000000) / a3)] (sh, f, g, fR) (qv sh fR fun f11 g12 => Q none (sh, f11, g12, fR))))) ∧ (¬ (f p 6) ≤ a4 → inb a4 4 ∧ (∃ r14, fR (x + 1) a4.toNatClampNeg = some r14 ∧ sh[r14]? = some (8, 8) ∧ 0 < r14 ∧ Cl l G (d + 1) 0 0 mX8_isAlive [.ref r14] (sh, f, g, fR) (qi sh fR fun x20 f18 g19 => ((x20 = 0 → LpX10_settle_83 l G d Q sh fR x p f18 g19 r2 a3 a4) ∧ (¬ x20 = 0 → inb a4 4 ∧ (∃ r23, fR (x + 1) a4.toNatClampNeg = some r23 ∧ sh[r23]? = some (8, 8) ∧ 0 < r23 ∧ (∀ w27 : Int32, w27 = a3 + (f18 r23 3) → LpX10_settle_83 l G d Q sh fR x p f18 g19 r2 w27 a4))))))))) :
    LpX10_settle_45 l G d Q sh fR x p f g r2 a3 a4 := by
  refine S_iload (pc := 45) dX10_settle_45 rfl ?_
  refine S_aload_n (pc := 47) dX10_settle_47 rfl rfl ?_
  refine S_getR (pc := 48) dX10_settle_48 flX10_58 (sW_0 hs) rfl hp ?_
  refine S_get (pc := 51) (v := .int (f p 6)) dX10_settle_51 flX10_102 (sL_0 hP) rfl ?_
  refine S_icmp_ge (pc := 54) (tgt := 89) dX10_settle_54 rfl (fun hc8 => ?_) (fun hc8 => ?_)
  · replace H := H.1 hc8
    refine S_iload_n (pc := 89) dX10_settle_89 rfl rfl ?_
    refine S_if_le (pc := 90) (tgt := 102) dX10_settle_90 rfl (fun hc9 => ?_) (fun hc9 => ?_)
    · replace H := H.1 hc9
      exact S_vreturn dX10_settle_102 rfl H
    · replace H := H.2 hc9
      refine S_aload_n (pc := 93) dX10_settle_93 rfl rfl ?_
      refine S_ldcw (pc := 94) (v := nI 1000000) dX10_settle_94 (gw 912 rfl rfl) ?_
      refine S_iload_n (pc := 97) dX10_settle_97 rfl rfl ?_
      obtain ⟨hc10, H⟩ := H
      refine S_idiv (pc := 98) dX10_settle_98 hc10 ?_
      refine S_callV (As := [.int ((nI 1000000) / a3)]) (mc := 0) (ms := 0) (pc := 99) dX10_settle_99 miX8_grow mvX8_grow mlX10_263 rfl hr2.1 rfl rfl rfl (RmOK.of rfl) H ?_
      rintro _ _ ⟨f11, g12, rfl, rfl, H⟩
      show WP _ _ _ _ _ _ _ 102 [some (.ref x), none, some (.ref r2), some (.int a3), some (.int a4)] [] (sh, f11, g12, fR)
      exact S_vreturn dX10_settle_102 rfl H
  · replace H := H.2 hc8
    refine S_aload_n (pc := 57) dX10_settle_57 rfl rfl ?_
    refine S_getR (pc := 58) dX10_settle_58 flX10_11 (sW_0 hs) rfl (rW_0_0 hs) ?_
    refine S_iload (pc := 61) dX10_settle_61 rfl ?_
    obtain ⟨hb13, H⟩ := H
    obtain ⟨r14, e15, s16, p17, H⟩ := H
    refine S_aald24 (pc := 63) dX10_settle_63 (sW_1 hs) hb13 e15 ?_
    refine S_callV (As := []) (mc := 0) (ms := 0) (pc := 64) dX10_settle_64 miX8_isAlive mvX8_isAlive mlX10_130 rfl s16 rfl rfl rfl (RmOK.of rfl) H ?_
    rintro _ _ ⟨x20, f18, g19, rfl, rfl, H⟩
    show WP _ _ _ _ _ _ _ 67 [some (.ref x), none, some (.ref r2), some (.int a3), some (.int a4)] [.int x20] (sh, f18, g19, fR)
    refine S_if_eq (pc := 67) (tgt := 83) dX10_settle_67 rfl (fun hc21 => ?_) (fun hc21 => ?_)
    · replace H := H.1 hc21
      exact H
    · replace H := H.2 hc21
      refine S_iload_n (pc := 70) dX10_settle_70 rfl rfl ?_
      refine S_aload_n (pc := 71) dX10_settle_71 rfl rfl ?_
      refine S_getR (pc := 72) dX10_settle_72 flX10_11 (sW_0 hs) rfl (rW_0_0 hs) ?_
      refine S_iload (pc := 75) dX10_settle_75 rfl ?_
      obtain ⟨hb22, H⟩ := H
      obtain ⟨r23, e24, s25, p26, H⟩ := H
      refine S_aald24 (pc := 77) dX10_settle_77 (sW_1 hs) hb22 e24 ?_
      refine S_get (pc := 78) (v := .int (f18 r23 3)) dX10_settle_78 flX10_146 s25 rfl ?_
      refine S_iadd (pc := 81) dX10_settle_81 ?_
      refine S_namei (fun w27 e28 => ?_)
      replace H := H w27 e28
      refine S_istore_n (pc := 82) (L' := [some (.ref x), none, some (.ref r2), some (.int w27), some (.int a4)]) dX10_settle_82 rfl (by decide) rfl ?_
      exact H
set_option maxHeartbeats 2000000 in
set_option maxRecDepth 4000 in
theorem VX10_settle_83 {l : Launch} {G : Gx} {d : Nat} {Q : Option Value → Hp → Prop} {sh : Sh} {fR : FRt} {x p : Nat} {f : FI} {g : FL} {r2 : Nat} {a3 : Int32} {a4 : Int32} (hs : StW sh fR x) (hp : fR x 7 = some p) (hP : StPl sh fR p) (hr2 : sh[r2]? = some (8, 8) ∧ 0 < r2)
    (H : LpX10_settle_45 l G d Q sh fR x p f g r2 a3 (a4 + nI 1)) :
    LpX10_settle_83 l G d Q sh fR x p f g r2 a3 a4 := by
  refine S_iinc (pc := 83) (v := nI 1) (L' := [some (.ref x), none, some (.ref r2), some (.int a3), some (.int (a4 + nI 1))]) dX10_settle_83 rfl ic1 rfl ?_
  refine S_goto (pc := 86) (tgt := 45) dX10_settle_86 rfl ?_
  exact H
abbrev LpX10_receive_6 (l : Launch) (G : Gx) (d : Nat) (Q : Option Value → Hp → Prop) (sh : Sh) (fR : FRt) (x p : Nat) (f : FI) (g : FL) (a1 : Int32) (a2 : Int32) (a3 : Int32) : Prop := WP l G (Zq G 0 0 Q) mX10_receive (rmd (d + 4) 0 0) 0 0 6 [some (.ref x), some (.int a1), some (.int a2), some (.int a3), none] [] (sh, f, g, fR)
abbrev LpX10_receive_107 (l : Launch) (G : Gx) (d : Nat) (Q : Option Value → Hp → Prop) (sh : Sh) (fR : FRt) (x p : Nat) (f : FI) (g : FL) (a1 : Int32) (a2 : Int32) (a3 : Int32) : Prop := WP l G (Zq G 0 0 Q) mX10_receive (rmd (d + 4) 0 0) 0 0 107 [some (.ref x), some (.int a1), some (.int a2), some (.int a3), none] [] (sh, f, g, fR)
set_option maxHeartbeats 2000000 in
set_option maxRecDepth 4000 in
theorem VX10_receive {l : Launch} {G : Gx} {d : Nat} {Q : Option Value → Hp → Prop} {sh : Sh} {fR : FRt} {x p : Nat} {f : FI} {g : FL}  (hs : StW sh fR x) (hp : fR x 7 = some p) (hP : StPl sh fR p)
    (H : LpX10_receive_6 l G d Q sh fR x p f g (nI 0) (nI 0) (nI 0)) :
    Cl l G (d + 4) 0 0 mX10_receive [.ref x] (sh, f, g, fR) Q := by
  refine Cl.of (L0 := [some (.ref x), none, none, none, none]) miX10_receive rfl rfl ?_
  refine S_iconst (pc := 0) dX10_receive_0 ic0 ?_
  refine S_istore_n (pc := 1) (L' := [some (.ref x), some (.int (nI 0)), none, none, none]) dX10_receive_1 rfl (by decide) rfl ?_
  refine S_iconst (pc := 2) dX10_receive_2 ic0 ?_
  refine S_istore_n (pc := 3) (L' := [some (.ref x), some (.int (nI 0)), some (.int (nI 0)), none, none]) dX10_receive_3 rfl (by decide) rfl ?_
  refine S_iconst (pc := 4) dX10_receive_4 ic0 ?_
  refine S_istore_n (pc := 5) (L' := [some (.ref x), some (.int (nI 0)), some (.int (nI 0)), some (.int (nI 0)), none]) dX10_receive_5 rfl (by decide) rfl ?_
  exact H
set_option maxHeartbeats 2000000 in
set_option maxRecDepth 4000 in
theorem VX10_receive_6 {l : Launch} {G : Gx} {d : Nat} {Q : Option Value → Hp → Prop} {sh : Sh} {fR : FRt} {x p : Nat} {f : FI} {g : FL} {a1 : Int32} {a2 : Int32} {a3 : Int32} (hs : StW sh fR x) (hp : fR x 7 = some p) (hP : StPl sh fR p)
    (H : (((f (x + 5) 8) ≤ a3 → Cl l G (d + 3) 0 0 mX7_missing [.ref (x + 2)] (sh, f, g, fR) (qi sh fR fun x4 f2 g3 => Cl l G (d + 3) 0 0 mX10_amountToRead [.ref x, .int x4] (sh, f2, g3, fR) (qi sh fR fun x7 f5 g6 => ((a1 ≤ 0 → ((x7 ≤ 0 → ((a2 ≤ 0 → Q none (sh, (up2 f5 (x + 2) 5 ((f5 (x + 2) 5) + x7)), g6, fR)) ∧ (¬ a2 ≤ 0 → Cl l G (d + 3) 0 0 mX10_buryWrong [.ref x] (sh, (up2 f5 (x + 2) 5 ((f5 (x + 2) 5) + x7)), g6, fR) (qv sh fR fun f11 g12 => Q none (sh, f11, g12, fR))))) ∧ (¬ x7 ≤ 0 → Cl l G (d + 3) 0 0 mX10_answerOnFirst [.ref x, .int x4] (sh, (up2 f5 (x + 2) 5 ((f5 (x + 2) 5) + x7)), g6, fR) (qv sh fR fun f13 g14 => ((a2 ≤ 0 → Q none (sh, f13, g14, fR)) ∧ (¬ a2 ≤ 0 → Cl l G (d + 3) 0 0 mX10_buryWrong [.ref x] (sh, f13, g14, fR) (qv sh fR fun f16 g17 => Q none (sh, f16, g17, fR)))))))) ∧ (¬ a1 ≤ 0 → Cl l G (d + 3) 0 0 mX10_answerRight [.ref x, .int x4] (sh, (up2 f5 (x + 2) 5 ((f5 (x + 2) 5) + x7)), g6, fR) (qv sh fR fun f18 g19 => ((a2 ≤ 0 → Q none (sh, f18, g19, fR)) ∧ (¬ a2 ≤ 0 → Cl l G (d + 3) 0 0 mX10_buryWrong [.ref x] (sh, f18, g19, fR) (qv sh fR fun f21 g22 => Q none (sh, f21, g22, fR)))))))))) ∧ (¬ (f (x + 5) 8) ≤ a3 → inb a3 512 ∧ ((¬ (f (x + 11) a3.toNatClampNeg) = (f x 8) → LpX10_receive_107 l G d Q sh fR x p f g a1 a2 a3) ∧ ((f (x + 11) a3.toNatClampNeg) = (f x 8) → inb a3 512 ∧ inb a3 512 ∧ inb a3 512 ∧ Cl l G (d + 3) 0 0 mX7_arrive [.ref (x + 2), .int (f (x + 8) a3.toNatClampNeg), .int (f (x + 9) a3.toNatClampNeg), .int (f (x + 12) a3.toNatClampNeg)] (sh, f, g, fR) (qv sh fR fun f28 g29 => inb a3 512 ∧ (((f28 (x + 12) a3.toNatClampNeg) = 0 → (∀ w32 : Int32, w32 = a1 + (nI 1) → inb a3 512 ∧ (((f28 (x + 12) a3.toNatClampNeg) = 0 → (∀ w36 : Int32, w36 = a2 + (nI 0) → LpX10_receive_107 l G d Q sh fR x p f28 g29 w32 w36 a3)) ∧ (¬ (f28 (x + 12) a3.toNatClampNeg) = 0 → (∀ w38 : Int32, w38 = a2 + (nI 1) → LpX10_receive_107 l G d Q sh fR x p f28 g29 w32 w38 a3))))) ∧ (¬ (f28 (x + 12) a3.toNatClampNeg) = 0 → (∀ w40 : Int32, w40 = a1 + (nI 0) → inb a3 512 ∧ (((f28 (x + 12) a3.toNatClampNeg) = 0 → (∀ w44 : Int32, w44 = a2 + (nI 0) → LpX10_receive_107 l G d Q sh fR x p f28 g29 w40 w44 a3)) ∧ (¬ (f28 (x + 12) a3.toNatClampNeg) = 0 → (∀ w46 : Int32, w46 = a2 + (nI 1) → LpX10_receive_107 l G d Q sh fR x p f28 g29 w40 w46 a3)))))))))))) :
    LpX10_receive_6 l G d Q sh fR x p f g a1 a2 a3 := by
  refine S_iload_n (pc := 6) dX10_receive_6 rfl rfl ?_
  refine S_aload_n (pc := 7) dX10_receive_7 rfl rfl ?_
  refine S_getR (pc := 8) dX10_receive_8 flX10_27 (sW_0 hs) rfl (rW_0_2 hs) ?_
  refine S_get (pc := 11) (v := .int (f (x + 5) 8)) dX10_receive_11 flX10_88 (sW_5 hs) rfl ?_
  refine S_icmp_ge (pc := 14) (tgt := 113) dX10_receive_14 rfl (fun hc1 => ?_) (fun hc1 => ?_)
  · replace H := H.1 hc1
    refine S_aload_n (pc := 113) dX10_receive_113 rfl rfl ?_
    refine S_getR (pc := 114) dX10_receive_114 flX10_20 (sW_0 hs) rfl (rW_0_1 hs) ?_
    refine S_callV (As := []) (mc := 0) (ms := 0) (pc := 117) dX10_receive_117 miX7_missing mvX7_missing mlX10_274 rfl (sW_2 hs) rfl rfl rfl (RmOK.of rfl) H ?_
    rintro _ _ ⟨x4, f2, g3, rfl, rfl, H⟩
    show WP _ _ _ _ _ _ _ 120 [some (.ref x), some (.int a1), some (.int a2), some (.int a3), none] [.int x4] (sh, f2, g3, fR)
    refine S_istore_n (pc := 120) (L' := [some (.ref x), some (.int a1), some (.int a2), some (.int x4), none]) dX10_receive_120 rfl (by decide) rfl ?_
    refine S_aload_n (pc := 121) dX10_receive_121 rfl rfl ?_
    refine S_iload_n (pc := 122) dX10_receive_122 rfl rfl ?_
    refine S_callV (As := [.int x4]) (mc := 0) (ms := 0) (pc := 123) dX10_receive_123 miX10_amountToRead mvX10_amountToRead mlX10_277 rfl (sW_0 hs) rfl rfl rfl (RmOK.of rfl) H ?_
    rintro _ _ ⟨x7, f5, g6, rfl, rfl, H⟩
    show WP _ _ _ _ _ _ _ 126 [some (.ref x), some (.int a1), some (.int a2), some (.int x4), none] [.int x7] (sh, f5, g6, fR)
    refine S_istore (pc := 126) (L' := [some (.ref x), some (.int a1), some (.int a2), some (.int x4), some (.int x7)]) dX10_receive_126 (by decide) rfl ?_
    refine S_aload_n (pc := 128) dX10_receive_128 rfl rfl ?_
    refine S_getR (pc := 129) dX10_receive_129 flX10_20 (sW_0 hs) rfl (rW_0_1 hs) ?_
    refine S_dup (pc := 132) dX10_receive_132 rfl ?_
    refine S_get (pc := 133) (v := .int (f5 (x + 2) 5)) dX10_receive_133 flX10_281 (sW_2 hs) rfl ?_
    refine S_iload (pc := 136) dX10_receive_136 rfl ?_
    refine S_iadd (pc := 138) dX10_receive_138 ?_
    refine S_putI (pc := 139) dX10_receive_139 flX10_281 (sW_2 hs) (Nat.succ_pos _) (nf_7_5) rfl rfl (fun _ => rfl) ?_
    refine S_iload_n (pc := 142) dX10_receive_142 rfl rfl ?_
    refine S_if_le (pc := 143) (tgt := 154) dX10_receive_143 rfl (fun hc8 => ?_) (fun hc8 => ?_)
    · replace H := H.1 hc8
      refine S_iload (pc := 154) dX10_receive_154 rfl ?_
      refine S_if_le (pc := 156) (tgt := 164) dX10_receive_156 rfl (fun hc9 => ?_) (fun hc9 => ?_)
      · replace H := H.1 hc9
        refine S_iload_n (pc := 164) dX10_receive_164 rfl rfl ?_
        refine S_if_le (pc := 165) (tgt := 172) dX10_receive_165 rfl (fun hc10 => ?_) (fun hc10 => ?_)
        · replace H := H.1 hc10
          exact S_vreturn dX10_receive_172 rfl H
        · replace H := H.2 hc10
          refine S_aload_n (pc := 168) dX10_receive_168 rfl rfl ?_
          refine S_callV (As := []) (mc := 0) (ms := 0) (pc := 169) dX10_receive_169 miX10_buryWrong mvX10_buryWrong mlX10_290 rfl (sW_0 hs) rfl rfl rfl (RmOK.of rfl) H ?_
          rintro _ _ ⟨f11, g12, rfl, rfl, H⟩
          show WP _ _ _ _ _ _ _ 172 [some (.ref x), some (.int a1), some (.int a2), some (.int x4), some (.int x7)] [] (sh, f11, g12, fR)
          exact S_vreturn dX10_receive_172 rfl H
      · replace H := H.2 hc9
        refine S_aload_n (pc := 159) dX10_receive_159 rfl rfl ?_
        refine S_iload_n (pc := 160) dX10_receive_160 rfl rfl ?_
        refine S_callV (As := [.int x4]) (mc := 0) (ms := 0) (pc := 161) dX10_receive_161 miX10_answerOnFirst mvX10_answerOnFirst mlX10_287 rfl (sW_0 hs) rfl rfl rfl (RmOK.of rfl) H ?_
        rintro _ _ ⟨f13, g14, rfl, rfl, H⟩
        show WP _ _ _ _ _ _ _ 164 [some (.ref x), some (.int a1), some (.int a2), some (.int x4), some (.int x7)] [] (sh, f13, g14, fR)
        refine S_iload_n (pc := 164) dX10_receive_164 rfl rfl ?_
        refine S_if_le (pc := 165) (tgt := 172) dX10_receive_165 rfl (fun hc15 => ?_) (fun hc15 => ?_)
        · replace H := H.1 hc15
          exact S_vreturn dX10_receive_172 rfl H
        · replace H := H.2 hc15
          refine S_aload_n (pc := 168) dX10_receive_168 rfl rfl ?_
          refine S_callV (As := []) (mc := 0) (ms := 0) (pc := 169) dX10_receive_169 miX10_buryWrong mvX10_buryWrong mlX10_290 rfl (sW_0 hs) rfl rfl rfl (RmOK.of rfl) H ?_
          rintro _ _ ⟨f16, g17, rfl, rfl, H⟩
          show WP _ _ _ _ _ _ _ 172 [some (.ref x), some (.int a1), some (.int a2), some (.int x4), some (.int x7)] [] (sh, f16, g17, fR)
          exact S_vreturn dX10_receive_172 rfl H
    · replace H := H.2 hc8
      refine S_aload_n (pc := 146) dX10_receive_146 rfl rfl ?_
      refine S_iload_n (pc := 147) dX10_receive_147 rfl rfl ?_
      refine S_callV (As := [.int x4]) (mc := 0) (ms := 0) (pc := 148) dX10_receive_148 miX10_answerRight mvX10_answerRight mlX10_284 rfl (sW_0 hs) rfl rfl rfl (RmOK.of rfl) H ?_
      rintro _ _ ⟨f18, g19, rfl, rfl, H⟩
      show WP _ _ _ _ _ _ _ 151 [some (.ref x), some (.int a1), some (.int a2), some (.int x4), some (.int x7)] [] (sh, f18, g19, fR)
      refine S_goto (pc := 151) (tgt := 164) dX10_receive_151 rfl ?_
      refine S_iload_n (pc := 164) dX10_receive_164 rfl rfl ?_
      refine S_if_le (pc := 165) (tgt := 172) dX10_receive_165 rfl (fun hc20 => ?_) (fun hc20 => ?_)
      · replace H := H.1 hc20
        exact S_vreturn dX10_receive_172 rfl H
      · replace H := H.2 hc20
        refine S_aload_n (pc := 168) dX10_receive_168 rfl rfl ?_
        refine S_callV (As := []) (mc := 0) (ms := 0) (pc := 169) dX10_receive_169 miX10_buryWrong mvX10_buryWrong mlX10_290 rfl (sW_0 hs) rfl rfl rfl (RmOK.of rfl) H ?_
        rintro _ _ ⟨f21, g22, rfl, rfl, H⟩
        show WP _ _ _ _ _ _ _ 172 [some (.ref x), some (.int a1), some (.int a2), some (.int x4), some (.int x7)] [] (sh, f21, g22, fR)
        exact S_vreturn dX10_receive_172 rfl H
  · replace H := H.2 hc1
    refine S_aload_n (pc := 17) dX10_receive_17 rfl rfl ?_
    refine S_getR (pc := 18) dX10_receive_18 flX10_27 (sW_0 hs) rfl (rW_0_2 hs) ?_
    refine S_getR (pc := 21) dX10_receive_21 flX10_266 (sW_5 hs) rfl (rW_5_5 hs) ?_
    refine S_iload_n (pc := 24) dX10_receive_24 rfl rfl ?_
    obtain ⟨hb23, H⟩ := H
    refine S_iald (pc := 25) dX10_receive_25 (sW_11 hs) hb23 ?_
    refine S_aload_n (pc := 26) dX10_receive_26 rfl rfl ?_
    refine S_get (pc := 27) (v := .int (f x 8)) dX10_receive_27 flX10_63 (sW_0 hs) rfl ?_
    refine S_icmp_ne (pc := 30) (tgt := 107) dX10_receive_30 rfl (fun hc24 => ?_) (fun hc24 => ?_)
    · replace H := H.1 hc24
      exact H
    · replace H := H.2 hc24
      refine S_aload_n (pc := 33) dX10_receive_33 rfl rfl ?_
      refine S_getR (pc := 34) dX10_receive_34 flX10_20 (sW_0 hs) rfl (rW_0_1 hs) ?_
      refine S_aload_n (pc := 37) dX10_receive_37 rfl rfl ?_
      refine S_getR (pc := 38) dX10_receive_38 flX10_27 (sW_0 hs) rfl (rW_0_2 hs) ?_
      refine S_getR (pc := 41) dX10_receive_41 flX10_193 (sW_5 hs) rfl (rW_5_2 hs) ?_
      refine S_iload_n (pc := 44) dX10_receive_44 rfl rfl ?_
      obtain ⟨hb25, H⟩ := H
      refine S_iald (pc := 45) dX10_receive_45 (sW_8 hs) hb25 ?_
      refine S_aload_n (pc := 46) dX10_receive_46 rfl rfl ?_
      refine S_getR (pc := 47) dX10_receive_47 flX10_27 (sW_0 hs) rfl (rW_0_2 hs) ?_
      refine S_getR (pc := 50) dX10_receive_50 flX10_196 (sW_5 hs) rfl (rW_5_3 hs) ?_
      refine S_iload_n (pc := 53) dX10_receive_53 rfl rfl ?_
      obtain ⟨hb26, H⟩ := H
      refine S_iald (pc := 54) dX10_receive_54 (sW_9 hs) hb26 ?_
      refine S_aload_n (pc := 55) dX10_receive_55 rfl rfl ?_
      refine S_getR (pc := 56) dX10_receive_56 flX10_27 (sW_0 hs) rfl (rW_0_2 hs) ?_
      refine S_getR (pc := 59) dX10_receive_59 flX10_267 (sW_5 hs) rfl (rW_5_6 hs) ?_
      refine S_iload_n (pc := 62) dX10_receive_62 rfl rfl ?_
      obtain ⟨hb27, H⟩ := H
      refine S_zald (pc := 63) dX10_receive_63 (sW_12 hs) hb27 ?_
      refine S_callV (As := [.int (f (x + 8) a3.toNatClampNeg), .int (f (x + 9) a3.toNatClampNeg), .int (f (x + 12) a3.toNatClampNeg)]) (mc := 0) (ms := 0) (pc := 64) dX10_receive_64 miX7_arrive mvX7_arrive mlX10_270 rfl (sW_2 hs) rfl rfl rfl (RmOK.of rfl) H ?_
      rintro _ _ ⟨f28, g29, rfl, rfl, H⟩
      show WP _ _ _ _ _ _ _ 67 [some (.ref x), some (.int a1), some (.int a2), some (.int a3), none] [] (sh, f28, g29, fR)
      refine S_iload_n (pc := 67) dX10_receive_67 rfl rfl ?_
      refine S_aload_n (pc := 68) dX10_receive_68 rfl rfl ?_
      refine S_getR (pc := 69) dX10_receive_69 flX10_27 (sW_0 hs) rfl (rW_0_2 hs) ?_
      refine S_getR (pc := 72) dX10_receive_72 flX10_267 (sW_5 hs) rfl (rW_5_6 hs) ?_
      refine S_iload_n (pc := 75) dX10_receive_75 rfl rfl ?_
      obtain ⟨hb30, H⟩ := H
      refine S_zald (pc := 76) dX10_receive_76 (sW_12 hs) hb30 ?_
      refine S_if_eq (pc := 77) (tgt := 84) dX10_receive_77 rfl (fun hc31 => ?_) (fun hc31 => ?_)
      · replace H := H.1 hc31
        refine S_iconst (pc := 84) dX10_receive_84 ic1 ?_
        refine S_iadd (pc := 85) dX10_receive_85 ?_
        refine S_namei (fun w32 e33 => ?_)
        replace H := H w32 e33
        refine S_istore_n (pc := 86) (L' := [some (.ref x), some (.int w32), some (.int a2), some (.int a3), none]) dX10_receive_86 rfl (by decide) rfl ?_
        refine S_iload_n (pc := 87) dX10_receive_87 rfl rfl ?_
        refine S_aload_n (pc := 88) dX10_receive_88 rfl rfl ?_
        refine S_getR (pc := 89) dX10_receive_89 flX10_27 (sW_0 hs) rfl (rW_0_2 hs) ?_
        refine S_getR (pc := 92) dX10_receive_92 flX10_267 (sW_5 hs) rfl (rW_5_6 hs) ?_
        refine S_iload_n (pc := 95) dX10_receive_95 rfl rfl ?_
        obtain ⟨hb34, H⟩ := H
        refine S_zald (pc := 96) dX10_receive_96 (sW_12 hs) hb34 ?_
        refine S_if_eq (pc := 97) (tgt := 104) dX10_receive_97 rfl (fun hc35 => ?_) (fun hc35 => ?_)
        · replace H := H.1 hc35
          refine S_iconst (pc := 104) dX10_receive_104 ic0 ?_
          refine S_iadd (pc := 105) dX10_receive_105 ?_
          refine S_namei (fun w36 e37 => ?_)
          replace H := H w36 e37
          refine S_istore_n (pc := 106) (L' := [some (.ref x), some (.int w32), some (.int w36), some (.int a3), none]) dX10_receive_106 rfl (by decide) rfl ?_
          exact H
        · replace H := H.2 hc35
          refine S_iconst (pc := 100) dX10_receive_100 ic1 ?_
          refine S_goto (pc := 101) (tgt := 105) dX10_receive_101 rfl ?_
          refine S_iadd (pc := 105) dX10_receive_105 ?_
          refine S_namei (fun w38 e39 => ?_)
          replace H := H w38 e39
          refine S_istore_n (pc := 106) (L' := [some (.ref x), some (.int w32), some (.int w38), some (.int a3), none]) dX10_receive_106 rfl (by decide) rfl ?_
          exact H
      · replace H := H.2 hc31
        refine S_iconst (pc := 80) dX10_receive_80 ic0 ?_
        refine S_goto (pc := 81) (tgt := 85) dX10_receive_81 rfl ?_
        refine S_iadd (pc := 85) dX10_receive_85 ?_
        refine S_namei (fun w40 e41 => ?_)
        replace H := H w40 e41
        refine S_istore_n (pc := 86) (L' := [some (.ref x), some (.int w40), some (.int a2), some (.int a3), none]) dX10_receive_86 rfl (by decide) rfl ?_
        refine S_iload_n (pc := 87) dX10_receive_87 rfl rfl ?_
        refine S_aload_n (pc := 88) dX10_receive_88 rfl rfl ?_
        refine S_getR (pc := 89) dX10_receive_89 flX10_27 (sW_0 hs) rfl (rW_0_2 hs) ?_
        refine S_getR (pc := 92) dX10_receive_92 flX10_267 (sW_5 hs) rfl (rW_5_6 hs) ?_
        refine S_iload_n (pc := 95) dX10_receive_95 rfl rfl ?_
        obtain ⟨hb42, H⟩ := H
        refine S_zald (pc := 96) dX10_receive_96 (sW_12 hs) hb42 ?_
        refine S_if_eq (pc := 97) (tgt := 104) dX10_receive_97 rfl (fun hc43 => ?_) (fun hc43 => ?_)
        · replace H := H.1 hc43
          refine S_iconst (pc := 104) dX10_receive_104 ic0 ?_
          refine S_iadd (pc := 105) dX10_receive_105 ?_
          refine S_namei (fun w44 e45 => ?_)
          replace H := H w44 e45
          refine S_istore_n (pc := 106) (L' := [some (.ref x), some (.int w40), some (.int w44), some (.int a3), none]) dX10_receive_106 rfl (by decide) rfl ?_
          exact H
        · replace H := H.2 hc43
          refine S_iconst (pc := 100) dX10_receive_100 ic1 ?_
          refine S_goto (pc := 101) (tgt := 105) dX10_receive_101 rfl ?_
          refine S_iadd (pc := 105) dX10_receive_105 ?_
          refine S_namei (fun w46 e47 => ?_)
          replace H := H w46 e47
          refine S_istore_n (pc := 106) (L' := [some (.ref x), some (.int w40), some (.int w46), some (.int a3), none]) dX10_receive_106 rfl (by decide) rfl ?_
          exact H
set_option maxHeartbeats 2000000 in
set_option maxRecDepth 4000 in
theorem VX10_receive_107 {l : Launch} {G : Gx} {d : Nat} {Q : Option Value → Hp → Prop} {sh : Sh} {fR : FRt} {x p : Nat} {f : FI} {g : FL} {a1 : Int32} {a2 : Int32} {a3 : Int32} (hs : StW sh fR x) (hp : fR x 7 = some p) (hP : StPl sh fR p)
    (H : LpX10_receive_6 l G d Q sh fR x p f g a1 a2 (a3 + nI 1)) :
    LpX10_receive_107 l G d Q sh fR x p f g a1 a2 a3 := by
  refine S_iinc (pc := 107) (v := nI 1) (L' := [some (.ref x), some (.int a1), some (.int a2), some (.int (a3 + nI 1)), none]) dX10_receive_107 rfl ic1 rfl ?_
  refine S_goto (pc := 110) (tgt := 6) dX10_receive_110 rfl ?_
  exact H
abbrev LpX10_answerRight_2 (l : Launch) (G : Gx) (d : Nat) (Q : Option Value → Hp → Prop) (sh : Sh) (fR : FRt) (x p : Nat) (f : FI) (g : FL) (a1 : Int32) (a2 : Int32) : Prop := WP l G (Zq G 0 0 Q) mX10_answerRight (rmd (d + 2) 0 0) 0 0 2 [some (.ref x), some (.int a1), some (.int a2)] [] (sh, f, g, fR)
abbrev LpX10_answerRight_64 (l : Launch) (G : Gx) (d : Nat) (Q : Option Value → Hp → Prop) (sh : Sh) (fR : FRt) (x p : Nat) (f : FI) (g : FL) (a1 : Int32) (a2 : Int32) : Prop := WP l G (Zq G 0 0 Q) mX10_answerRight (rmd (d + 2) 0 0) 0 0 64 [some (.ref x), some (.int a1), some (.int a2)] [] (sh, f, g, fR)
set_option maxHeartbeats 2000000 in
set_option maxRecDepth 4000 in
theorem VX10_answerRight {l : Launch} {G : Gx} {d : Nat} {Q : Option Value → Hp → Prop} {sh : Sh} {fR : FRt} {x p : Nat} {f : FI} {g : FL} {a1 : Int32} (hs : StW sh fR x) (hp : fR x 7 = some p) (hP : StPl sh fR p)
    (H : LpX10_answerRight_2 l G d Q sh fR x p f g a1 (nI 0)) :
    Cl l G (d + 2) 0 0 mX10_answerRight [.ref x, .int a1] (sh, f, g, fR) Q := by
  refine Cl.of (L0 := [some (.ref x), some (.int a1), none]) miX10_answerRight rfl rfl ?_
  refine S_iconst (pc := 0) dX10_answerRight_0 ic0 ?_
  refine S_istore_n (pc := 1) (L' := [some (.ref x), some (.int a1), some (.int (nI 0))]) dX10_answerRight_1 rfl (by decide) rfl ?_
  exact H
set_option maxHeartbeats 2000000 in
set_option maxRecDepth 4000 in
theorem VX10_answerRight_2 {l : Launch} {G : Gx} {d : Nat} {Q : Option Value → Hp → Prop} {sh : Sh} {fR : FRt} {x p : Nat} {f : FI} {g : FL} {a1 : Int32} {a2 : Int32} (hs : StW sh fR x) (hp : fR x 7 = some p) (hP : StPl sh fR p)
    (H : (((f (x + 5) 8) ≤ a2 → Q none (sh, f, g, fR)) ∧ (¬ (f (x + 5) 8) ≤ a2 → inb a2 512 ∧ ((¬ (f (x + 11) a2.toNatClampNeg) = (f x 8) → LpX10_answerRight_64 l G d Q sh fR x p f g a1 a2) ∧ ((f (x + 11) a2.toNatClampNeg) = (f x 8) → inb a2 512 ∧ ((¬ (f (x + 12) a2.toNatClampNeg) = 0 → LpX10_answerRight_64 l G d Q sh fR x p f g a1 a2) ∧ ((f (x + 12) a2.toNatClampNeg) = 0 → inb a2 512 ∧ inb a2 512 ∧ Cl l G (d + 1) 0 0 mX10_answer [.ref x, .int (f (x + 6) a2.toNatClampNeg), .int (f (x + 7) a2.toNatClampNeg), .int a1] (sh, f, g, fR) (qv sh fR fun f8 g9 => LpX10_answerRight_64 l G d Q sh fR x p f8 g9 a1 a2)))))))) :
    LpX10_answerRight_2 l G d Q sh fR x p f g a1 a2 := by
  refine S_iload_n (pc := 2) dX10_answerRight_2 rfl rfl ?_
  refine S_aload_n (pc := 3) dX10_answerRight_3 rfl rfl ?_
  refine S_getR (pc := 4) dX10_answerRight_4 flX10_27 (sW_0 hs) rfl (rW_0_2 hs) ?_
  refine S_get (pc := 7) (v := .int (f (x + 5) 8)) dX10_answerRight_7 flX10_88 (sW_5 hs) rfl ?_
  refine S_icmp_ge (pc := 10) (tgt := 70) dX10_answerRight_10 rfl (fun hc1 => ?_) (fun hc1 => ?_)
  · replace H := H.1 hc1
    exact S_vreturn dX10_answerRight_70 rfl H
  · replace H := H.2 hc1
    refine S_aload_n (pc := 13) dX10_answerRight_13 rfl rfl ?_
    refine S_getR (pc := 14) dX10_answerRight_14 flX10_27 (sW_0 hs) rfl (rW_0_2 hs) ?_
    refine S_getR (pc := 17) dX10_answerRight_17 flX10_266 (sW_5 hs) rfl (rW_5_5 hs) ?_
    refine S_iload_n (pc := 20) dX10_answerRight_20 rfl rfl ?_
    obtain ⟨hb2, H⟩ := H
    refine S_iald (pc := 21) dX10_answerRight_21 (sW_11 hs) hb2 ?_
    refine S_aload_n (pc := 22) dX10_answerRight_22 rfl rfl ?_
    refine S_get (pc := 23) (v := .int (f x 8)) dX10_answerRight_23 flX10_63 (sW_0 hs) rfl ?_
    refine S_icmp_ne (pc := 26) (tgt := 64) dX10_answerRight_26 rfl (fun hc3 => ?_) (fun hc3 => ?_)
    · replace H := H.1 hc3
      exact H
    · replace H := H.2 hc3
      refine S_aload_n (pc := 29) dX10_answerRight_29 rfl rfl ?_
      refine S_getR (pc := 30) dX10_answerRight_30 flX10_27 (sW_0 hs) rfl (rW_0_2 hs) ?_
      refine S_getR (pc := 33) dX10_answerRight_33 flX10_267 (sW_5 hs) rfl (rW_5_6 hs) ?_
      refine S_iload_n (pc := 36) dX10_answerRight_36 rfl rfl ?_
      obtain ⟨hb4, H⟩ := H
      refine S_zald (pc := 37) dX10_answerRight_37 (sW_12 hs) hb4 ?_
      refine S_if_ne (pc := 38) (tgt := 64) dX10_answerRight_38 rfl (fun hc5 => ?_) (fun hc5 => ?_)
      · replace H := H.1 hc5
        exact H
      · replace H := H.2 hc5
        refine S_aload_n (pc := 41) dX10_answerRight_41 rfl rfl ?_
        refine S_aload_n (pc := 42) dX10_answerRight_42 rfl rfl ?_
        refine S_getR (pc := 43) dX10_answerRight_43 flX10_27 (sW_0 hs) rfl (rW_0_2 hs) ?_
        refine S_getR (pc := 46) dX10_answerRight_46 flX10_187 (sW_5 hs) rfl (rW_5_0 hs) ?_
        refine S_iload_n (pc := 49) dX10_answerRight_49 rfl rfl ?_
        obtain ⟨hb6, H⟩ := H
        refine S_iald (pc := 50) dX10_answerRight_50 (sW_6 hs) hb6 ?_
        refine S_aload_n (pc := 51) dX10_answerRight_51 rfl rfl ?_
        refine S_getR (pc := 52) dX10_answerRight_52 flX10_27 (sW_0 hs) rfl (rW_0_2 hs) ?_
        refine S_getR (pc := 55) dX10_answerRight_55 flX10_293 (sW_5 hs) rfl (rW_5_1 hs) ?_
        refine S_iload_n (pc := 58) dX10_answerRight_58 rfl rfl ?_
        obtain ⟨hb7, H⟩ := H
        refine S_iald (pc := 59) dX10_answerRight_59 (sW_7 hs) hb7 ?_
        refine S_iload_n (pc := 60) dX10_answerRight_60 rfl rfl ?_
        refine S_callV (As := [.int (f (x + 6) a2.toNatClampNeg), .int (f (x + 7) a2.toNatClampNeg), .int a1]) (mc := 0) (ms := 0) (pc := 61) dX10_answerRight_61 miX10_answer mvX10_answer mlX10_294 rfl (sW_0 hs) rfl rfl rfl (RmOK.of rfl) H ?_
        rintro _ _ ⟨f8, g9, rfl, rfl, H⟩
        show WP _ _ _ _ _ _ _ 64 [some (.ref x), some (.int a1), some (.int a2)] [] (sh, f8, g9, fR)
        exact H
set_option maxHeartbeats 2000000 in
set_option maxRecDepth 4000 in
theorem VX10_answerRight_64 {l : Launch} {G : Gx} {d : Nat} {Q : Option Value → Hp → Prop} {sh : Sh} {fR : FRt} {x p : Nat} {f : FI} {g : FL} {a1 : Int32} {a2 : Int32} (hs : StW sh fR x) (hp : fR x 7 = some p) (hP : StPl sh fR p)
    (H : LpX10_answerRight_2 l G d Q sh fR x p f g a1 (a2 + nI 1)) :
    LpX10_answerRight_64 l G d Q sh fR x p f g a1 a2 := by
  refine S_iinc (pc := 64) (v := nI 1) (L' := [some (.ref x), some (.int a1), some (.int (a2 + nI 1))]) dX10_answerRight_64 rfl ic1 rfl ?_
  refine S_goto (pc := 67) (tgt := 2) dX10_answerRight_67 rfl ?_
  exact H
abbrev LpX10_buryWrong_2 (l : Launch) (G : Gx) (d : Nat) (Q : Option Value → Hp → Prop) (sh : Sh) (fR : FRt) (x p : Nat) (f : FI) (g : FL) (a1 : Int32) : Prop := WP l G (Zq G 0 0 Q) mX10_buryWrong (rmd (d + 3) 0 0) 0 0 2 [some (.ref x), some (.int a1)] [] (sh, f, g, fR)
abbrev LpX10_buryWrong_54 (l : Launch) (G : Gx) (d : Nat) (Q : Option Value → Hp → Prop) (sh : Sh) (fR : FRt) (x p : Nat) (f : FI) (g : FL) (a1 : Int32) : Prop := WP l G (Zq G 0 0 Q) mX10_buryWrong (rmd (d + 3) 0 0) 0 0 54 [some (.ref x), some (.int a1)] [] (sh, f, g, fR)
set_option maxHeartbeats 2000000 in
set_option maxRecDepth 4000 in
theorem VX10_buryWrong {l : Launch} {G : Gx} {d : Nat} {Q : Option Value → Hp → Prop} {sh : Sh} {fR : FRt} {x p : Nat} {f : FI} {g : FL}  (hs : StW sh fR x) (hp : fR x 7 = some p) (hP : StPl sh fR p)
    (H : LpX10_buryWrong_2 l G d Q sh fR x p f g (nI 0)) :
    Cl l G (d + 3) 0 0 mX10_buryWrong [.ref x] (sh, f, g, fR) Q := by
  refine Cl.of (L0 := [some (.ref x), none]) miX10_buryWrong rfl rfl ?_
  refine S_iconst (pc := 0) dX10_buryWrong_0 ic0 ?_
  refine S_istore_n (pc := 1) (L' := [some (.ref x), some (.int (nI 0))]) dX10_buryWrong_1 rfl (by decide) rfl ?_
  exact H
set_option maxHeartbeats 2000000 in
set_option maxRecDepth 4000 in
theorem VX10_buryWrong_2 {l : Launch} {G : Gx} {d : Nat} {Q : Option Value → Hp → Prop} {sh : Sh} {fR : FRt} {x p : Nat} {f : FI} {g : FL} {a1 : Int32} (hs : StW sh fR x) (hp : fR x 7 = some p) (hP : StPl sh fR p)
    (H : (((f (x + 5) 8) ≤ a1 → Q none (sh, f, g, fR)) ∧ (¬ (f (x + 5) 8) ≤ a1 → inb a1 512 ∧ ((¬ (f (x + 11) a1.toNatClampNeg) = (f x 8) → LpX10_buryWrong_54 l G d Q sh fR x p f g a1) ∧ ((f (x + 11) a1.toNatClampNeg) = (f x 8) → inb a1 512 ∧ (((f (x + 12) a1.toNatClampNeg) = 0 → LpX10_buryWrong_54 l G d Q sh fR x p f g a1) ∧ (¬ (f (x + 12) a1.toNatClampNeg) = 0 → inb a1 512 ∧ Cl l G (d + 2) 0 0 mX10_bury [.ref x, .int (f (x + 6) a1.toNatClampNeg)] (sh, f, g, fR) (qv sh fR fun f7 g8 => LpX10_buryWrong_54 l G d Q sh fR x p f7 g8 a1)))))))) :
    LpX10_buryWrong_2 l G d Q sh fR x p f g a1 := by
  refine S_iload_n (pc := 2) dX10_buryWrong_2 rfl rfl ?_
  refine S_aload_n (pc := 3) dX10_buryWrong_3 rfl rfl ?_
  refine S_getR (pc := 4) dX10_buryWrong_4 flX10_27 (sW_0 hs) rfl (rW_0_2 hs) ?_
  refine S_get (pc := 7) (v := .int (f (x + 5) 8)) dX10_buryWrong_7 flX10_88 (sW_5 hs) rfl ?_
  refine S_icmp_ge (pc := 10) (tgt := 60) dX10_buryWrong_10 rfl (fun hc1 => ?_) (fun hc1 => ?_)
  · replace H := H.1 hc1
    exact S_vreturn dX10_buryWrong_60 rfl H
  · replace H := H.2 hc1
    refine S_aload_n (pc := 13) dX10_buryWrong_13 rfl rfl ?_
    refine S_getR (pc := 14) dX10_buryWrong_14 flX10_27 (sW_0 hs) rfl (rW_0_2 hs) ?_
    refine S_getR (pc := 17) dX10_buryWrong_17 flX10_266 (sW_5 hs) rfl (rW_5_5 hs) ?_
    refine S_iload_n (pc := 20) dX10_buryWrong_20 rfl rfl ?_
    obtain ⟨hb2, H⟩ := H
    refine S_iald (pc := 21) dX10_buryWrong_21 (sW_11 hs) hb2 ?_
    refine S_aload_n (pc := 22) dX10_buryWrong_22 rfl rfl ?_
    refine S_get (pc := 23) (v := .int (f x 8)) dX10_buryWrong_23 flX10_63 (sW_0 hs) rfl ?_
    refine S_icmp_ne (pc := 26) (tgt := 54) dX10_buryWrong_26 rfl (fun hc3 => ?_) (fun hc3 => ?_)
    · replace H := H.1 hc3
      exact H
    · replace H := H.2 hc3
      refine S_aload_n (pc := 29) dX10_buryWrong_29 rfl rfl ?_
      refine S_getR (pc := 30) dX10_buryWrong_30 flX10_27 (sW_0 hs) rfl (rW_0_2 hs) ?_
      refine S_getR (pc := 33) dX10_buryWrong_33 flX10_267 (sW_5 hs) rfl (rW_5_6 hs) ?_
      refine S_iload_n (pc := 36) dX10_buryWrong_36 rfl rfl ?_
      obtain ⟨hb4, H⟩ := H
      refine S_zald (pc := 37) dX10_buryWrong_37 (sW_12 hs) hb4 ?_
      refine S_if_eq (pc := 38) (tgt := 54) dX10_buryWrong_38 rfl (fun hc5 => ?_) (fun hc5 => ?_)
      · replace H := H.1 hc5
        exact H
      · replace H := H.2 hc5
        refine S_aload_n (pc := 41) dX10_buryWrong_41 rfl rfl ?_
        refine S_aload_n (pc := 42) dX10_buryWrong_42 rfl rfl ?_
        refine S_getR (pc := 43) dX10_buryWrong_43 flX10_27 (sW_0 hs) rfl (rW_0_2 hs) ?_
        refine S_getR (pc := 46) dX10_buryWrong_46 flX10_187 (sW_5 hs) rfl (rW_5_0 hs) ?_
        refine S_iload_n (pc := 49) dX10_buryWrong_49 rfl rfl ?_
        obtain ⟨hb6, H⟩ := H
        refine S_iald (pc := 50) dX10_buryWrong_50 (sW_6 hs) hb6 ?_
        refine S_callV (As := [.int (f (x + 6) a1.toNatClampNeg)]) (mc := 0) (ms := 0) (pc := 51) dX10_buryWrong_51 miX10_bury mvX10_bury mlX10_297 rfl (sW_0 hs) rfl rfl rfl (RmOK.of rfl) H ?_
        rintro _ _ ⟨f7, g8, rfl, rfl, H⟩
        show WP _ _ _ _ _ _ _ 54 [some (.ref x), some (.int a1)] [] (sh, f7, g8, fR)
        exact H
set_option maxHeartbeats 2000000 in
set_option maxRecDepth 4000 in
theorem VX10_buryWrong_54 {l : Launch} {G : Gx} {d : Nat} {Q : Option Value → Hp → Prop} {sh : Sh} {fR : FRt} {x p : Nat} {f : FI} {g : FL} {a1 : Int32} (hs : StW sh fR x) (hp : fR x 7 = some p) (hP : StPl sh fR p)
    (H : LpX10_buryWrong_2 l G d Q sh fR x p f g (a1 + nI 1)) :
    LpX10_buryWrong_54 l G d Q sh fR x p f g a1 := by
  refine S_iinc (pc := 54) (v := nI 1) (L' := [some (.ref x), some (.int (a1 + nI 1))]) dX10_buryWrong_54 rfl ic1 rfl ?_
  refine S_goto (pc := 57) (tgt := 2) dX10_buryWrong_57 rfl ?_
  exact H
set_option maxHeartbeats 2000000 in
set_option maxRecDepth 4000 in
theorem VX10_amountToRead {l : Launch} {G : Gx} {d : Nat} {Q : Option Value → Hp → Prop} {sh : Sh} {fR : FRt} {x p : Nat} {f : FI} {g : FL} {a1 : Int32} (hs : StW sh fR x) (hp : fR x 7 = some p) (hP : StPl sh fR p)
    (H : (∀ w1 : Int32, w1 = a1 - (f (x + 2) 5) → Cl l G (d + 2) 0 0 mX3_isTold [.ref (p + 11)] (sh, f, g, fR) (qi sh fR fun x5 f3 g4 => ((¬ x5 = 0 → Cl l G (d + 2) 0 0 mX3_valueBy [.ref (p + 11), .ref (x + 27)] (sh, (up2 (up2 (up2 f3 (x + 27) 0 (f3 x 8)) (x + 27) 8 w1) (x + 27) 9 ((f3 (x + 2) 4) - a1)), g4, fR) (qi sh fR fun x9 f7 g8 => Cl l G (d + 2) 0 0 mJ_min [.int w1, .int x9] (sh, f7, g8, fR) (qi sh fR fun x12 f10 g11 => Cl l G (d + 2) 0 0 mJ_max [.int (nI 0), .int x12] (sh, f10, g11, fR) (qi sh fR fun x15 f13 g14 => Q (some (.int x15)) (sh, f13, g14, fR))))) ∧ (x5 = 0 → Q (some (.int w1)) (sh, f3, g4, fR)))))) :
    Cl l G (d + 3) 0 0 mX10_amountToRead [.ref x, .int a1] (sh, f, g, fR) Q := by
  refine Cl.of (L0 := [some (.ref x), some (.int a1), none]) miX10_amountToRead rfl rfl ?_
  refine S_iload_n (pc := 0) dX10_amountToRead_0 rfl rfl ?_
  refine S_aload_n (pc := 1) dX10_amountToRead_1 rfl rfl ?_
  refine S_getR (pc := 2) dX10_amountToRead_2 flX10_20 (sW_0 hs) rfl (rW_0_1 hs) ?_
  refine S_get (pc := 5) (v := .int (f (x + 2) 5)) dX10_amountToRead_5 flX10_281 (sW_2 hs) rfl ?_
  refine S_isub (pc := 8) dX10_amountToRead_8 ?_
  refine S_namei (fun w1 e2 => ?_)
  replace H := H w1 e2
  refine S_istore_n (pc := 9) (L' := [some (.ref x), some (.int a1), some (.int w1)]) dX10_amountToRead_9 rfl (by decide) rfl ?_
  refine S_aload_n (pc := 10) dX10_amountToRead_10 rfl rfl ?_
  refine S_getR (pc := 11) dX10_amountToRead_11 flX10_58 (sW_0 hs) rfl hp ?_
  refine S_getR (pc := 14) dX10_amountToRead_14 flX10_300 (sL_0 hP) rfl (rL_0_13 hP) ?_
  refine S_callV (As := []) (mc := 0) (ms := 0) (pc := 17) dX10_amountToRead_17 miX3_isTold mvX3_isTold mlX10_143 rfl (sL_11 hP) rfl rfl rfl (RmOK.of rfl) H ?_
  rintro _ _ ⟨x5, f3, g4, rfl, rfl, H⟩
  show WP _ _ _ _ _ _ _ 20 [some (.ref x), some (.int a1), some (.int w1)] [.int x5] (sh, f3, g4, fR)
  refine S_if_ne (pc := 20) (tgt := 25) dX10_amountToRead_20 rfl (fun hc6 => ?_) (fun hc6 => ?_)
  · replace H := H.1 hc6
    refine S_aload_n (pc := 25) dX10_amountToRead_25 rfl rfl ?_
    refine S_getR (pc := 26) dX10_amountToRead_26 flX10_54 (sW_0 hs) rfl (rW_0_6 hs) ?_
    refine S_iconst (pc := 29) dX10_amountToRead_29 ic0 ?_
    refine S_aload_n (pc := 30) dX10_amountToRead_30 rfl rfl ?_
    refine S_get (pc := 31) (v := .int (f3 x 8)) dX10_amountToRead_31 flX10_63 (sW_0 hs) rfl ?_
    refine S_iast (pc := 34) dX10_amountToRead_34 (sW_27 hs) (Nat.succ_pos _) (vp_in_nI (by decide) (by decide)) ?_
    show WP _ _ _ _ _ _ _ 35 _ _ (sh, (up2 f3 (x + 27) 0 (f3 x 8)), g4, fR)
    refine S_aload_n (pc := 35) dX10_amountToRead_35 rfl rfl ?_
    refine S_getR (pc := 36) dX10_amountToRead_36 flX10_54 (sW_0 hs) rfl (rW_0_6 hs) ?_
    refine S_bipush (pc := 39) dX10_amountToRead_39 bp8 ?_
    refine S_iload_n (pc := 41) dX10_amountToRead_41 rfl rfl ?_
    refine S_iast (pc := 42) dX10_amountToRead_42 (sW_27 hs) (Nat.succ_pos _) (vp_in_nI (by decide) (by decide)) ?_
    show WP _ _ _ _ _ _ _ 43 _ _ (sh, (up2 (up2 f3 (x + 27) 0 (f3 x 8)) (x + 27) 8 w1), g4, fR)
    refine S_aload_n (pc := 43) dX10_amountToRead_43 rfl rfl ?_
    refine S_getR (pc := 44) dX10_amountToRead_44 flX10_54 (sW_0 hs) rfl (rW_0_6 hs) ?_
    refine S_bipush (pc := 47) dX10_amountToRead_47 bp9 ?_
    refine S_aload_n (pc := 49) dX10_amountToRead_49 rfl rfl ?_
    refine S_getR (pc := 50) dX10_amountToRead_50 flX10_20 (sW_0 hs) rfl (rW_0_1 hs) ?_
    refine S_get (pc := 53) (v := .int ((up2 (up2 f3 (x + 27) 0 (f3 x 8)) (x + 27) 8 w1) (x + 2) 4)) dX10_amountToRead_53 flX10_303 (sW_2 hs) rfl ?_
    refine S_eqi (x := f3 (x + 2) 4) ((up2_r (by omega)).trans ((up2_r (by omega)).trans rfl)) ?_
    refine S_iload_n (pc := 56) dX10_amountToRead_56 rfl rfl ?_
    refine S_isub (pc := 57) dX10_amountToRead_57 ?_
    refine S_iast (pc := 58) dX10_amountToRead_58 (sW_27 hs) (Nat.succ_pos _) (vp_in_nI (by decide) (by decide)) ?_
    show WP _ _ _ _ _ _ _ 59 _ _ (sh, (up2 (up2 (up2 f3 (x + 27) 0 (f3 x 8)) (x + 27) 8 w1) (x + 27) 9 ((f3 (x + 2) 4) - a1)), g4, fR)
    refine S_iconst (pc := 59) dX10_amountToRead_59 ic0 ?_
    refine S_iload_n (pc := 60) dX10_amountToRead_60 rfl rfl ?_
    refine S_aload_n (pc := 61) dX10_amountToRead_61 rfl rfl ?_
    refine S_getR (pc := 62) dX10_amountToRead_62 flX10_58 (sW_0 hs) rfl hp ?_
    refine S_getR (pc := 65) dX10_amountToRead_65 flX10_300 (sL_0 hP) rfl (rL_0_13 hP) ?_
    refine S_aload_n (pc := 68) dX10_amountToRead_68 rfl rfl ?_
    refine S_getR (pc := 69) dX10_amountToRead_69 flX10_54 (sW_0 hs) rfl (rW_0_6 hs) ?_
    refine S_callV (As := [.ref (x + 27)]) (mc := 0) (ms := 0) (pc := 72) dX10_amountToRead_72 miX3_valueBy mvX3_valueBy mlX10_152 rfl (sL_11 hP) rfl rfl rfl (RmOK.of rfl) H ?_
    rintro _ _ ⟨x9, f7, g8, rfl, rfl, H⟩
    show WP _ _ _ _ _ _ _ 75 [some (.ref x), some (.int a1), some (.int w1)] [.int x9, .int w1, .int (nI 0)] (sh, f7, g8, fR)
    refine S_callSJ (As := [.int w1, .int x9]) (mc := 0) (ms := 0) (pc := 75) dX10_amountToRead_75 miJ_min mvJ_min mlX10_156 rfl rfl (RmOK.of rfl) H ?_
    rintro _ _ ⟨x12, f10, g11, rfl, rfl, H⟩
    show WP _ _ _ _ _ _ _ 78 [some (.ref x), some (.int a1), some (.int w1)] [.int x12, .int (nI 0)] (sh, f10, g11, fR)
    refine S_callSJ (As := [.int (nI 0), .int x12]) (mc := 0) (ms := 0) (pc := 78) dX10_amountToRead_78 miJ_max mvJ_max mlX10_162 rfl rfl (RmOK.of rfl) H ?_
    rintro _ _ ⟨x15, f13, g14, rfl, rfl, H⟩
    show WP _ _ _ _ _ _ _ 81 [some (.ref x), some (.int a1), some (.int w1)] [.int x15] (sh, f13, g14, fR)
    exact S_ireturn dX10_amountToRead_81 rfl H
  · replace H := H.2 hc6
    refine S_iload_n (pc := 23) dX10_amountToRead_23 rfl rfl ?_
    exact S_ireturn dX10_amountToRead_24 rfl H
set_option maxHeartbeats 2000000 in
set_option maxRecDepth 4000 in
theorem VX10_answer {l : Launch} {G : Gx} {d : Nat} {Q : Option Value → Hp → Prop} {sh : Sh} {fR : FRt} {x p : Nat} {f : FI} {g : FL} {a1 : Int32} {a2 : Int32} {a3 : Int32} (hs : StW sh fR x) (hp : fR x 7 = some p) (hP : StPl sh fR p)
    (H : (∀ w1 : Int32, w1 = (f (x + 2) 5) + (f (x + 2) 3) → inb a1 4 ∧ (∃ r4, fR (x + 1) a1.toNatClampNeg = some r4 ∧ sh[r4]? = some (8, 8) ∧ 0 < r4 ∧ Cl l G d 0 0 mX0_add [.ref (x + 14), .int a1, .int a2, .int a3, .int w1, .int ((f x 8) + (f r4 0))] (sh, f, g, fR) (qv sh fR fun f8 g9 => Q none (sh, f8, g9, fR))))) :
    Cl l G (d + 1) 0 0 mX10_answer [.ref x, .int a1, .int a2, .int a3] (sh, f, g, fR) Q := by
  refine Cl.of (L0 := [some (.ref x), some (.int a1), some (.int a2), some (.int a3), none]) miX10_answer rfl rfl ?_
  refine S_aload_n (pc := 0) dX10_answer_0 rfl rfl ?_
  refine S_getR (pc := 1) dX10_answer_1 flX10_20 (sW_0 hs) rfl (rW_0_1 hs) ?_
  refine S_get (pc := 4) (v := .int (f (x + 2) 5)) dX10_answer_4 flX10_281 (sW_2 hs) rfl ?_
  refine S_aload_n (pc := 7) dX10_answer_7 rfl rfl ?_
  refine S_getR (pc := 8) dX10_answer_8 flX10_20 (sW_0 hs) rfl (rW_0_1 hs) ?_
  refine S_get (pc := 11) (v := .int (f (x + 2) 3)) dX10_answer_11 flX10_306 (sW_2 hs) rfl ?_
  refine S_iadd (pc := 14) dX10_answer_14 ?_
  refine S_namei (fun w1 e2 => ?_)
  replace H := H w1 e2
  refine S_istore (pc := 15) (L' := [some (.ref x), some (.int a1), some (.int a2), some (.int a3), some (.int w1)]) dX10_answer_15 (by decide) rfl ?_
  refine S_aload_n (pc := 17) dX10_answer_17 rfl rfl ?_
  refine S_getR (pc := 18) dX10_answer_18 flX10_34 (sW_0 hs) rfl (rW_0_3 hs) ?_
  refine S_iload_n (pc := 21) dX10_answer_21 rfl rfl ?_
  refine S_iload_n (pc := 22) dX10_answer_22 rfl rfl ?_
  refine S_iload_n (pc := 23) dX10_answer_23 rfl rfl ?_
  refine S_iload (pc := 24) dX10_answer_24 rfl ?_
  refine S_aload_n (pc := 26) dX10_answer_26 rfl rfl ?_
  refine S_get (pc := 27) (v := .int (f x 8)) dX10_answer_27 flX10_63 (sW_0 hs) rfl ?_
  refine S_aload_n (pc := 30) dX10_answer_30 rfl rfl ?_
  refine S_getR (pc := 31) dX10_answer_31 flX10_11 (sW_0 hs) rfl (rW_0_0 hs) ?_
  refine S_iload_n (pc := 34) dX10_answer_34 rfl rfl ?_
  obtain ⟨hb3, H⟩ := H
  obtain ⟨r4, e5, s6, p7, H⟩ := H
  refine S_aald24 (pc := 35) dX10_answer_35 (sW_1 hs) hb3 e5 ?_
  refine S_get (pc := 36) (v := .int (f r4 0)) dX10_answer_36 flX10_137 s6 rfl ?_
  refine S_iadd (pc := 39) dX10_answer_39 ?_
  refine S_callV (As := [.int a1, .int a2, .int a3, .int w1, .int ((f x 8) + (f r4 0))]) (mc := 0) (ms := 0) (pc := 40) dX10_answer_40 miX0_add mvX0_add mlX10_307 rfl (sW_14 hs) rfl rfl rfl (RmOK.of rfl) H ?_
  rintro _ _ ⟨f8, g9, rfl, rfl, H⟩
  show WP _ _ _ _ _ _ _ 43 [some (.ref x), some (.int a1), some (.int a2), some (.int a3), some (.int w1)] [] (sh, f8, g9, fR)
  exact S_vreturn dX10_answer_43 rfl H
