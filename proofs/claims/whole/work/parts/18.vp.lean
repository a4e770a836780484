abbrev LpX10_answerOnFirst_2 (l : Launch) (G : Gx) (d : Nat) (Q : Option Value → Hp → Prop) (sh : Sh) (fR : FRt) (x p : Nat) (f : FI) (g : FL) (a1 : Int32) (a2 : Int32) : Prop := WP l G (Zq G 0 0 Q) mX10_answerOnFirst (rmd (d + 2) 0 0) 0 0 2 [some (.ref x), some (.int a1), some (.int a2)] [] (sh, f, g, fR)
set_option maxHeartbeats 2000000 in
set_option maxRecDepth 4000 in
theorem VX10_answerOnFirst {l : Launch} {G : Gx} {d : Nat} {Q : Option Value → Hp → Prop} {sh : Sh} {fR : FRt} {x p : Nat} {f : FI} {g : FL} {a1 : Int32} (hs : StW sh fR x) (hp : fR x 7 = some p) (hP : StPl sh fR p)
    (H : LpX10_answerOnFirst_2 l G d Q sh fR x p f g a1 (nI 0)) :
    Cl l G (d + 2) 0 0 mX10_answerOnFirst [.ref x, .int a1] (sh, f, g, fR) Q := by
  refine Cl.of (L0 := [some (.ref x), some (.int a1), none]) miX10_answerOnFirst rfl rfl ?_
  refine S_iconst (pc := 0) dX10_answerOnFirst_0 ic0 ?_
  refine S_istore_n (pc := 1) (L' := [some (.ref x), some (.int a1), some (.int (nI 0))]) dX10_answerOnFirst_1 rfl (by decide) rfl ?_
  exact H
set_option maxHeartbeats 2000000 in
set_option maxRecDepth 4000 in
theorem VX10_answerOnFirst_2 {l : Launch} {G : Gx} {d : Nat} {Q : Option Value → Hp → Prop} {sh : Sh} {fR : FRt} {x p : Nat} {f : FI} {g : FL} {a1 : Int32} {a2 : Int32} (hs : StW sh fR x) (hp : fR x 7 = some p) (hP : StPl sh fR p)
    (H : (((f p 6) ≤ a2 → Q none (sh, f, g, fR)) ∧ (¬ (f p 6) ≤ a2 → inb a2 4 ∧ (∃ r3, fR (x + 1) a2.toNatClampNeg = some r3 ∧ sh[r3]? = some (8, 8) ∧ 0 < r3 ∧ Cl l G (d + 1) 0 0 mX8_isAlive [.ref r3] (sh, f, g, fR) (qi sh fR fun x9 f7 g8 => ((x9 = 0 → LpX10_answerOnFirst_2 l G d Q sh fR x p f7 g8 a1 (a2 + nI 1)) ∧ (¬ x9 = 0 → Cl l G (d + 1) 0 0 mX10_answer [.ref x, .int a2, .int (-1), .int a1] (sh, f7, g8, fR) (qv sh fR fun f11 g12 => Q none (sh, f11, g12, fR))))))))) :
    LpX10_answerOnFirst_2 l G d Q sh fR x p f g a1 a2 := by
  refine S_iload_n (pc := 2) dX10_answerOnFirst_2 rfl rfl ?_
  refine S_aload_n (pc := 3) dX10_answerOnFirst_3 rfl rfl ?_
  refine S_getR (pc := 4) dX10_answerOnFirst_4 flX10_58 (sW_0 hs) rfl hp ?_
  refine S_get (pc := 7) (v := .int (f p 6)) dX10_answerOnFirst_7 flX10_102 (sL_0 hP) rfl ?_
  refine S_icmp_ge (pc := 10) (tgt := 39) dX10_answerOnFirst_10 rfl (fun hc1 => ?_) (fun hc1 => ?_)
  · replace H := H.1 hc1
    exact S_vreturn dX10_answerOnFirst_39 rfl H
  · replace H := H.2 hc1
    refine S_aload_n (pc := 13) dX10_answerOnFirst_13 rfl rfl ?_
    refine S_getR (pc := 14) dX10_answerOnFirst_14 flX10_11 (sW_0 hs) rfl (rW_0_0 hs) ?_
    refine S_iload_n (pc := 17) dX10_answerOnFirst_17 rfl rfl ?_
    obtain ⟨hb2, H⟩ := H
    obtain ⟨r3, e4, s5, p6, H⟩ := H
    refine S_aald24 (pc := 18) dX10_answerOnFirst_18 (sW_1 hs) hb2 e4 ?_
    refine S_callV (As := []) (mc := 0) (ms := 0) (pc := 19) dX10_answerOnFirst_19 miX8_isAlive mvX8_isAlive mlX10_130 rfl s5 rfl rfl rfl (RmOK.of rfl) H ?_
    rintro _ _ ⟨x9, f7, g8, rfl, rfl, H⟩
    show WP _ _ _ _ _ _ _ 22 [some (.ref x), some (.int a1), some (.int a2)] [.int x9] (sh, f7, g8, fR)
    refine S_if_eq (pc := 22) (tgt := 33) dX10_answerOnFirst_22 rfl (fun hc10 => ?_) (fun hc10 => ?_)
    · replace H := H.1 hc10
      refine S_iinc (pc := 33) (v := nI 1) (L' := [some (.ref x), some (.int a1), some (.int (a2 + nI 1))]) dX10_answerOnFirst_33 rfl ic1 rfl ?_
      refine S_goto (pc := 36) (tgt := 2) dX10_answerOnFirst_36 rfl ?_
      exact H
    · replace H := H.2 hc10
      refine S_aload_n (pc := 25) dX10_answerOnFirst_25 rfl rfl ?_
      refine S_iload_n (pc := 26) dX10_answerOnFirst_26 rfl rfl ?_
      refine S_iconst (pc := 27) dX10_answerOnFirst_27 icm1 ?_
      refine S_iload_n (pc := 28) dX10_answerOnFirst_28 rfl rfl ?_
      refine S_callV (As := [.int a2, .int (-1), .int a1]) (mc := 0) (ms := 0) (pc := 29) dX10_answerOnFirst_29 miX10_answer mvX10_answer mlX10_294 rfl (sW_0 hs) rfl rfl rfl (RmOK.of rfl) H ?_
      rintro _ _ ⟨f11, g12, rfl, rfl, H⟩
      show WP _ _ _ _ _ _ _ 32 [some (.ref x), some (.int a1), some (.int a2)] [] (sh, f11, g12, fR)
      exact S_vreturn dX10_answerOnFirst_32 rfl H
set_option maxHeartbeats 2000000 in
set_option maxRecDepth 4000 in
theorem VX10_failLate {l : Launch} {G : Gx} {d : Nat} {Q : Option Value → Hp → Prop} {sh : Sh} {fR : FRt} {x p : Nat} {f : FI} {g : FL} {a1 : Int32} (hs : StW sh fR x) (hp : fR x 7 = some p) (hP : StPl sh fR p)
    (H : inb a1 4 ∧ (∃ r2, fR (x + 1) a1.toNatClampNeg = some r2 ∧ sh[r2]? = some (8, 8) ∧ 0 < r2 ∧ (((f r2 5) ≤ 0 → Q none (sh, f, g, fR)) ∧ (¬ (f r2 5) ≤ 0 → Cl l G (d + 3) 0 0 mX2_firstOn [.ref (x + 5), .int a1] (sh, f, g, fR) (qi sh fR fun x10 f8 g9 => ((x10 = (-1) → Q none (sh, f8, g9, fR)) ∧ (¬ x10 = (-1) → inb x10 512 ∧ Cl l G (d + 3) 0 0 mX10_waitOn [.ref x, .int a1] (sh, f8, g9, fR) (qi sh fR fun x15 f13 g14 => ((x15 ≤ ((f8 x 8) - (f8 (x + 10) x10.toNatClampNeg)) → inb a1 4 ∧ (∃ r18, fR (x + 1) a1.toNatClampNeg = some r18 ∧ sh[r18]? = some (8, 8) ∧ 0 < r18 ∧ inb x10 512 ∧ Cl l G (d + 3) 0 0 mX4_add [.ref (x + 23), .int (nI 0), .int a1, .int (f13 (x + 8) x10.toNatClampNeg)] (sh, f13, g14, fR) (qv sh fR fun f23 g24 => Cl l G (d + 3) 0 0 mX10_sendAgain [.ref x, .int x10] (sh, f23, g24, fR) (qv sh fR fun f25 g26 => Cl l G (d + 3) 0 0 mX8_halve [.ref r18] (sh, (up2 f25 r18 4 ((f25 r18 4) + (nI 1))), g26, fR) (qv sh fR fun f27 g28 => (((f27 r18 4) < (nI 3) → Q none (sh, f27, g28, fR)) ∧ (¬ (f27 r18 4) < (nI 3) → Cl l G (d + 3) 0 0 mX10_bury [.ref x, .int a1] (sh, f27, g28, fR) (qv sh fR fun f30 g31 => Q none (sh, f30, g31, fR))))))))) ∧ (¬ x15 ≤ ((f8 x 8) - (f8 (x + 10) x10.toNatClampNeg)) → Q none (sh, f13, g14, fR))))))))))) :
    Cl l G (d + 4) 0 0 mX10_failLate [.ref x, .int a1] (sh, f, g, fR) Q := by
  refine Cl.of (L0 := [some (.ref x), some (.int a1), none, none]) miX10_failLate rfl rfl ?_
  refine S_aload_n (pc := 0) dX10_failLate_0 rfl rfl ?_
  refine S_getR (pc := 1) dX10_failLate_1 flX10_11 (sW_0 hs) rfl (rW_0_0 hs) ?_
  refine S_iload_n (pc := 4) dX10_failLate_4 rfl rfl ?_
  obtain ⟨hb1, H⟩ := H
  obtain ⟨r2, e3, s4, p5, H⟩ := H
  refine S_aald24 (pc := 5) dX10_failLate_5 (sW_1 hs) hb1 e3 ?_
  refine S_get (pc := 6) (v := .int (f r2 5)) dX10_failLate_6 flX10_134 s4 rfl ?_
  refine S_if_le (pc := 9) (tgt := 23) dX10_failLate_9 rfl (fun hc6 => ?_) (fun hc6 => ?_)
  · replace H := H.1 hc6
    refine S_iconst (pc := 23) dX10_failLate_23 icm1 ?_
    refine S_istore_n (pc := 24) (L' := [some (.ref x), some (.int a1), some (.int (-1)), none]) dX10_failLate_24 rfl (by decide) rfl ?_
    refine S_iload_n (pc := 25) dX10_failLate_25 rfl rfl ?_
    refine S_iconst (pc := 26) dX10_failLate_26 icm1 ?_
    refine S_icmp_eq (pc := 27) (tgt := 52) dX10_failLate_27 rfl (fun _ => ?_) (fun hc7 => by first | exact absurd (by decide) hc7 | exact absurd hc7 (by decide))
    exact S_vreturn dX10_failLate_52 rfl H
  · replace H := H.2 hc6
    refine S_aload_n (pc := 12) dX10_failLate_12 rfl rfl ?_
    refine S_getR (pc := 13) dX10_failLate_13 flX10_27 (sW_0 hs) rfl (rW_0_2 hs) ?_
    refine S_iload_n (pc := 16) dX10_failLate_16 rfl rfl ?_
    refine S_callV (As := [.int a1]) (mc := 0) (ms := 0) (pc := 17) dX10_failLate_17 miX2_firstOn mvX2_firstOn mlX10_310 rfl (sW_5 hs) rfl rfl rfl (RmOK.of rfl) H ?_
    rintro _ _ ⟨x10, f8, g9, rfl, rfl, H⟩
    show WP _ _ _ _ _ _ _ 20 [some (.ref x), some (.int a1), none, none] [.int x10] (sh, f8, g9, fR)
    refine S_goto (pc := 20) (tgt := 24) dX10_failLate_20 rfl ?_
    refine S_istore_n (pc := 24) (L' := [some (.ref x), some (.int a1), some (.int x10), none]) dX10_failLate_24 rfl (by decide) rfl ?_
    refine S_iload_n (pc := 25) dX10_failLate_25 rfl rfl ?_
    refine S_iconst (pc := 26) dX10_failLate_26 icm1 ?_
    refine S_icmp_eq (pc := 27) (tgt := 52) dX10_failLate_27 rfl (fun hc11 => ?_) (fun hc11 => ?_)
    · replace H := H.1 hc11
      exact S_vreturn dX10_failLate_52 rfl H
    · replace H := H.2 hc11
      refine S_aload_n (pc := 30) dX10_failLate_30 rfl rfl ?_
      refine S_get (pc := 31) (v := .int (f8 x 8)) dX10_failLate_31 flX10_63 (sW_0 hs) rfl ?_
      refine S_aload_n (pc := 34) dX10_failLate_34 rfl rfl ?_
      refine S_getR (pc := 35) dX10_failLate_35 flX10_27 (sW_0 hs) rfl (rW_0_2 hs) ?_
      refine S_getR (pc := 38) dX10_failLate_38 flX10_313 (sW_5 hs) rfl (rW_5_4 hs) ?_
      refine S_iload_n (pc := 41) dX10_failLate_41 rfl rfl ?_
      obtain ⟨hb12, H⟩ := H
      refine S_iald (pc := 42) dX10_failLate_42 (sW_10 hs) hb12 ?_
      refine S_isub (pc := 43) dX10_failLate_43 ?_
      refine S_aload_n (pc := 44) dX10_failLate_44 rfl rfl ?_
      refine S_iload_n (pc := 45) dX10_failLate_45 rfl rfl ?_
      refine S_callV (As := [.int a1]) (mc := 0) (ms := 0) (pc := 46) dX10_failLate_46 miX10_waitOn mvX10_waitOn mlX10_316 rfl (sW_0 hs) rfl rfl rfl (RmOK.of rfl) H ?_
      rintro _ _ ⟨x15, f13, g14, rfl, rfl, H⟩
      show WP _ _ _ _ _ _ _ 49 [some (.ref x), some (.int a1), some (.int x10), none] [.int x15, .int ((f8 x 8) - (f8 (x + 10) x10.toNatClampNeg))] (sh, f13, g14, fR)
      refine S_icmp_ge (pc := 49) (tgt := 53) dX10_failLate_49 rfl (fun hc16 => ?_) (fun hc16 => ?_)
      · replace H := H.1 hc16
        refine S_aload_n (pc := 53) dX10_failLate_53 rfl rfl ?_
        refine S_getR (pc := 54) dX10_failLate_54 flX10_11 (sW_0 hs) rfl (rW_0_0 hs) ?_
        refine S_iload_n (pc := 57) dX10_failLate_57 rfl rfl ?_
        obtain ⟨hb17, H⟩ := H
        obtain ⟨r18, e19, s20, p21, H⟩ := H
        refine S_aald24 (pc := 58) dX10_failLate_58 (sW_1 hs) hb17 e19 ?_
        refine S_astore_n (pc := 59) (L' := [some (.ref x), some (.int a1), some (.int x10), some (.ref r18)]) dX10_failLate_59 rfl (by decide) rfl ?_
        refine S_aload_n (pc := 60) dX10_failLate_60 rfl rfl ?_
        refine S_getR (pc := 61) dX10_failLate_61 flX10_48 (sW_0 hs) rfl (rW_0_5 hs) ?_
        refine S_iconst (pc := 64) dX10_failLate_64 ic0 ?_
        refine S_iload_n (pc := 65) dX10_failLate_65 rfl rfl ?_
        refine S_aload_n (pc := 66) dX10_failLate_66 rfl rfl ?_
        refine S_getR (pc := 67) dX10_failLate_67 flX10_27 (sW_0 hs) rfl (rW_0_2 hs) ?_
        refine S_getR (pc := 70) dX10_failLate_70 flX10_193 (sW_5 hs) rfl (rW_5_2 hs) ?_
        refine S_iload_n (pc := 73) dX10_failLate_73 rfl rfl ?_
        obtain ⟨hb22, H⟩ := H
        refine S_iald (pc := 74) dX10_failLate_74 (sW_8 hs) hb22 ?_
        refine S_callV (As := [.int (nI 0), .int a1, .int (f13 (x + 8) x10.toNatClampNeg)]) (mc := 0) (ms := 0) (pc := 75) dX10_failLate_75 miX4_add mvX4_add mlX10_179 rfl (sW_23 hs) rfl rfl rfl (RmOK.of rfl) H ?_
        rintro _ _ ⟨f23, g24, rfl, rfl, H⟩
        show WP _ _ _ _ _ _ _ 78 [some (.ref x), some (.int a1), some (.int x10), some (.ref r18)] [] (sh, f23, g24, fR)
        refine S_aload_n (pc := 78) dX10_failLate_78 rfl rfl ?_
        refine S_iload_n (pc := 79) dX10_failLate_79 rfl rfl ?_
        refine S_callV (As := [.int x10]) (mc := 0) (ms := 0) (pc := 80) dX10_failLate_80 miX10_sendAgain mvX10_sendAgain mlX10_190 rfl (sW_0 hs) rfl rfl rfl (RmOK.of rfl) H ?_
        rintro _ _ ⟨f25, g26, rfl, rfl, H⟩
        show WP _ _ _ _ _ _ _ 83 [some (.ref x), some (.int a1), some (.int x10), some (.ref r18)] [] (sh, f25, g26, fR)
        refine S_aload_n (pc := 83) dX10_failLate_83 rfl rfl ?_
        refine S_dup (pc := 84) dX10_failLate_84 rfl ?_
        refine S_get (pc := 85) (v := .int (f25 r18 4)) dX10_failLate_85 flX10_149 s20 rfl ?_
        refine S_iconst (pc := 88) dX10_failLate_88 ic1 ?_
        refine S_iadd (pc := 89) dX10_failLate_89 ?_
        refine S_putI (pc := 90) dX10_failLate_90 flX10_149 s20 p21 (nf_8_4) rfl rfl (fun _ => rfl) ?_
        refine S_aload_n (pc := 93) dX10_failLate_93 rfl rfl ?_
        refine S_callV (As := []) (mc := 0) (ms := 0) (pc := 94) dX10_failLate_94 miX8_halve mvX8_halve mlX10_319 rfl s20 rfl rfl rfl (RmOK.of rfl) H ?_
        rintro _ _ ⟨f27, g28, rfl, rfl, H⟩
        show WP _ _ _ _ _ _ _ 97 [some (.ref x), some (.int a1), some (.int x10), some (.ref r18)] [] (sh, f27, g28, fR)
        refine S_aload_n (pc := 97) dX10_failLate_97 rfl rfl ?_
        refine S_get (pc := 98) (v := .int (f27 r18 4)) dX10_failLate_98 flX10_149 s20 rfl ?_
        refine S_iconst (pc := 101) dX10_failLate_101 ic3 ?_
        refine S_icmp_lt (pc := 102) (tgt := 110) dX10_failLate_102 rfl (fun hc29 => ?_) (fun hc29 => ?_)
        · replace H := H.1 hc29
          exact S_vreturn dX10_failLate_110 rfl H
        · replace H := H.2 hc29
          refine S_aload_n (pc := 105) dX10_failLate_105 rfl rfl ?_
          refine S_iload_n (pc := 106) dX10_failLate_106 rfl rfl ?_
          refine S_callV (As := [.int a1]) (mc := 0) (ms := 0) (pc := 107) dX10_failLate_107 miX10_bury mvX10_bury mlX10_297 rfl (sW_0 hs) rfl rfl rfl (RmOK.of rfl) H ?_
          rintro _ _ ⟨f30, g31, rfl, rfl, H⟩
          show WP _ _ _ _ _ _ _ 110 [some (.ref x), some (.int a1), some (.int x10), some (.ref r18)] [] (sh, f30, g31, fR)
          exact S_vreturn dX10_failLate_110 rfl H
      · replace H := H.2 hc16
        exact S_vreturn dX10_failLate_52 rfl H
abbrev LpX10_sendPiecesN_28 (l : Launch) (G : Gx) (d : Nat) (Q : Option Value → Hp → Prop) (sh : Sh) (fR : FRt) (x p : Nat) (f : FI) (g : FL) (a2 : Int32) (a3 : Int32) : Prop := WP l G (Zq G 0 0 Q) mX10_sendPieces (rmd (d + 4) 0 0) 0 0 28 [some (.ref x), some (.null), some (.int a2), some (.int a3), none, none] [] (sh, f, g, fR)
abbrev LpX10_sendPiecesN_68 (l : Launch) (G : Gx) (d : Nat) (Q : Option Value → Hp → Prop) (sh : Sh) (fR : FRt) (x p : Nat) (f : FI) (g : FL) (a2 : Int32) (a3 : Int32) : Prop := WP l G (Zq G 0 0 Q) mX10_sendPieces (rmd (d + 4) 0 0) 0 0 68 [some (.ref x), some (.null), some (.int a2), some (.int a3), none, none] [] (sh, f, g, fR)
abbrev LpX10_sendPiecesN_170 (l : Launch) (G : Gx) (d : Nat) (Q : Option Value → Hp → Prop) (sh : Sh) (fR : FRt) (x p : Nat) (f : FI) (g : FL) (a2 : Int32) (a3 : Int32) : Prop := WP l G (Zq G 0 0 Q) mX10_sendPieces (rmd (d + 4) 0 0) 0 0 170 [some (.ref x), some (.null), some (.int a2), some (.int a3), none, none] [] (sh, f, g, fR)
set_option maxHeartbeats 2000000 in
set_option maxRecDepth 4000 in
theorem VX10_sendPiecesN {l : Launch} {G : Gx} {d : Nat} {Q : Option Value → Hp → Prop} {sh : Sh} {fR : FRt} {x p : Nat} {f : FI} {g : FL}  (hs : StW sh fR x) (hp : fR x 7 = some p) (hP : StPl sh fR p)
    (H : Cl l G (d + 3) 0 0 mX5_tidy [.ref (x + 20), .int (f x 10)] (sh, f, g, fR) (qv sh fR fun f1 g2 => Cl l G (d + 3) 0 0 mJ_min [.int (f1 x 11), .int (f1 p 1)] (sh, f1, g2, fR) (qi sh fR fun x5 f3 g4 => LpX10_sendPiecesN_28 l G d Q sh fR x p f3 g4 x5 (nI 0)))) :
    Cl l G (d + 4) 0 0 mX10_sendPieces [.ref x, .null] (sh, f, g, fR) Q := by
  refine Cl.of (L0 := [some (.ref x), some (.null), none, none, none, none]) miX10_sendPieces rfl rfl ?_
  refine S_aload_n (pc := 0) dX10_sendPieces_0 rfl rfl ?_
  refine S_getR (pc := 1) dX10_sendPieces_1 flX10_41 (sW_0 hs) rfl (rW_0_4 hs) ?_
  refine S_aload_n (pc := 4) dX10_sendPieces_4 rfl rfl ?_
  refine S_get (pc := 5) (v := .int (f x 10)) dX10_sendPieces_5 flX10_70 (sW_0 hs) rfl ?_
  refine S_callV (As := [.int (f x 10)]) (mc := 0) (ms := 0) (pc := 8) dX10_sendPieces_8 miX5_tidy mvX5_tidy mlX10_322 rfl (sW_20 hs) rfl rfl rfl (RmOK.of rfl) H ?_
  rintro _ _ ⟨f1, g2, rfl, rfl, H⟩
  show WP _ _ _ _ _ _ _ 11 [some (.ref x), some (.null), none, none, none, none] [] (sh, f1, g2, fR)
  refine S_aload_n (pc := 11) dX10_sendPieces_11 rfl rfl ?_
  refine S_get (pc := 12) (v := .int (f1 x 11)) dX10_sendPieces_12 flX10_78 (sW_0 hs) rfl ?_
  refine S_aload_n (pc := 15) dX10_sendPieces_15 rfl rfl ?_
  refine S_getR (pc := 16) dX10_sendPieces_16 flX10_58 (sW_0 hs) rfl hp ?_
  refine S_get (pc := 19) (v := .int (f1 p 1)) dX10_sendPieces_19 flX10_323 (sL_0 hP) rfl ?_
  refine S_callSJ (As := [.int (f1 x 11), .int (f1 p 1)]) (mc := 0) (ms := 0) (pc := 22) dX10_sendPieces_22 miJ_min mvJ_min mlX10_156 rfl rfl (RmOK.of rfl) H ?_
  rintro _ _ ⟨x5, f3, g4, rfl, rfl, H⟩
  show WP _ _ _ _ _ _ _ 25 [some (.ref x), some (.null), none, none, none, none] [.int x5] (sh, f3, g4, fR)
  refine S_istore_n (pc := 25) (L' := [some (.ref x), some (.null), some (.int x5), none, none, none]) dX10_sendPieces_25 rfl (by decide) rfl ?_
  refine S_iconst (pc := 26) dX10_sendPieces_26 ic0 ?_
  refine S_istore_n (pc := 27) (L' := [some (.ref x), some (.null), some (.int x5), some (.int (nI 0)), none, none]) dX10_sendPieces_27 rfl (by decide) rfl ?_
  exact H
set_option maxHeartbeats 2000000 in
set_option maxRecDepth 4000 in
theorem VX10_sendPiecesN_28 {l : Launch} {G : Gx} {d : Nat} {Q : Option Value → Hp → Prop} {sh : Sh} {fR : FRt} {x p : Nat} {f : FI} {g : FL} {a2 : Int32} {a3 : Int32} (hs : StW sh fR x) (hp : fR x 7 = some p) (hP : StPl sh fR p)
    (H : (((nI 512) ≤ a3 → Q (some (.int (nI 0))) (sh, f, g, fR)) ∧ (¬ (nI 512) ≤ a3 → (((nI 512) ≤ (f (x + 5) 8) → Q (some (.int (nI 0))) (sh, f, g, fR)) ∧ (¬ (nI 512) ≤ (f (x + 5) 8) → ((¬ (f (x + 20) 2) = 0 → LpX10_sendPiecesN_68 l G d Q sh fR x p f g a2 a3) ∧ ((f (x + 20) 2) = 0 → (((f x 9) < a2 → LpX10_sendPiecesN_68 l G d Q sh fR x p f g a2 a3) ∧ (¬ (f x 9) < a2 → Q (some (.int (nI 1))) (sh, f, g, fR)))))))))) :
    LpX10_sendPiecesN_28 l G d Q sh fR x p f g a2 a3 := by
  refine S_iload_n (pc := 28) dX10_sendPieces_28 rfl rfl ?_
  refine S_sipush (pc := 29) dX10_sendPieces_29 sp512 ?_
  refine S_icmp_ge (pc := 32) (tgt := 176) dX10_sendPieces_32 rfl (fun hc6 => ?_) (fun hc6 => ?_)
  · replace H := H.1 hc6
    refine S_iconst (pc := 176) dX10_sendPieces_176 ic0 ?_
    exact S_zreturn dX10_sendPieces_177 rfl (Or.inl rfl) H
  · replace H := H.2 hc6
    refine S_aload_n (pc := 35) dX10_sendPieces_35 rfl rfl ?_
    refine S_getR (pc := 36) dX10_sendPieces_36 flX10_27 (sW_0 hs) rfl (rW_0_2 hs) ?_
    refine S_get (pc := 39) (v := .int (f (x + 5) 8)) dX10_sendPieces_39 flX10_88 (sW_5 hs) rfl ?_
    refine S_sipush (pc := 42) dX10_sendPieces_42 sp512 ?_
    refine S_icmp_ge (pc := 45) (tgt := 176) dX10_sendPieces_45 rfl (fun hc7 => ?_) (fun hc7 => ?_)
    · replace H := H.1 hc7
      refine S_iconst (pc := 176) dX10_sendPieces_176 ic0 ?_
      exact S_zreturn dX10_sendPieces_177 rfl (Or.inl rfl) H
    · replace H := H.2 hc7
      refine S_aload_n (pc := 48) dX10_sendPieces_48 rfl rfl ?_
      refine S_getR (pc := 49) dX10_sendPieces_49 flX10_41 (sW_0 hs) rfl (rW_0_4 hs) ?_
      refine S_get (pc := 52) (v := .int (f (x + 20) 2)) dX10_sendPieces_52 flX10_92 (sW_20 hs) rfl ?_
      refine S_if_ne (pc := 55) (tgt := 68) dX10_sendPieces_55 rfl (fun hc8 => ?_) (fun hc8 => ?_)
      · replace H := H.1 hc8
        exact H
      · replace H := H.2 hc8
        refine S_aload_n (pc := 58) dX10_sendPieces_58 rfl rfl ?_
        refine S_get (pc := 59) (v := .int (f x 9)) dX10_sendPieces_59 flX10_67 (sW_0 hs) rfl ?_
        refine S_iload_n (pc := 62) dX10_sendPieces_62 rfl rfl ?_
        refine S_icmp_lt (pc := 63) (tgt := 68) dX10_sendPieces_63 rfl (fun hc9 => ?_) (fun hc9 => ?_)
        · replace H := H.1 hc9
          exact H
        · replace H := H.2 hc9
          refine S_iconst (pc := 66) dX10_sendPieces_66 ic1 ?_
          exact S_zreturn dX10_sendPieces_67 rfl (Or.inr rfl) H
set_option maxHeartbeats 2000000 in
set_option maxRecDepth 4000 in
theorem VX10_sendPiecesN_68 {l : Launch} {G : Gx} {d : Nat} {Q : Option Value → Hp → Prop} {sh : Sh} {fR : FRt} {x p : Nat} {f : FI} {g : FL} {a2 : Int32} {a3 : Int32} (hs : StW sh fR x) (hp : fR x 7 = some p) (hP : StPl sh fR p)
    (H : Cl l G (d + 3) 0 0 mX10_pick [.ref x, .int (-1)] (sh, f, g, fR) (qi sh fR fun x12 f10 g11 => ((¬ x12 = (-1) → (((f10 (x + 20) 2) ≤ 0 → Cl l G (d + 3) 0 0 mJ_min [.int (f10 p 2), .int (a2 - (f10 x 9))] (sh, f10, g11, fR) (qi sh fR fun x17 f15 g16 => Cl l G (d + 3) 0 0 mX10_send [.ref x, .int x12, .int (f15 x 9), .int x17, .null] (sh, f15, g16, fR) (qv sh fR fun f18 g19 => LpX10_sendPiecesN_170 l G d Q sh fR x p (up2 f18 x 9 ((f18 x 9) + x17)) g19 a2 a3))) ∧ (¬ (f10 (x + 20) 2) ≤ 0 → Cl l G (d + 3) 0 0 mX10_send [.ref x, .int x12, .int (f10 (x + 21) 0), .int (f10 (x + 22) 0), .null] (sh, f10, g11, fR) (qv sh fR fun f20 g21 => Cl l G (d + 3) 0 0 mX5_removeFirst [.ref (x + 20)] (sh, f20, g21, fR) (qv sh fR fun f22 g23 => LpX10_sendPiecesN_170 l G d Q sh fR x p f22 g23 a2 a3))))) ∧ (x12 = (-1) → Q (some (.int (nI 0))) (sh, f10, g11, fR))))) :
    LpX10_sendPiecesN_68 l G d Q sh fR x p f g a2 a3 := by
  refine S_aload_n (pc := 68) dX10_sendPieces_68 rfl rfl ?_
  refine S_iconst (pc := 69) dX10_sendPieces_69 icm1 ?_
  refine S_callV (As := [.int (-1)]) (mc := 0) (ms := 0) (pc := 70) dX10_sendPieces_70 miX10_pick mvX10_pick mlX10_324 rfl (sW_0 hs) rfl rfl rfl (RmOK.of rfl) H ?_
  rintro _ _ ⟨x12, f10, g11, rfl, rfl, H⟩
  show WP _ _ _ _ _ _ _ 73 [some (.ref x), some (.null), some (.int a2), some (.int a3), none, none] [.int x12] (sh, f10, g11, fR)
  refine S_istore (pc := 73) (L' := [some (.ref x), some (.null), some (.int a2), some (.int a3), some (.int x12), none]) dX10_sendPieces_73 (by decide) rfl ?_
  refine S_iload (pc := 75) dX10_sendPieces_75 rfl ?_
  refine S_iconst (pc := 77) dX10_sendPieces_77 icm1 ?_
  refine S_icmp_ne (pc := 78) (tgt := 83) dX10_sendPieces_78 rfl (fun hc13 => ?_) (fun hc13 => ?_)
  · replace H := H.1 hc13
    refine S_aload_n (pc := 83) dX10_sendPieces_83 rfl rfl ?_
    refine S_getR (pc := 84) dX10_sendPieces_84 flX10_41 (sW_0 hs) rfl (rW_0_4 hs) ?_
    refine S_get (pc := 87) (v := .int (f10 (x + 20) 2)) dX10_sendPieces_87 flX10_92 (sW_20 hs) rfl ?_
    refine S_if_le (pc := 90) (tgt := 128) dX10_sendPieces_90 rfl (fun hc14 => ?_) (fun hc14 => ?_)
    · replace H := H.1 hc14
      refine S_aload_n (pc := 128) dX10_sendPieces_128 rfl rfl ?_
      refine S_getR (pc := 129) dX10_sendPieces_129 flX10_58 (sW_0 hs) rfl hp ?_
      refine S_get (pc := 132) (v := .int (f10 p 2)) dX10_sendPieces_132 flX10_336 (sL_0 hP) rfl ?_
      refine S_iload_n (pc := 135) dX10_sendPieces_135 rfl rfl ?_
      refine S_aload_n (pc := 136) dX10_sendPieces_136 rfl rfl ?_
      refine S_get (pc := 137) (v := .int (f10 x 9)) dX10_sendPieces_137 flX10_67 (sW_0 hs) rfl ?_
      refine S_isub (pc := 140) dX10_sendPieces_140 ?_
      refine S_callSJ (As := [.int (f10 p 2), .int (a2 - (f10 x 9))]) (mc := 0) (ms := 0) (pc := 141) dX10_sendPieces_141 miJ_min mvJ_min mlX10_156 rfl rfl (RmOK.of rfl) H ?_
      rintro _ _ ⟨x17, f15, g16, rfl, rfl, H⟩
      show WP _ _ _ _ _ _ _ 144 [some (.ref x), some (.null), some (.int a2), some (.int a3), some (.int x12), none] [.int x17] (sh, f15, g16, fR)
      refine S_istore (pc := 144) (L' := [some (.ref x), some (.null), some (.int a2), some (.int a3), some (.int x12), some (.int x17)]) dX10_sendPieces_144 (by decide) rfl ?_
      refine S_aload_n (pc := 146) dX10_sendPieces_146 rfl rfl ?_
      refine S_iload (pc := 147) dX10_sendPieces_147 rfl ?_
      refine S_aload_n (pc := 149) dX10_sendPieces_149 rfl rfl ?_
      refine S_get (pc := 150) (v := .int (f15 x 9)) dX10_sendPieces_150 flX10_67 (sW_0 hs) rfl ?_
      refine S_iload (pc := 153) dX10_sendPieces_153 rfl ?_
      refine S_aload_nN (pc := 155) dX10_sendPieces_155 rfl rfl ?_
      refine S_callV (As := [.int x12, .int (f15 x 9), .int x17, .null]) (mc := 0) (ms := 0) (pc := 156) dX10_sendPieces_156 miX10_send mvX10_send mlX10_329 rfl (sW_0 hs) rfl rfl rfl (RmOK.of rfl) H ?_
      rintro _ _ ⟨f18, g19, rfl, rfl, H⟩
      show WP _ _ _ _ _ _ _ 159 [some (.ref x), some (.null), some (.int a2), some (.int a3), some (.int x12), some (.int x17)] [] (sh, f18, g19, fR)
      refine S_aload_n (pc := 159) dX10_sendPieces_159 rfl rfl ?_
      refine S_dup (pc := 160) dX10_sendPieces_160 rfl ?_
      refine S_get (pc := 161) (v := .int (f18 x 9)) dX10_sendPieces_161 flX10_67 (sW_0 hs) rfl ?_
      refine S_iload (pc := 164) dX10_sendPieces_164 rfl ?_
      refine S_iadd (pc := 166) dX10_sendPieces_166 ?_
      refine S_putI (pc := 167) dX10_sendPieces_167 flX10_67 (sW_0 hs) hs.2.2 (nf_10_9) rfl rfl (fun _ => rfl) ?_
      exact S_weak (L' := [some (.ref x), some (.null), some (.int a2), some (.int a3), none, none]) (ls_e (ls_e (ls_e (ls_e (ls_n (ls_n ls_0)))))) H
    · replace H := H.2 hc14
      refine S_aload_n (pc := 93) dX10_sendPieces_93 rfl rfl ?_
      refine S_iload (pc := 94) dX10_sendPieces_94 rfl ?_
      refine S_aload_n (pc := 96) dX10_sendPieces_96 rfl rfl ?_
      refine S_getR (pc := 97) dX10_sendPieces_97 flX10_41 (sW_0 hs) rfl (rW_0_4 hs) ?_
      refine S_getR (pc := 100) dX10_sendPieces_100 flX10_327 (sW_20 hs) rfl (rW_20_0 hs) ?_
      refine S_iconst (pc := 103) dX10_sendPieces_103 ic0 ?_
      refine S_iald (pc := 104) dX10_sendPieces_104 (sW_21 hs) (vp_in_nI (by decide) (by decide)) ?_
      show WP _ _ _ _ _ _ _ 105 _ (.int (f10 (x + 21) 0) :: _) _
      refine S_aload_n (pc := 105) dX10_sendPieces_105 rfl rfl ?_
      refine S_getR (pc := 106) dX10_sendPieces_106 flX10_41 (sW_0 hs) rfl (rW_0_4 hs) ?_
      refine S_getR (pc := 109) dX10_sendPieces_109 flX10_328 (sW_20 hs) rfl (rW_20_1 hs) ?_
      refine S_iconst (pc := 112) dX10_sendPieces_112 ic0 ?_
      refine S_iald (pc := 113) dX10_sendPieces_113 (sW_22 hs) (vp_in_nI (by decide) (by decide)) ?_
      show WP _ _ _ _ _ _ _ 114 _ (.int (f10 (x + 22) 0) :: _) _
      refine S_aload_nN (pc := 114) dX10_sendPieces_114 rfl rfl ?_
      refine S_callV (As := [.int x12, .int (f10 (x + 21) 0), .int (f10 (x + 22) 0), .null]) (mc := 0) (ms := 0) (pc := 115) dX10_sendPieces_115 miX10_send mvX10_send mlX10_329 rfl (sW_0 hs) rfl rfl rfl (RmOK.of rfl) H ?_
      rintro _ _ ⟨f20, g21, rfl, rfl, H⟩
      show WP _ _ _ _ _ _ _ 118 [some (.ref x), some (.null), some (.int a2), some (.int a3), some (.int x12), none] [] (sh, f20, g21, fR)
      refine S_aload_n (pc := 118) dX10_sendPieces_118 rfl rfl ?_
      refine S_getR (pc := 119) dX10_sendPieces_119 flX10_41 (sW_0 hs) rfl (rW_0_4 hs) ?_
      refine S_callV (As := []) (mc := 0) (ms := 0) (pc := 122) dX10_sendPieces_122 miX5_removeFirst mvX5_removeFirst mlX10_333 rfl (sW_20 hs) rfl rfl rfl (RmOK.of rfl) H ?_
      rintro _ _ ⟨f22, g23, rfl, rfl, H⟩
      show WP _ _ _ _ _ _ _ 125 [some (.ref x), some (.null), some (.int a2), some (.int a3), some (.int x12), none] [] (sh, f22, g23, fR)
      refine S_goto (pc := 125) (tgt := 170) dX10_sendPieces_125 rfl ?_
      exact S_weak (L' := [some (.ref x), some (.null), some (.int a2), some (.int a3), none, none]) (ls_e (ls_e (ls_e (ls_e (ls_n (ls_e ls_0)))))) H
  · replace H := H.2 hc13
    refine S_iconst (pc := 81) dX10_sendPieces_81 ic0 ?_
    exact S_zreturn dX10_sendPieces_82 rfl (Or.inl rfl) H
set_option maxHeartbeats 2000000 in
set_option maxRecDepth 4000 in
theorem VX10_sendPiecesN_170 {l : Launch} {G : Gx} {d : Nat} {Q : Option Value → Hp → Prop} {sh : Sh} {fR : FRt} {x p : Nat} {f : FI} {g : FL} {a2 : Int32} {a3 : Int32} (hs : StW sh fR x) (hp : fR x 7 = some p) (hP : StPl sh fR p)
    (H : LpX10_sendPiecesN_28 l G d Q sh fR x p f g a2 (a3 + nI 1)) :
    LpX10_sendPiecesN_170 l G d Q sh fR x p f g a2 a3 := by
  refine S_iinc (pc := 170) (v := nI 1) (L' := [some (.ref x), some (.null), some (.int a2), some (.int (a3 + nI 1)), none, none]) dX10_sendPieces_170 rfl ic1 rfl ?_
  refine S_goto (pc := 173) (tgt := 28) dX10_sendPieces_173 rfl ?_
  exact H
abbrev LpX10_sendPiecesD_28 (l : Launch) (G : Gx) (d : Nat) (Q : Option Value → Hp → Prop) (sh : Sh) (fR : FRt) (x p w : Nat) (f : FI) (g : FL) (a2 : Int32) (a3 : Int32) : Prop := WP l G (Zq G 0 0 Q) mX10_sendPieces (rmd (d + 4) 0 0) 0 0 28 [some (.ref x), some (.ref w), some (.int a2), some (.int a3), none, none] [] (sh, f, g, fR)
abbrev LpX10_sendPiecesD_68 (l : Launch) (G : Gx) (d : Nat) (Q : Option Value → Hp → Prop) (sh : Sh) (fR : FRt) (x p w : Nat) (f : FI) (g : FL) (a2 : Int32) (a3 : Int32) : Prop := WP l G (Zq G 0 0 Q) mX10_sendPieces (rmd (d + 4) 0 0) 0 0 68 [some (.ref x), some (.ref w), some (.int a2), some (.int a3), none, none] [] (sh, f, g, fR)
abbrev LpX10_sendPiecesD_170 (l : Launch) (G : Gx) (d : Nat) (Q : Option Value → Hp → Prop) (sh : Sh) (fR : FRt) (x p w : Nat) (f : FI) (g : FL) (a2 : Int32) (a3 : Int32) : Prop := WP l G (Zq G 0 0 Q) mX10_sendPieces (rmd (d + 4) 0 0) 0 0 170 [some (.ref x), some (.ref w), some (.int a2), some (.int a3), none, none] [] (sh, f, g, fR)
set_option maxHeartbeats 2000000 in
set_option maxRecDepth 4000 in
theorem VX10_sendPiecesD {l : Launch} {G : Gx} {d : Nat} {Q : Option Value → Hp → Prop} {sh : Sh} {fR : FRt} {x p w : Nat} {f : FI} {g : FL}  (hs : StW sh fR x) (hp : fR x 7 = some p) (hP : StPl sh fR p) (hw : sh[w]? = some (1, 1) ∧ 0 < w)
    (H : Cl l G (d + 3) 0 0 mX5_tidy [.ref (x + 20), .int (f x 10)] (sh, f, g, fR) (qv sh fR fun f1 g2 => Cl l G (d + 3) 0 0 mJ_min [.int (f1 x 11), .int (f1 p 1)] (sh, f1, g2, fR) (qi sh fR fun x5 f3 g4 => LpX10_sendPiecesD_28 l G d Q sh fR x p w f3 g4 x5 (nI 0)))) :
    Cl l G (d + 4) 0 0 mX10_sendPieces [.ref x, .ref w] (sh, f, g, fR) Q := by
  refine Cl.of (L0 := [some (.ref x), some (.ref w), none, none, none, none]) miX10_sendPieces rfl rfl ?_
  refine S_aload_n (pc := 0) dX10_sendPieces_0 rfl rfl ?_
  refine S_getR (pc := 1) dX10_sendPieces_1 flX10_41 (sW_0 hs) rfl (rW_0_4 hs) ?_
  refine S_aload_n (pc := 4) dX10_sendPieces_4 rfl rfl ?_
  refine S_get (pc := 5) (v := .int (f x 10)) dX10_sendPieces_5 flX10_70 (sW_0 hs) rfl ?_
  refine S_callV (As := [.int (f x 10)]) (mc := 0) (ms := 0) (pc := 8) dX10_sendPieces_8 miX5_tidy mvX5_tidy mlX10_322 rfl (sW_20 hs) rfl rfl rfl (RmOK.of rfl) H ?_
  rintro _ _ ⟨f1, g2, rfl, rfl, H⟩
  show WP _ _ _ _ _ _ _ 11 [some (.ref x), some (.ref w), none, none, none, none] [] (sh, f1, g2, fR)
  refine S_aload_n (pc := 11) dX10_sendPieces_11 rfl rfl ?_
  refine S_get (pc := 12) (v := .int (f1 x 11)) dX10_sendPieces_12 flX10_78 (sW_0 hs) rfl ?_
  refine S_aload_n (pc := 15) dX10_sendPieces_15 rfl rfl ?_
  refine S_getR (pc := 16) dX10_sendPieces_16 flX10_58 (sW_0 hs) rfl hp ?_
  refine S_get (pc := 19) (v := .int (f1 p 1)) dX10_sendPieces_19 flX10_323 (sL_0 hP) rfl ?_
  refine S_callSJ (As := [.int (f1 x 11), .int (f1 p 1)]) (mc := 0) (ms := 0) (pc := 22) dX10_sendPieces_22 miJ_min mvJ_min mlX10_156 rfl rfl (RmOK.of rfl) H ?_
  rintro _ _ ⟨x5, f3, g4, rfl, rfl, H⟩
  show WP _ _ _ _ _ _ _ 25 [some (.ref x), some (.ref w), none, none, none, none] [.int x5] (sh, f3, g4, fR)
  refine S_istore_n (pc := 25) (L' := [some (.ref x), some (.ref w), some (.int x5), none, none, none]) dX10_sendPieces_25 rfl (by decide) rfl ?_
  refine S_iconst (pc := 26) dX10_sendPieces_26 ic0 ?_
  refine S_istore_n (pc := 27) (L' := [some (.ref x), some (.ref w), some (.int x5), some (.int (nI 0)), none, none]) dX10_sendPieces_27 rfl (by decide) rfl ?_
  exact H
set_option maxHeartbeats 2000000 in
set_option maxRecDepth 4000 in
theorem VX10_sendPiecesD_28 {l : Launch} {G : Gx} {d : Nat} {Q : Option Value → Hp → Prop} {sh : Sh} {fR : FRt} {x p w : Nat} {f : FI} {g : FL} {a2 : Int32} {a3 : Int32} (hs : StW sh fR x) (hp : fR x 7 = some p) (hP : StPl sh fR p) (hw : sh[w]? = some (1, 1) ∧ 0 < w)
    (H : (((nI 512) ≤ a3 → Q (some (.int (nI 0))) (sh, f, g, fR)) ∧ (¬ (nI 512) ≤ a3 → (((nI 512) ≤ (f (x + 5) 8) → Q (some (.int (nI 0))) (sh, f, g, fR)) ∧ (¬ (nI 512) ≤ (f (x + 5) 8) → ((¬ (f (x + 20) 2) = 0 → LpX10_sendPiecesD_68 l G d Q sh fR x p w f g a2 a3) ∧ ((f (x + 20) 2) = 0 → (((f x 9) < a2 → LpX10_sendPiecesD_68 l G d Q sh fR x p w f g a2 a3) ∧ (¬ (f x 9) < a2 → Q (some (.int (nI 1))) (sh, f, g, fR)))))))))) :
    LpX10_sendPiecesD_28 l G d Q sh fR x p w f g a2 a3 := by
  refine S_iload_n (pc := 28) dX10_sendPieces_28 rfl rfl ?_
  refine S_sipush (pc := 29) dX10_sendPieces_29 sp512 ?_
  refine S_icmp_ge (pc := 32) (tgt := 176) dX10_sendPieces_32 rfl (fun hc6 => ?_) (fun hc6 => ?_)
  · replace H := H.1 hc6
    refine S_iconst (pc := 176) dX10_sendPieces_176 ic0 ?_
    exact S_zreturn dX10_sendPieces_177 rfl (Or.inl rfl) H
  · replace H := H.2 hc6
    refine S_aload_n (pc := 35) dX10_sendPieces_35 rfl rfl ?_
    refine S_getR (pc := 36) dX10_sendPieces_36 flX10_27 (sW_0 hs) rfl (rW_0_2 hs) ?_
    refine S_get (pc := 39) (v := .int (f (x + 5) 8)) dX10_sendPieces_39 flX10_88 (sW_5 hs) rfl ?_
    refine S_sipush (pc := 42) dX10_sendPieces_42 sp512 ?_
    refine S_icmp_ge (pc := 45) (tgt := 176) dX10_sendPieces_45 rfl (fun hc7 => ?_) (fun hc7 => ?_)
    · replace H := H.1 hc7
      refine S_iconst (pc := 176) dX10_sendPieces_176 ic0 ?_
      exact S_zreturn dX10_sendPieces_177 rfl (Or.inl rfl) H
    · replace H := H.2 hc7
      refine S_aload_n (pc := 48) dX10_sendPieces_48 rfl rfl ?_
      refine S_getR (pc := 49) dX10_sendPieces_49 flX10_41 (sW_0 hs) rfl (rW_0_4 hs) ?_
      refine S_get (pc := 52) (v := .int (f (x + 20) 2)) dX10_sendPieces_52 flX10_92 (sW_20 hs) rfl ?_
      refine S_if_ne (pc := 55) (tgt := 68) dX10_sendPieces_55 rfl (fun hc8 => ?_) (fun hc8 => ?_)
      · replace H := H.1 hc8
        exact H
      · replace H := H.2 hc8
        refine S_aload_n (pc := 58) dX10_sendPieces_58 rfl rfl ?_
        refine S_get (pc := 59) (v := .int (f x 9)) dX10_sendPieces_59 flX10_67 (sW_0 hs) rfl ?_
        refine S_iload_n (pc := 62) dX10_sendPieces_62 rfl rfl ?_
        refine S_icmp_lt (pc := 63) (tgt := 68) dX10_sendPieces_63 rfl (fun hc9 => ?_) (fun hc9 => ?_)
        · replace H := H.1 hc9
          exact H
        · replace H := H.2 hc9
          refine S_iconst (pc := 66) dX10_sendPieces_66 ic1 ?_
          exact S_zreturn dX10_sendPieces_67 rfl (Or.inr rfl) H
set_option maxHeartbeats 2000000 in
set_option maxRecDepth 4000 in
theorem VX10_sendPiecesD_68 {l : Launch} {G : Gx} {d : Nat} {Q : Option Value → Hp → Prop} {sh : Sh} {fR : FRt} {x p w : Nat} {f : FI} {g : FL} {a2 : Int32} {a3 : Int32} (hs : StW sh fR x) (hp : fR x 7 = some p) (hP : StPl sh fR p) (hw : sh[w]? = some (1, 1) ∧ 0 < w)
    (H : Cl l G (d + 3) 0 0 mX10_pick [.ref x, .int (-1)] (sh, f, g, fR) (qi sh fR fun x12 f10 g11 => ((¬ x12 = (-1) → (((f10 (x + 20) 2) ≤ 0 → Cl l G (d + 3) 0 0 mJ_min [.int (f10 p 2), .int (a2 - (f10 x 9))] (sh, f10, g11, fR) (qi sh fR fun x17 f15 g16 => Cl l G (d + 3) 0 0 mX10_send [.ref x, .int x12, .int (f15 x 9), .int x17, .ref w] (sh, f15, g16, fR) (qv sh fR fun f18 g19 => LpX10_sendPiecesD_170 l G d Q sh fR x p w (up2 f18 x 9 ((f18 x 9) + x17)) g19 a2 a3))) ∧ (¬ (f10 (x + 20) 2) ≤ 0 → Cl l G (d + 3) 0 0 mX10_send [.ref x, .int x12, .int (f10 (x + 21) 0), .int (f10 (x + 22) 0), .ref w] (sh, f10, g11, fR) (qv sh fR fun f20 g21 => Cl l G (d + 3) 0 0 mX5_removeFirst [.ref (x + 20)] (sh, f20, g21, fR) (qv sh fR fun f22 g23 => LpX10_sendPiecesD_170 l G d Q sh fR x p w f22 g23 a2 a3))))) ∧ (x12 = (-1) → Q (some (.int (nI 0))) (sh, f10, g11, fR))))) :
    LpX10_sendPiecesD_68 l G d Q sh fR x p w f g a2 a3 := by
  refine S_aload_n (pc := 68) dX10_sendPieces_68 rfl rfl ?_
  refine S_iconst (pc := 69) dX10_sendPieces_69 icm1 ?_
  refine S_callV (As := [.int (-1)]) (mc := 0) (ms := 0) (pc := 70) dX10_sendPieces_70 miX10_pick mvX10_pick mlX10_324 rfl (sW_0 hs) rfl rfl rfl (RmOK.of rfl) H ?_
  rintro _ _ ⟨x12, f10, g11, rfl, rfl, H⟩
  show WP _ _ _ _ _ _ _ 73 [some (.ref x), some (.ref w), some (.int a2), some (.int a3), none, none] [.int x12] (sh, f10, g11, fR)
  refine S_istore (pc := 73) (L' := [some (.ref x), some (.ref w), some (.int a2), some (.int a3), some (.int x12), none]) dX10_sendPieces_73 (by decide) rfl ?_
  refine S_iload (pc := 75) dX10_sendPieces_75 rfl ?_
  refine S_iconst (pc := 77) dX10_sendPieces_77 icm1 ?_
  refine S_icmp_ne (pc := 78) (tgt := 83) dX10_sendPieces_78 rfl (fun hc13 => ?_) (fun hc13 => ?_)
  · replace H := H.1 hc13
    refine S_aload_n (pc := 83) dX10_sendPieces_83 rfl rfl ?_
    refine S_getR (pc := 84) dX10_sendPieces_84 flX10_41 (sW_0 hs) rfl (rW_0_4 hs) ?_
    refine S_get (pc := 87) (v := .int (f10 (x + 20) 2)) dX10_sendPieces_87 flX10_92 (sW_20 hs) rfl ?_
    refine S_if_le (pc := 90) (tgt := 128) dX10_sendPieces_90 rfl (fun hc14 => ?_) (fun hc14 => ?_)
    · replace H := H.1 hc14
      refine S_aload_n (pc := 128) dX10_sendPieces_128 rfl rfl ?_
      refine S_getR (pc := 129) dX10_sendPieces_129 flX10_58 (sW_0 hs) rfl hp ?_
      refine S_get (pc := 132) (v := .int (f10 p 2)) dX10_sendPieces_132 flX10_336 (sL_0 hP) rfl ?_
      refine S_iload_n (pc := 135) dX10_sendPieces_135 rfl rfl ?_
      refine S_aload_n (pc := 136) dX10_sendPieces_136 rfl rfl ?_
      refine S_get (pc := 137) (v := .int (f10 x 9)) dX10_sendPieces_137 flX10_67 (sW_0 hs) rfl ?_
      refine S_isub (pc := 140) dX10_sendPieces_140 ?_
      refine S_callSJ (As := [.int (f10 p 2), .int (a2 - (f10 x 9))]) (mc := 0) (ms := 0) (pc := 141) dX10_sendPieces_141 miJ_min mvJ_min mlX10_156 rfl rfl (RmOK.of rfl) H ?_
      rintro _ _ ⟨x17, f15, g16, rfl, rfl, H⟩
      show WP _ _ _ _ _ _ _ 144 [some (.ref x), some (.ref w), some (.int a2), some (.int a3), some (.int x12), none] [.int x17] (sh, f15, g16, fR)
      refine S_istore (pc := 144) (L' := [some (.ref x), some (.ref w), some (.int a2), some (.int a3), some (.int x12), some (.int x17)]) dX10_sendPieces_144 (by decide) rfl ?_
      refine S_aload_n (pc := 146) dX10_sendPieces_146 rfl rfl ?_
      refine S_iload (pc := 147) dX10_sendPieces_147 rfl ?_
      refine S_aload_n (pc := 149) dX10_sendPieces_149 rfl rfl ?_
      refine S_get (pc := 150) (v := .int (f15 x 9)) dX10_sendPieces_150 flX10_67 (sW_0 hs) rfl ?_
      refine S_iload (pc := 153) dX10_sendPieces_153 rfl ?_
      refine S_aload_n (pc := 155) dX10_sendPieces_155 rfl rfl ?_
      refine S_callV (As := [.int x12, .int (f15 x 9), .int x17, .ref w]) (mc := 0) (ms := 0) (pc := 156) dX10_sendPieces_156 miX10_send mvX10_send mlX10_329 rfl (sW_0 hs) rfl rfl rfl (RmOK.of rfl) H ?_
      rintro _ _ ⟨f18, g19, rfl, rfl, H⟩
      show WP _ _ _ _ _ _ _ 159 [some (.ref x), some (.ref w), some (.int a2), some (.int a3), some (.int x12), some (.int x17)] [] (sh, f18, g19, fR)
      refine S_aload_n (pc := 159) dX10_sendPieces_159 rfl rfl ?_
      refine S_dup (pc := 160) dX10_sendPieces_160 rfl ?_
      refine S_get (pc := 161) (v := .int (f18 x 9)) dX10_sendPieces_161 flX10_67 (sW_0 hs) rfl ?_
      refine S_iload (pc := 164) dX10_sendPieces_164 rfl ?_
      refine S_iadd (pc := 166) dX10_sendPieces_166 ?_
      refine S_putI (pc := 167) dX10_sendPieces_167 flX10_67 (sW_0 hs) hs.2.2 (nf_10_9) rfl rfl (fun _ => rfl) ?_
      exact S_weak (L' := [some (.ref x), some (.ref w), some (.int a2), some (.int a3), none, none]) (ls_e (ls_e (ls_e (ls_e (ls_n (ls_n ls_0)))))) H
    · replace H := H.2 hc14
      refine S_aload_n (pc := 93) dX10_sendPieces_93 rfl rfl ?_
      refine S_iload (pc := 94) dX10_sendPieces_94 rfl ?_
      refine S_aload_n (pc := 96) dX10_sendPieces_96 rfl rfl ?_
      refine S_getR (pc := 97) dX10_sendPieces_97 flX10_41 (sW_0 hs) rfl (rW_0_4 hs) ?_
      refine S_getR (pc := 100) dX10_sendPieces_100 flX10_327 (sW_20 hs) rfl (rW_20_0 hs) ?_
      refine S_iconst (pc := 103) dX10_sendPieces_103 ic0 ?_
      refine S_iald (pc := 104) dX10_sendPieces_104 (sW_21 hs) (vp_in_nI (by decide) (by decide)) ?_
      show WP _ _ _ _ _ _ _ 105 _ (.int (f10 (x + 21) 0) :: _) _
      refine S_aload_n (pc := 105) dX10_sendPieces_105 rfl rfl ?_
      refine S_getR (pc := 106) dX10_sendPieces_106 flX10_41 (sW_0 hs) rfl (rW_0_4 hs) ?_
      refine S_getR (pc := 109) dX10_sendPieces_109 flX10_328 (sW_20 hs) rfl (rW_20_1 hs) ?_
      refine S_iconst (pc := 112) dX10_sendPieces_112 ic0 ?_
      refine S_iald (pc := 113) dX10_sendPieces_113 (sW_22 hs) (vp_in_nI (by decide) (by decide)) ?_
      show WP _ _ _ _ _ _ _ 114 _ (.int (f10 (x + 22) 0) :: _) _
      refine S_aload_n (pc := 114) dX10_sendPieces_114 rfl rfl ?_
      refine S_callV (As := [.int x12, .int (f10 (x + 21) 0), .int (f10 (x + 22) 0), .ref w]) (mc := 0) (ms := 0) (pc := 115) dX10_sendPieces_115 miX10_send mvX10_send mlX10_329 rfl (sW_0 hs) rfl rfl rfl (RmOK.of rfl) H ?_
      rintro _ _ ⟨f20, g21, rfl, rfl, H⟩
      show WP _ _ _ _ _ _ _ 118 [some (.ref x), some (.ref w), some (.int a2), some (.int a3), some (.int x12), none] [] (sh, f20, g21, fR)
      refine S_aload_n (pc := 118) dX10_sendPieces_118 rfl rfl ?_
      refine S_getR (pc := 119) dX10_sendPieces_119 flX10_41 (sW_0 hs) rfl (rW_0_4 hs) ?_
      refine S_callV (As := []) (mc := 0) (ms := 0) (pc := 122) dX10_sendPieces_122 miX5_removeFirst mvX5_removeFirst mlX10_333 rfl (sW_20 hs) rfl rfl rfl (RmOK.of rfl) H ?_
      rintro _ _ ⟨f22, g23, rfl, rfl, H⟩
      show WP _ _ _ _ _ _ _ 125 [some (.ref x), some (.ref w), some (.int a2), some (.int a3), some (.int x12), none] [] (sh, f22, g23, fR)
      refine S_goto (pc := 125) (tgt := 170) dX10_sendPieces_125 rfl ?_
      exact S_weak (L' := [some (.ref x), some (.ref w), some (.int a2), some (.int a3), none, none]) (ls_e (ls_e (ls_e (ls_e (ls_n (ls_e ls_0)))))) H
  · replace H := H.2 hc13
    refine S_iconst (pc := 81) dX10_sendPieces_81 ic0 ?_
    exact S_zreturn dX10_sendPieces_82 rfl (Or.inl rfl) H
set_option maxHeartbeats 2000000 in
set_option maxRecDepth 4000 in
theorem VX10_sendPiecesD_170 {l : Launch} {G : Gx} {d : Nat} {Q : Option Value → Hp → Prop} {sh : Sh} {fR : FRt} {x p w : Nat} {f : FI} {g : FL} {a2 : Int32} {a3 : Int32} (hs : StW sh fR x) (hp : fR x 7 = some p) (hP : StPl sh fR p) (hw : sh[w]? = some (1, 1) ∧ 0 < w)
    (H : LpX10_sendPiecesD_28 l G d Q sh fR x p w f g a2 (a3 + nI 1)) :
    LpX10_sendPiecesD_170 l G d Q sh fR x p w f g a2 a3 := by
  refine S_iinc (pc := 170) (v := nI 1) (L' := [some (.ref x), some (.ref w), some (.int a2), some (.int (a3 + nI 1)), none, none]) dX10_sendPieces_170 rfl ic1 rfl ?_
  refine S_goto (pc := 173) (tgt := 28) dX10_sendPieces_173 rfl ?_
  exact H
abbrev LpX10_penaliseN_39 (l : Launch) (G : Gx) (d : Nat) (Q : Option Value → Hp → Prop) (sh : Sh) (fR : FRt) (x p : Nat) (f : FI) (g : FL)  : Prop := WP l G (Zq G 0 0 Q) mX10_penalise (rmd (d + 4) 0 0) 0 0 39 [some (.ref x), some (.null), none, none, none] [] (sh, f, g, fR)
set_option maxHeartbeats 2000000 in
set_option maxRecDepth 4000 in
theorem VX10_penaliseN {l : Launch} {G : Gx} {d : Nat} {Q : Option Value → Hp → Prop} {sh : Sh} {fR : FRt} {x p : Nat} {f : FI} {g : FL}  (hs : StW sh fR x) (hp : fR x 7 = some p) (hP : StPl sh fR p)
    (H : ((¬ (f x 9) = (f x 11) → LpX10_penaliseN_39 l G d Q sh fR x p f g) ∧ ((f x 9) = (f x 11) → (((f p 1) ≤ (f x 9) → LpX10_penaliseN_39 l G d Q sh fR x p f g) ∧ (¬ (f p 1) ≤ (f x 9) → Cl l G (d + 3) 0 0 mX2_firstWith [.ref (x + 5), .int (f x 10)] (sh, f, g, fR) (qi sh fR fun x5 f3 g4 => ((¬ x5 = (-1) → inb x5 512 ∧ (∀ w8 : Int32, w8 = f3 (x + 6) x5.toNatClampNeg → Cl l G (d + 3) 0 0 mX10_pick [.ref x, .int w8] (sh, f3, g4, fR) (qi sh fR fun x12 f10 g11 => ((¬ x12 = (-1) → inb x5 512 ∧ inb x5 512 ∧ Cl l G (d + 3) 0 0 mX10_send [.ref x, .int x12, .int (f10 (x + 8) x5.toNatClampNeg), .int (f10 (x + 9) x5.toNatClampNeg), .null] (sh, f10, g11, fR) (qv sh fR fun f16 g17 => inb w8 4 ∧ (∃ r19, fR (x + 1) w8.toNatClampNeg = some r19 ∧ sh[r19]? = some (8, 8) ∧ 0 < r19 ∧ Cl l G (d + 3) 0 0 mX8_halve [.ref r19] (sh, f16, g17, fR) (qv sh fR fun f23 g24 => inb x5 512 ∧ Cl l G (d + 3) 0 0 mX4_add [.ref (x + 23), .int (nI 1), .int w8, .int (f23 (x + 8) x5.toNatClampNeg)] (sh, f23, g24, fR) (qv sh fR fun f26 g27 => Q none (sh, f26, g27, fR)))))) ∧ (x12 = (-1) → Q none (sh, f10, g11, fR)))))) ∧ (x5 = (-1) → Q none (sh, f3, g4, fR))))))))) :
    Cl l G (d + 4) 0 0 mX10_penalise [.ref x, .null] (sh, f, g, fR) Q := by
  refine Cl.of (L0 := [some (.ref x), some (.null), none, none, none]) miX10_penalise rfl rfl ?_
  refine S_aload_n (pc := 0) dX10_penalise_0 rfl rfl ?_
  refine S_get (pc := 1) (v := .int (f x 9)) dX10_penalise_1 flX10_67 (sW_0 hs) rfl ?_
  refine S_aload_n (pc := 4) dX10_penalise_4 rfl rfl ?_
  refine S_get (pc := 5) (v := .int (f x 11)) dX10_penalise_5 flX10_78 (sW_0 hs) rfl ?_
  refine S_icmp_ne (pc := 8) (tgt := 39) dX10_penalise_8 rfl (fun hc1 => ?_) (fun hc1 => ?_)
  · replace H := H.1 hc1
    exact H
  · replace H := H.2 hc1
    refine S_aload_n (pc := 11) dX10_penalise_11 rfl rfl ?_
    refine S_get (pc := 12) (v := .int (f x 9)) dX10_penalise_12 flX10_67 (sW_0 hs) rfl ?_
    refine S_aload_n (pc := 15) dX10_penalise_15 rfl rfl ?_
    refine S_getR (pc := 16) dX10_penalise_16 flX10_58 (sW_0 hs) rfl hp ?_
    refine S_get (pc := 19) (v := .int (f p 1)) dX10_penalise_19 flX10_323 (sL_0 hP) rfl ?_
    refine S_icmp_ge (pc := 22) (tgt := 39) dX10_penalise_22 rfl (fun hc2 => ?_) (fun hc2 => ?_)
    · replace H := H.1 hc2
      exact H
    · replace H := H.2 hc2
      refine S_aload_n (pc := 25) dX10_penalise_25 rfl rfl ?_
      refine S_getR (pc := 26) dX10_penalise_26 flX10_27 (sW_0 hs) rfl (rW_0_2 hs) ?_
      refine S_aload_n (pc := 29) dX10_penalise_29 rfl rfl ?_
      refine S_get (pc := 30) (v := .int (f x 10)) dX10_penalise_30 flX10_70 (sW_0 hs) rfl ?_
      refine S_callV (As := [.int (f x 10)]) (mc := 0) (ms := 0) (pc := 33) dX10_penalise_33 miX2_firstWith mvX2_firstWith mlX10_339 rfl (sW_5 hs) rfl rfl rfl (RmOK.of rfl) H ?_
      rintro _ _ ⟨x5, f3, g4, rfl, rfl, H⟩
      show WP _ _ _ _ _ _ _ 36 [some (.ref x), some (.null), none, none, none] [.int x5] (sh, f3, g4, fR)
      refine S_goto (pc := 36) (tgt := 40) dX10_penalise_36 rfl ?_
      refine S_istore_n (pc := 40) (L' := [some (.ref x), some (.null), some (.int x5), none, none]) dX10_penalise_40 rfl (by decide) rfl ?_
      refine S_iload_n (pc := 41) dX10_penalise_41 rfl rfl ?_
      refine S_iconst (pc := 42) dX10_penalise_42 icm1 ?_
      refine S_icmp_ne (pc := 43) (tgt := 47) dX10_penalise_43 rfl (fun hc6 => ?_) (fun hc6 => ?_)
      · replace H := H.1 hc6
        refine S_aload_n (pc := 47) dX10_penalise_47 rfl rfl ?_
        refine S_getR (pc := 48) dX10_penalise_48 flX10_27 (sW_0 hs) rfl (rW_0_2 hs) ?_
        refine S_getR (pc := 51) dX10_penalise_51 flX10_187 (sW_5 hs) rfl (rW_5_0 hs) ?_
        refine S_iload_n (pc := 54) dX10_penalise_54 rfl rfl ?_
        obtain ⟨hb7, H⟩ := H
        refine S_iald (pc := 55) dX10_penalise_55 (sW_6 hs) hb7 ?_
        refine S_namei (fun w8 e9 => ?_)
        replace H := H w8 e9
        refine S_istore_n (pc := 56) (L' := [some (.ref x), some (.null), some (.int x5), some (.int w8), none]) dX10_penalise_56 rfl (by decide) rfl ?_
        refine S_aload_n (pc := 57) dX10_penalise_57 rfl rfl ?_
        refine S_iload_n (pc := 58) dX10_penalise_58 rfl rfl ?_
        refine S_callV (As := [.int w8]) (mc := 0) (ms := 0) (pc := 59) dX10_penalise_59 miX10_pick mvX10_pick mlX10_324 rfl (sW_0 hs) rfl rfl rfl (RmOK.of rfl) H ?_
        rintro _ _ ⟨x12, f10, g11, rfl, rfl, H⟩
        show WP _ _ _ _ _ _ _ 62 [some (.ref x), some (.null), some (.int x5), some (.int w8), none] [.int x12] (sh, f10, g11, fR)
        refine S_istore (pc := 62) (L' := [some (.ref x), some (.null), some (.int x5), some (.int w8), some (.int x12)]) dX10_penalise_62 (by decide) rfl ?_
        refine S_iload (pc := 64) dX10_penalise_64 rfl ?_
        refine S_iconst (pc := 66) dX10_penalise_66 icm1 ?_
        refine S_icmp_ne (pc := 67) (tgt := 71) dX10_penalise_67 rfl (fun hc13 => ?_) (fun hc13 => ?_)
        · replace H := H.1 hc13
          refine S_aload_n (pc := 71) dX10_penalise_71 rfl rfl ?_
          refine S_iload (pc := 72) dX10_penalise_72 rfl ?_
          refine S_aload_n (pc := 74) dX10_penalise_74 rfl rfl ?_
          refine S_getR (pc := 75) dX10_penalise_75 flX10_27 (sW_0 hs) rfl (rW_0_2 hs) ?_
          refine S_getR (pc := 78) dX10_penalise_78 flX10_193 (sW_5 hs) rfl (rW_5_2 hs) ?_
          refine S_iload_n (pc := 81) dX10_penalise_81 rfl rfl ?_
          obtain ⟨hb14, H⟩ := H
          refine S_iald (pc := 82) dX10_penalise_82 (sW_8 hs) hb14 ?_
          refine S_aload_n (pc := 83) dX10_penalise_83 rfl rfl ?_
          refine S_getR (pc := 84) dX10_penalise_84 flX10_27 (sW_0 hs) rfl (rW_0_2 hs) ?_
          refine S_getR (pc := 87) dX10_penalise_87 flX10_196 (sW_5 hs) rfl (rW_5_3 hs) ?_
          refine S_iload_n (pc := 90) dX10_penalise_90 rfl rfl ?_
          obtain ⟨hb15, H⟩ := H
          refine S_iald (pc := 91) dX10_penalise_91 (sW_9 hs) hb15 ?_
          refine S_aload_nN (pc := 92) dX10_penalise_92 rfl rfl ?_
          refine S_callV (As := [.int x12, .int (f10 (x + 8) x5.toNatClampNeg), .int (f10 (x + 9) x5.toNatClampNeg), .null]) (mc := 0) (ms := 0) (pc := 93) dX10_penalise_93 miX10_send mvX10_send mlX10_329 rfl (sW_0 hs) rfl rfl rfl (RmOK.of rfl) H ?_
          rintro _ _ ⟨f16, g17, rfl, rfl, H⟩
          show WP _ _ _ _ _ _ _ 96 [some (.ref x), some (.null), some (.int x5), some (.int w8), some (.int x12)] [] (sh, f16, g17, fR)
          refine S_aload_n (pc := 96) dX10_penalise_96 rfl rfl ?_
          refine S_getR (pc := 97) dX10_penalise_97 flX10_11 (sW_0 hs) rfl (rW_0_0 hs) ?_
          refine S_iload_n (pc := 100) dX10_penalise_100 rfl rfl ?_
          obtain ⟨hb18, H⟩ := H
          obtain ⟨r19, e20, s21, p22, H⟩ := H
          refine S_aald24 (pc := 101) dX10_penalise_101 (sW_1 hs) hb18 e20 ?_
          refine S_callV (As := []) (mc := 0) (ms := 0) (pc := 102) dX10_penalise_102 miX8_halve mvX8_halve mlX10_319 rfl s21 rfl rfl rfl (RmOK.of rfl) H ?_
          rintro _ _ ⟨f23, g24, rfl, rfl, H⟩
          show WP _ _ _ _ _ _ _ 105 [some (.ref x), some (.null), some (.int x5), some (.int w8), some (.int x12)] [] (sh, f23, g24, fR)
          refine S_aload_n (pc := 105) dX10_penalise_105 rfl rfl ?_
          refine S_getR (pc := 106) dX10_penalise_106 flX10_48 (sW_0 hs) rfl (rW_0_5 hs) ?_
          refine S_iconst (pc := 109) dX10_penalise_109 ic1 ?_
          refine S_iload_n (pc := 110) dX10_penalise_110 rfl rfl ?_
          refine S_aload_n (pc := 111) dX10_penalise_111 rfl rfl ?_
          refine S_getR (pc := 112) dX10_penalise_112 flX10_27 (sW_0 hs) rfl (rW_0_2 hs) ?_
          refine S_getR (pc := 115) dX10_penalise_115 flX10_193 (sW_5 hs) rfl (rW_5_2 hs) ?_
          refine S_iload_n (pc := 118) dX10_penalise_118 rfl rfl ?_
          obtain ⟨hb25, H⟩ := H
          refine S_iald (pc := 119) dX10_penalise_119 (sW_8 hs) hb25 ?_
          refine S_callV (As := [.int (nI 1), .int w8, .int (f23 (x + 8) x5.toNatClampNeg)]) (mc := 0) (ms := 0) (pc := 120) dX10_penalise_120 miX4_add mvX4_add mlX10_179 rfl (sW_23 hs) rfl rfl rfl (RmOK.of rfl) H ?_
          rintro _ _ ⟨f26, g27, rfl, rfl, H⟩
          show WP _ _ _ _ _ _ _ 123 [some (.ref x), some (.null), some (.int x5), some (.int w8), some (.int x12)] [] (sh, f26, g27, fR)
          exact S_vreturn dX10_penalise_123 rfl H
        · replace H := H.2 hc13
          exact S_vreturn dX10_penalise_70 rfl H
      · replace H := H.2 hc6
        exact S_vreturn dX10_penalise_46 rfl H
set_option maxHeartbeats 2000000 in
set_option maxRecDepth 4000 in
theorem VX10_penaliseN_39 {l : Launch} {G : Gx} {d : Nat} {Q : Option Value → Hp → Prop} {sh : Sh} {fR : FRt} {x p : Nat} {f : FI} {g : FL}  (hs : StW sh fR x) (hp : fR x 7 = some p) (hP : StPl sh fR p)
    (H : Q none (sh, f, g, fR)) :
    LpX10_penaliseN_39 l G d Q sh fR x p f g  := by
  refine S_iconst (pc := 39) dX10_penalise_39 icm1 ?_
  refine S_istore_n (pc := 40) (L' := [some (.ref x), some (.null), some (.int (-1)), none, none]) dX10_penalise_40 rfl (by decide) rfl ?_
  refine S_iload_n (pc := 41) dX10_penalise_41 rfl rfl ?_
  refine S_iconst (pc := 42) dX10_penalise_42 icm1 ?_
  refine S_icmp_ne (pc := 43) (tgt := 47) dX10_penalise_43 rfl (fun hc28 => by first | exact absurd hc28 (by decide) | exact absurd (by decide) hc28) (fun _ => ?_)
  exact S_vreturn dX10_penalise_46 rfl H
abbrev LpX10_penaliseD_39 (l : Launch) (G : Gx) (d : Nat) (Q : Option Value → Hp → Prop) (sh : Sh) (fR : FRt) (x p w : Nat) (f : FI) (g : FL)  : Prop := WP l G (Zq G 0 0 Q) mX10_penalise (rmd (d + 4) 0 0) 0 0 39 [some (.ref x), some (.ref w), none, none, none] [] (sh, f, g, fR)
set_option maxHeartbeats 2000000 in
set_option maxRecDepth 4000 in
theorem VX10_penaliseD {l : Launch} {G : Gx} {d : Nat} {Q : Option Value → Hp → Prop} {sh : Sh} {fR : FRt} {x p w : Nat} {f : FI} {g : FL}  (hs : StW sh fR x) (hp : fR x 7 = some p) (hP : StPl sh fR p) (hw : sh[w]? = some (1, 1) ∧ 0 < w)
    (H : ((¬ (f x 9) = (f x 11) → LpX10_penaliseD_39 l G d Q sh fR x p w f g) ∧ ((f x 9) = (f x 11) → (((f p 1) ≤ (f x 9) → LpX10_penaliseD_39 l G d Q sh fR x p w f g) ∧ (¬ (f p 1) ≤ (f x 9) → Cl l G (d + 3) 0 0 mX2_firstWith [.ref (x + 5), .int (f x 10)] (sh, f, g, fR) (qi sh fR fun x5 f3 g4 => ((¬ x5 = (-1) → inb x5 512 ∧ (∀ w8 : Int32, w8 = f3 (x + 6) x5.toNatClampNeg → Cl l G (d + 3) 0 0 mX10_pick [.ref x, .int w8] (sh, f3, g4, fR) (qi sh fR fun x12 f10 g11 => ((¬ x12 = (-1) → inb x5 512 ∧ inb x5 512 ∧ Cl l G (d + 3) 0 0 mX10_send [.ref x, .int x12, .int (f10 (x + 8) x5.toNatClampNeg), .int (f10 (x + 9) x5.toNatClampNeg), .ref w] (sh, f10, g11, fR) (qv sh fR fun f16 g17 => inb w8 4 ∧ (∃ r19, fR (x + 1) w8.toNatClampNeg = some r19 ∧ sh[r19]? = some (8, 8) ∧ 0 < r19 ∧ Cl l G (d + 3) 0 0 mX8_halve [.ref r19] (sh, f16, g17, fR) (qv sh fR fun f23 g24 => inb x5 512 ∧ Cl l G (d + 3) 0 0 mX4_add [.ref (x + 23), .int (nI 1), .int w8, .int (f23 (x + 8) x5.toNatClampNeg)] (sh, f23, g24, fR) (qv sh fR fun f26 g27 => Q none (sh, f26, g27, fR)))))) ∧ (x12 = (-1) → Q none (sh, f10, g11, fR)))))) ∧ (x5 = (-1) → Q none (sh, f3, g4, fR))))))))) :
    Cl l G (d + 4) 0 0 mX10_penalise [.ref x, .ref w] (sh, f, g, fR) Q := by
  refine Cl.of (L0 := [some (.ref x), some (.ref w), none, none, none]) miX10_penalise rfl rfl ?_
  refine S_aload_n (pc := 0) dX10_penalise_0 rfl rfl ?_
  refine S_get (pc := 1) (v := .int (f x 9)) dX10_penalise_1 flX10_67 (sW_0 hs) rfl ?_
  refine S_aload_n (pc := 4) dX10_penalise_4 rfl rfl ?_
  refine S_get (pc := 5) (v := .int (f x 11)) dX10_penalise_5 flX10_78 (sW_0 hs) rfl ?_
  refine S_icmp_ne (pc := 8) (tgt := 39) dX10_penalise_8 rfl (fun hc1 => ?_) (fun hc1 => ?_)
  · replace H := H.1 hc1
    exact H
  · replace H := H.2 hc1
    refine S_aload_n (pc := 11) dX10_penalise_11 rfl rfl ?_
    refine S_get (pc := 12) (v := .int (f x 9)) dX10_penalise_12 flX10_67 (sW_0 hs) rfl ?_
    refine S_aload_n (pc := 15) dX10_penalise_15 rfl rfl ?_
    refine S_getR (pc := 16) dX10_penalise_16 flX10_58 (sW_0 hs) rfl hp ?_
    refine S_get (pc := 19) (v := .int (f p 1)) dX10_penalise_19 flX10_323 (sL_0 hP) rfl ?_
    refine S_icmp_ge (pc := 22) (tgt := 39) dX10_penalise_22 rfl (fun hc2 => ?_) (fun hc2 => ?_)
    · replace H := H.1 hc2
      exact H
    · replace H := H.2 hc2
      refine S_aload_n (pc := 25) dX10_penalise_25 rfl rfl ?_
      refine S_getR (pc := 26) dX10_penalise_26 flX10_27 (sW_0 hs) rfl (rW_0_2 hs) ?_
      refine S_aload_n (pc := 29) dX10_penalise_29 rfl rfl ?_
      refine S_get (pc := 30) (v := .int (f x 10)) dX10_penalise_30 flX10_70 (sW_0 hs) rfl ?_
      refine S_callV (As := [.int (f x 10)]) (mc := 0) (ms := 0) (pc := 33) dX10_penalise_33 miX2_firstWith mvX2_firstWith mlX10_339 rfl (sW_5 hs) rfl rfl rfl (RmOK.of rfl) H ?_
      rintro _ _ ⟨x5, f3, g4, rfl, rfl, H⟩
      show WP _ _ _ _ _ _ _ 36 [some (.ref x), some (.ref w), none, none, none] [.int x5] (sh, f3, g4, fR)
      refine S_goto (pc := 36) (tgt := 40) dX10_penalise_36 rfl ?_
      refine S_istore_n (pc := 40) (L' := [some (.ref x), some (.ref w), some (.int x5), none, none]) dX10_penalise_40 rfl (by decide) rfl ?_
      refine S_iload_n (pc := 41) dX10_penalise_41 rfl rfl ?_
      refine S_iconst (pc := 42) dX10_penalise_42 icm1 ?_
      refine S_icmp_ne (pc := 43) (tgt := 47) dX10_penalise_43 rfl (fun hc6 => ?_) (fun hc6 => ?_)
      · replace H := H.1 hc6
        refine S_aload_n (pc := 47) dX10_penalise_47 rfl rfl ?_
        refine S_getR (pc := 48) dX10_penalise_48 flX10_27 (sW_0 hs) rfl (rW_0_2 hs) ?_
        refine S_getR (pc := 51) dX10_penalise_51 flX10_187 (sW_5 hs) rfl (rW_5_0 hs) ?_
        refine S_iload_n (pc := 54) dX10_penalise_54 rfl rfl ?_
        obtain ⟨hb7, H⟩ := H
        refine S_iald (pc := 55) dX10_penalise_55 (sW_6 hs) hb7 ?_
        refine S_namei (fun w8 e9 => ?_)
        replace H := H w8 e9
        refine S_istore_n (pc := 56) (L' := [some (.ref x), some (.ref w), some (.int x5), some (.int w8), none]) dX10_penalise_56 rfl (by decide) rfl ?_
        refine S_aload_n (pc := 57) dX10_penalise_57 rfl rfl ?_
        refine S_iload_n (pc := 58) dX10_penalise_58 rfl rfl ?_
        refine S_callV (As := [.int w8]) (mc := 0) (ms := 0) (pc := 59) dX10_penalise_59 miX10_pick mvX10_pick mlX10_324 rfl (sW_0 hs) rfl rfl rfl (RmOK.of rfl) H ?_
        rintro _ _ ⟨x12, f10, g11, rfl, rfl, H⟩
        show WP _ _ _ _ _ _ _ 62 [some (.ref x), some (.ref w), some (.int x5), some (.int w8), none] [.int x12] (sh, f10, g11, fR)
        refine S_istore (pc := 62) (L' := [some (.ref x), some (.ref w), some (.int x5), some (.int w8), some (.int x12)]) dX10_penalise_62 (by decide) rfl ?_
        refine S_iload (pc := 64) dX10_penalise_64 rfl ?_
        refine S_iconst (pc := 66) dX10_penalise_66 icm1 ?_
        refine S_icmp_ne (pc := 67) (tgt := 71) dX10_penalise_67 rfl (fun hc13 => ?_) (fun hc13 => ?_)
        · replace H := H.1 hc13
          refine S_aload_n (pc := 71) dX10_penalise_71 rfl rfl ?_
          refine S_iload (pc := 72) dX10_penalise_72 rfl ?_
          refine S_aload_n (pc := 74) dX10_penalise_74 rfl rfl ?_
          refine S_getR (pc := 75) dX10_penalise_75 flX10_27 (sW_0 hs) rfl (rW_0_2 hs) ?_
          refine S_getR (pc := 78) dX10_penalise_78 flX10_193 (sW_5 hs) rfl (rW_5_2 hs) ?_
          refine S_iload_n (pc := 81) dX10_penalise_81 rfl rfl ?_
          obtain ⟨hb14, H⟩ := H
          refine S_iald (pc := 82) dX10_penalise_82 (sW_8 hs) hb14 ?_
          refine S_aload_n (pc := 83) dX10_penalise_83 rfl rfl ?_
          refine S_getR (pc := 84) dX10_penalise_84 flX10_27 (sW_0 hs) rfl (rW_0_2 hs) ?_
          refine S_getR (pc := 87) dX10_penalise_87 flX10_196 (sW_5 hs) rfl (rW_5_3 hs) ?_
          refine S_iload_n (pc := 90) dX10_penalise_90 rfl rfl ?_
          obtain ⟨hb15, H⟩ := H
          refine S_iald (pc := 91) dX10_penalise_91 (sW_9 hs) hb15 ?_
          refine S_aload_n (pc := 92) dX10_penalise_92 rfl rfl ?_
          refine S_callV (As := [.int x12, .int (f10 (x + 8) x5.toNatClampNeg), .int (f10 (x + 9) x5.toNatClampNeg), .ref w]) (mc := 0) (ms := 0) (pc := 93) dX10_penalise_93 miX10_send mvX10_send mlX10_329 rfl (sW_0 hs) rfl rfl rfl (RmOK.of rfl) H ?_
          rintro _ _ ⟨f16, g17, rfl, rfl, H⟩
          show WP _ _ _ _ _ _ _ 96 [some (.ref x), some (.ref w), some (.int x5), some (.int w8), some (.int x12)] [] (sh, f16, g17, fR)
          refine S_aload_n (pc := 96) dX10_penalise_96 rfl rfl ?_
          refine S_getR (pc := 97) dX10_penalise_97 flX10_11 (sW_0 hs) rfl (rW_0_0 hs) ?_
          refine S_iload_n (pc := 100) dX10_penalise_100 rfl rfl ?_
          obtain ⟨hb18, H⟩ := H
          obtain ⟨r19, e20, s21, p22, H⟩ := H
          refine S_aald24 (pc := 101) dX10_penalise_101 (sW_1 hs) hb18 e20 ?_
          refine S_callV (As := []) (mc := 0) (ms := 0) (pc := 102) dX10_penalise_102 miX8_halve mvX8_halve mlX10_319 rfl s21 rfl rfl rfl (RmOK.of rfl) H ?_
          rintro _ _ ⟨f23, g24, rfl, rfl, H⟩
          show WP _ _ _ _ _ _ _ 105 [some (.ref x), some (.ref w), some (.int x5), some (.int w8), some (.int x12)] [] (sh, f23, g24, fR)
          refine S_aload_n (pc := 105) dX10_penalise_105 rfl rfl ?_
          refine S_getR (pc := 106) dX10_penalise_106 flX10_48 (sW_0 hs) rfl (rW_0_5 hs) ?_
          refine S_iconst (pc := 109) dX10_penalise_109 ic1 ?_
          refine S_iload_n (pc := 110) dX10_penalise_110 rfl rfl ?_
          refine S_aload_n (pc := 111) dX10_penalise_111 rfl rfl ?_
          refine S_getR (pc := 112) dX10_penalise_112 flX10_27 (sW_0 hs) rfl (rW_0_2 hs) ?_
          refine S_getR (pc := 115) dX10_penalise_115 flX10_193 (sW_5 hs) rfl (rW_5_2 hs) ?_
          refine S_iload_n (pc := 118) dX10_penalise_118 rfl rfl ?_
          obtain ⟨hb25, H⟩ := H
          refine S_iald (pc := 119) dX10_penalise_119 (sW_8 hs) hb25 ?_
          refine S_callV (As := [.int (nI 1), .int w8, .int (f23 (x + 8) x5.toNatClampNeg)]) (mc := 0) (ms := 0) (pc := 120) dX10_penalise_120 miX4_add mvX4_add mlX10_179 rfl (sW_23 hs) rfl rfl rfl (RmOK.of rfl) H ?_
          rintro _ _ ⟨f26, g27, rfl, rfl, H⟩
          show WP _ _ _ _ _ _ _ 123 [some (.ref x), some (.ref w), some (.int x5), some (.int w8), some (.int x12)] [] (sh, f26, g27, fR)
          exact S_vreturn dX10_penalise_123 rfl H
        · replace H := H.2 hc13
          exact S_vreturn dX10_penalise_70 rfl H
      · replace H := H.2 hc6
        exact S_vreturn dX10_penalise_46 rfl H
set_option maxHeartbeats 2000000 in
set_option maxRecDepth 4000 in
theorem VX10_penaliseD_39 {l : Launch} {G : Gx} {d : Nat} {Q : Option Value → Hp → Prop} {sh : Sh} {fR : FRt} {x p w : Nat} {f : FI} {g : FL}  (hs : StW sh fR x) (hp : fR x 7 = some p) (hP : StPl sh fR p) (hw : sh[w]? = some (1, 1) ∧ 0 < w)
    (H : Q none (sh, f, g, fR)) :
    LpX10_penaliseD_39 l G d Q sh fR x p w f g  := by
  refine S_iconst (pc := 39) dX10_penalise_39 icm1 ?_
  refine S_istore_n (pc := 40) (L' := [some (.ref x), some (.ref w), some (.int (-1)), none, none]) dX10_penalise_40 rfl (by decide) rfl ?_
  refine S_iload_n (pc := 41) dX10_penalise_41 rfl rfl ?_
  refine S_iconst (pc := 42) dX10_penalise_42 icm1 ?_
  refine S_icmp_ne (pc := 43) (tgt := 47) dX10_penalise_43 rfl (fun hc28 => by first | exact absurd hc28 (by decide) | exact absurd (by decide) hc28) (fun _ => ?_)
  exact S_vreturn dX10_penalise_46 rfl H
abbrev LpX10_pick_17 (l : Launch) (G : Gx) (d : Nat) (Q : Option Value → Hp → Prop) (sh : Sh) (fR : FRt) (x p : Nat) (f : FI) (g : FL) (a1 : Int32) (a2 : Int32) (a3 : Int32) (a4 : Int32) : Prop := WP l G (Zq G 0 0 Q) mX10_pick (rmd (d + 3) 0 0) 0 0 17 [some (.ref x), some (.int a1), some (.int a2), some (.int a3), some (.int a4), none, none] [] (sh, f, g, fR)
abbrev LpX10_pick_148 (l : Launch) (G : Gx) (d : Nat) (Q : Option Value → Hp → Prop) (sh : Sh) (fR : FRt) (x p : Nat) (f : FI) (g : FL) (a1 : Int32) (a2 : Int32) (a3 : Int32) (a4 : Int32) : Prop := WP l G (Zq G 0 0 Q) mX10_pick (rmd (d + 3) 0 0) 0 0 148 [some (.ref x), some (.int a1), some (.int a2), some (.int a3), some (.int a4), none, none] [] (sh, f, g, fR)
abbrev LpX10_pick_142 (l : Launch) (G : Gx) (d : Nat) (Q : Option Value → Hp → Prop) (sh : Sh) (fR : FRt) (x p : Nat) (f : FI) (g : FL) (a1 : Int32) (a4 : Int32) (a6 : Int32) : Prop := WP l G (Zq G 0 0 Q) mX10_pick (rmd (d + 3) 0 0) 0 0 142 [some (.ref x), some (.int a1), none, none, some (.int a4), none, some (.int a6)] [] (sh, f, g, fR)
set_option maxHeartbeats 2000000 in
set_option maxRecDepth 4000 in
theorem VX10_pick {l : Launch} {G : Gx} {d : Nat} {Q : Option Value → Hp → Prop} {sh : Sh} {fR : FRt} {x p : Nat} {f : FI} {g : FL} {a1 : Int32} (hs : StW sh fR x) (hp : fR x 7 = some p) (hP : StPl sh fR p)
    (H : LpX10_pick_17 l G d Q sh fR x p (up2 f (x + 27) 0 (f x 8)) g a1 (-1) (nI 0) (nI 0)) :
    Cl l G (d + 3) 0 0 mX10_pick [.ref x, .int a1] (sh, f, g, fR) Q := by
  refine Cl.of (L0 := [some (.ref x), some (.int a1), none, none, none, none, none]) miX10_pick rfl rfl ?_
  refine S_iconst (pc := 0) dX10_pick_0 icm1 ?_
  refine S_istore_n (pc := 1) (L' := [some (.ref x), some (.int a1), some (.int (-1)), none, none, none, none]) dX10_pick_1 rfl (by decide) rfl ?_
  refine S_iconst (pc := 2) dX10_pick_2 ic0 ?_
  refine S_istore_n (pc := 3) (L' := [some (.ref x), some (.int a1), some (.int (-1)), some (.int (nI 0)), none, none, none]) dX10_pick_3 rfl (by decide) rfl ?_
  refine S_aload_n (pc := 4) dX10_pick_4 rfl rfl ?_
  refine S_getR (pc := 5) dX10_pick_5 flX10_54 (sW_0 hs) rfl (rW_0_6 hs) ?_
  refine S_iconst (pc := 8) dX10_pick_8 ic0 ?_
  refine S_aload_n (pc := 9) dX10_pick_9 rfl rfl ?_
  refine S_get (pc := 10) (v := .int (f x 8)) dX10_pick_10 flX10_63 (sW_0 hs) rfl ?_
  refine S_iast (pc := 13) dX10_pick_13 (sW_27 hs) (Nat.succ_pos _) (vp_in_nI (by decide) (by decide)) ?_
  show WP _ _ _ _ _ _ _ 14 _ _ (sh, (up2 f (x + 27) 0 (f x 8)), g, fR)
  refine S_iconst (pc := 14) dX10_pick_14 ic0 ?_
  refine S_istore (pc := 15) (L' := [some (.ref x), some (.int a1), some (.int (-1)), some (.int (nI 0)), some (.int (nI 0)), none, none]) dX10_pick_15 (by decide) rfl ?_
  exact H
set_option maxHeartbeats 2000000 in
set_option maxRecDepth 4000 in
theorem VX10_pick_17 {l : Launch} {G : Gx} {d : Nat} {Q : Option Value → Hp → Prop} {sh : Sh} {fR : FRt} {x p : Nat} {f : FI} {g : FL} {a1 : Int32} {a2 : Int32} {a3 : Int32} {a4 : Int32} (hs : StW sh fR x) (hp : fR x 7 = some p) (hP : StPl sh fR p)
    (H : (((f p 6) ≤ a4 → Q (some (.int a2)) (sh, f, g, fR)) ∧ (¬ (f p 6) ≤ a4 → inb a4 4 ∧ (∃ r3, fR (x + 1) a4.toNatClampNeg = some r3 ∧ sh[r3]? = some (8, 8) ∧ 0 < r3 ∧ ((a4 = a1 → LpX10_pick_148 l G d Q sh fR x p f g a1 a2 a3 a4) ∧ (¬ a4 = a1 → Cl l G (d + 2) 0 0 mX8_hasRoom [.ref r3] (sh, f, g, fR) (qi sh fR fun x10 f8 g9 => ((x10 = 0 → LpX10_pick_148 l G d Q sh fR x p f8 g9 a1 a2 a3 a4) ∧ (¬ x10 = 0 → Cl l G (d + 2) 0 0 mX3_isTold [.ref (p + 8)] (sh, (up2 (up2 (up2 (up2 f8 (x + 27) 1 a4) (x + 27) 4 (f8 r3 0)) (x + 27) 5 (f8 r3 3)) (x + 27) 6 (f8 r3 5)), g9, fR) (qi sh fR fun x14 f12 g13 => ((x14 = 0 → (∀ w16 : Int32, w16 = f12 r3 0 → ((a2 = (-1) → LpX10_pick_142 l G d Q sh fR x p f12 g13 a1 a4 w16) ∧ (¬ a2 = (-1) → ((a3 ≤ w16 → LpX10_pick_148 l G d Q sh fR x p f12 g13 a1 a2 a3 a4) ∧ (¬ a3 ≤ w16 → LpX10_pick_142 l G d Q sh fR x p f12 g13 a1 a4 w16)))))) ∧ (¬ x14 = 0 → Cl l G (d + 2) 0 0 mX3_valueBy [.ref (p + 8), .ref (x + 27)] (sh, f12, g13, fR) (qi sh fR fun x22 f20 g21 => ((a2 = (-1) → LpX10_pick_142 l G d Q sh fR x p f20 g21 a1 a4 x22) ∧ (¬ a2 = (-1) → ((a3 ≤ x22 → LpX10_pick_148 l G d Q sh fR x p f20 g21 a1 a2 a3 a4) ∧ (¬ a3 ≤ x22 → LpX10_pick_142 l G d Q sh fR x p f20 g21 a1 a4 x22))))))))))))))))) :
    LpX10_pick_17 l G d Q sh fR x p f g a1 a2 a3 a4 := by
  refine S_iload (pc := 17) dX10_pick_17 rfl ?_
  refine S_aload_n (pc := 19) dX10_pick_19 rfl rfl ?_
  refine S_getR (pc := 20) dX10_pick_20 flX10_58 (sW_0 hs) rfl hp ?_
  refine S_get (pc := 23) (v := .int (f p 6)) dX10_pick_23 flX10_102 (sL_0 hP) rfl ?_
  refine S_icmp_ge (pc := 26) (tgt := 154) dX10_pick_26 rfl (fun hc1 => ?_) (fun hc1 => ?_)
  · replace H := H.1 hc1
    refine S_iload_n (pc := 154) dX10_pick_154 rfl rfl ?_
    exact S_ireturn dX10_pick_155 rfl H
  · replace H := H.2 hc1
    refine S_aload_n (pc := 29) dX10_pick_29 rfl rfl ?_
    refine S_getR (pc := 30) dX10_pick_30 flX10_11 (sW_0 hs) rfl (rW_0_0 hs) ?_
    refine S_iload (pc := 33) dX10_pick_33 rfl ?_
    obtain ⟨hb2, H⟩ := H
    obtain ⟨r3, e4, s5, p6, H⟩ := H
    refine S_aald24 (pc := 35) dX10_pick_35 (sW_1 hs) hb2 e4 ?_
    refine S_astore (pc := 36) (L' := [some (.ref x), some (.int a1), some (.int a2), some (.int a3), some (.int a4), some (.ref r3), none]) dX10_pick_36 (by decide) rfl ?_
    refine S_iload (pc := 38) dX10_pick_38 rfl ?_
    refine S_iload_n (pc := 40) dX10_pick_40 rfl rfl ?_
    refine S_icmp_eq (pc := 41) (tgt := 148) dX10_pick_41 rfl (fun hc7 => ?_) (fun hc7 => ?_)
    · replace H := H.1 hc7
      exact S_weak (L' := [some (.ref x), some (.int a1), some (.int a2), some (.int a3), some (.int a4), none, none]) (ls_e (ls_e (ls_e (ls_e (ls_e (ls_n (ls_e ls_0))))))) H
    · replace H := H.2 hc7
      refine S_aload (pc := 44) dX10_pick_44 rfl ?_
      refine S_callV (As := []) (mc := 0) (ms := 0) (pc := 46) dX10_pick_46 miX8_hasRoom mvX8_hasRoom mlX10_342 rfl s5 rfl rfl rfl (RmOK.of rfl) H ?_
      rintro _ _ ⟨x10, f8, g9, rfl, rfl, H⟩
      show WP _ _ _ _ _ _ _ 49 [some (.ref x), some (.int a1), some (.int a2), some (.int a3), some (.int a4), some (.ref r3), none] [.int x10] (sh, f8, g9, fR)
      refine S_if_eq (pc := 49) (tgt := 148) dX10_pick_49 rfl (fun hc11 => ?_) (fun hc11 => ?_)
      · replace H := H.1 hc11
        exact S_weak (L' := [some (.ref x), some (.int a1), some (.int a2), some (.int a3), some (.int a4), none, none]) (ls_e (ls_e (ls_e (ls_e (ls_e (ls_n (ls_e ls_0))))))) H
      · replace H := H.2 hc11
        refine S_aload_n (pc := 52) dX10_pick_52 rfl rfl ?_
        refine S_getR (pc := 53) dX10_pick_53 flX10_54 (sW_0 hs) rfl (rW_0_6 hs) ?_
        refine S_iconst (pc := 56) dX10_pick_56 ic1 ?_
        refine S_iload (pc := 57) dX10_pick_57 rfl ?_
        refine S_iast (pc := 59) dX10_pick_59 (sW_27 hs) (Nat.succ_pos _) (vp_in_nI (by decide) (by decide)) ?_
        show WP _ _ _ _ _ _ _ 60 _ _ (sh, (up2 f8 (x + 27) 1 a4), g9, fR)
        refine S_aload_n (pc := 60) dX10_pick_60 rfl rfl ?_
        refine S_getR (pc := 61) dX10_pick_61 flX10_54 (sW_0 hs) rfl (rW_0_6 hs) ?_
        refine S_iconst (pc := 64) dX10_pick_64 ic4 ?_
        refine S_aload (pc := 65) dX10_pick_65 rfl ?_
        refine S_get (pc := 67) (v := .int ((up2 f8 (x + 27) 1 a4) r3 0)) dX10_pick_67 flX10_137 s5 rfl ?_
        refine S_eqi (x := f8 r3 0) ((up2_r (ne_sh s5 (sW_27 hs) (by decide))).trans rfl) ?_
        refine S_iast (pc := 70) dX10_pick_70 (sW_27 hs) (Nat.succ_pos _) (vp_in_nI (by decide) (by decide)) ?_
        show WP _ _ _ _ _ _ _ 71 _ _ (sh, (up2 (up2 f8 (x + 27) 1 a4) (x + 27) 4 (f8 r3 0)), g9, fR)
        refine S_aload_n (pc := 71) dX10_pick_71 rfl rfl ?_
        refine S_getR (pc := 72) dX10_pick_72 flX10_54 (sW_0 hs) rfl (rW_0_6 hs) ?_
        refine S_iconst (pc := 75) dX10_pick_75 ic5 ?_
        refine S_aload (pc := 76) dX10_pick_76 rfl ?_
        refine S_get (pc := 78) (v := .int ((up2 (up2 f8 (x + 27) 1 a4) (x + 27) 4 (f8 r3 0)) r3 3)) dX10_pick_78 flX10_146 s5 rfl ?_
        refine S_eqi (x := f8 r3 3) ((up2_r (ne_sh s5 (sW_27 hs) (by decide))).trans ((up2_r (ne_sh s5 (sW_27 hs) (by decide))).trans rfl)) ?_
        refine S_iast (pc := 81) dX10_pick_81 (sW_27 hs) (Nat.succ_pos _) (vp_in_nI (by decide) (by decide)) ?_
        show WP _ _ _ _ _ _ _ 82 _ _ (sh, (up2 (up2 (up2 f8 (x + 27) 1 a4) (x + 27) 4 (f8 r3 0)) (x + 27) 5 (f8 r3 3)), g9, fR)
        refine S_aload_n (pc := 82) dX10_pick_82 rfl rfl ?_
        refine S_getR (pc := 83) dX10_pick_83 flX10_54 (sW_0 hs) rfl (rW_0_6 hs) ?_
        refine S_bipush (pc := 86) dX10_pick_86 bp6 ?_
        refine S_aload (pc := 88) dX10_pick_88 rfl ?_
        refine S_get (pc := 90) (v := .int ((up2 (up2 (up2 f8 (x + 27) 1 a4) (x + 27) 4 (f8 r3 0)) (x + 27) 5 (f8 r3 3)) r3 5)) dX10_pick_90 flX10_134 s5 rfl ?_
        refine S_eqi (x := f8 r3 5) ((up2_r (ne_sh s5 (sW_27 hs) (by decide))).trans ((up2_r (ne_sh s5 (sW_27 hs) (by decide))).trans ((up2_r (ne_sh s5 (sW_27 hs) (by decide))).trans rfl))) ?_
        refine S_iast (pc := 93) dX10_pick_93 (sW_27 hs) (Nat.succ_pos _) (vp_in_nI (by decide) (by decide)) ?_
        show WP _ _ _ _ _ _ _ 94 _ _ (sh, (up2 (up2 (up2 (up2 f8 (x + 27) 1 a4) (x + 27) 4 (f8 r3 0)) (x + 27) 5 (f8 r3 3)) (x + 27) 6 (f8 r3 5)), g9, fR)
        refine S_aload_n (pc := 94) dX10_pick_94 rfl rfl ?_
        refine S_getR (pc := 95) dX10_pick_95 flX10_58 (sW_0 hs) rfl hp ?_
        refine S_getR (pc := 98) dX10_pick_98 flX10_345 (sL_0 hP) rfl (rL_0_12 hP) ?_
        refine S_callV (As := []) (mc := 0) (ms := 0) (pc := 101) dX10_pick_101 miX3_isTold mvX3_isTold mlX10_143 rfl (sL_8 hP) rfl rfl rfl (RmOK.of rfl) H ?_
        rintro _ _ ⟨x14, f12, g13, rfl, rfl, H⟩
        show WP _ _ _ _ _ _ _ 104 [some (.ref x), some (.int a1), some (.int a2), some (.int a3), some (.int a4), some (.ref r3), none] [.int x14] (sh, f12, g13, fR)
        refine S_if_eq (pc := 104) (tgt := 124) dX10_pick_104 rfl (fun hc15 => ?_) (fun hc15 => ?_)
        · replace H := H.1 hc15
          refine S_aload (pc := 124) dX10_pick_124 rfl ?_
          refine S_get (pc := 126) (v := .int (f12 r3 0)) dX10_pick_126 flX10_137 s5 rfl ?_
          refine S_namei (fun w16 e17 => ?_)
          replace H := H w16 e17
          refine S_istore (pc := 129) (L' := [some (.ref x), some (.int a1), some (.int a2), some (.int a3), some (.int a4), some (.ref r3), some (.int w16)]) dX10_pick_129 (by decide) rfl ?_
          refine S_iload_n (pc := 131) dX10_pick_131 rfl rfl ?_
          refine S_iconst (pc := 132) dX10_pick_132 icm1 ?_
          refine S_icmp_eq (pc := 133) (tgt := 142) dX10_pick_133 rfl (fun hc18 => ?_) (fun hc18 => ?_)
          · replace H := H.1 hc18
            exact S_weak (L' := [some (.ref x), some (.int a1), none, none, some (.int a4), none, some (.int w16)]) (ls_e (ls_e (ls_n (ls_n (ls_e (ls_n (ls_e ls_0))))))) H
          · replace H := H.2 hc18
            refine S_iload (pc := 136) dX10_pick_136 rfl ?_
            refine S_iload_n (pc := 138) dX10_pick_138 rfl rfl ?_
            refine S_icmp_ge (pc := 139) (tgt := 148) dX10_pick_139 rfl (fun hc19 => ?_) (fun hc19 => ?_)
            · replace H := H.1 hc19
              exact S_weak (L' := [some (.ref x), some (.int a1), some (.int a2), some (.int a3), some (.int a4), none, none]) (ls_e (ls_e (ls_e (ls_e (ls_e (ls_n (ls_n ls_0))))))) H
            · replace H := H.2 hc19
              exact S_weak (L' := [some (.ref x), some (.int a1), none, none, some (.int a4), none, some (.int w16)]) (ls_e (ls_e (ls_n (ls_n (ls_e (ls_n (ls_e ls_0))))))) H
        · replace H := H.2 hc15
          refine S_aload_n (pc := 107) dX10_pick_107 rfl rfl ?_
          refine S_getR (pc := 108) dX10_pick_108 flX10_58 (sW_0 hs) rfl hp ?_
          refine S_getR (pc := 111) dX10_pick_111 flX10_345 (sL_0 hP) rfl (rL_0_12 hP) ?_
          refine S_aload_n (pc := 114) dX10_pick_114 rfl rfl ?_
          refine S_getR (pc := 115) dX10_pick_115 flX10_54 (sW_0 hs) rfl (rW_0_6 hs) ?_
          refine S_callV (As := [.ref (x + 27)]) (mc := 0) (ms := 0) (pc := 118) dX10_pick_118 miX3_valueBy mvX3_valueBy mlX10_152 rfl (sL_8 hP) rfl rfl rfl (RmOK.of rfl) H ?_
          rintro _ _ ⟨x22, f20, g21, rfl, rfl, H⟩
          show WP _ _ _ _ _ _ _ 121 [some (.ref x), some (.int a1), some (.int a2), some (.int a3), some (.int a4), some (.ref r3), none] [.int x22] (sh, f20, g21, fR)
          refine S_goto (pc := 121) (tgt := 129) dX10_pick_121 rfl ?_
          refine S_istore (pc := 129) (L' := [some (.ref x), some (.int a1), some (.int a2), some (.int a3), some (.int a4), some (.ref r3), some (.int x22)]) dX10_pick_129 (by decide) rfl ?_
          refine S_iload_n (pc := 131) dX10_pick_131 rfl rfl ?_
          refine S_iconst (pc := 132) dX10_pick_132 icm1 ?_
          refine S_icmp_eq (pc := 133) (tgt := 142) dX10_pick_133 rfl (fun hc23 => ?_) (fun hc23 => ?_)
          · replace H := H.1 hc23
            exact S_weak (L' := [some (.ref x), some (.int a1), none, none, some (.int a4), none, some (.int x22)]) (ls_e (ls_e (ls_n (ls_n (ls_e (ls_n (ls_e ls_0))))))) H
          · replace H := H.2 hc23
            refine S_iload (pc := 136) dX10_pick_136 rfl ?_
            refine S_iload_n (pc := 138) dX10_pick_138 rfl rfl ?_
            refine S_icmp_ge (pc := 139) (tgt := 148) dX10_pick_139 rfl (fun hc24 => ?_) (fun hc24 => ?_)
            · replace H := H.1 hc24
              exact S_weak (L' := [some (.ref x), some (.int a1), some (.int a2), some (.int a3), some (.int a4), none, none]) (ls_e (ls_e (ls_e (ls_e (ls_e (ls_n (ls_n ls_0))))))) H
            · replace H := H.2 hc24
              exact S_weak (L' := [some (.ref x), some (.int a1), none, none, some (.int a4), none, some (.int x22)]) (ls_e (ls_e (ls_n (ls_n (ls_e (ls_n (ls_e ls_0))))))) H
set_option maxHeartbeats 2000000 in
set_option maxRecDepth 4000 in
theorem VX10_pick_148 {l : Launch} {G : Gx} {d : Nat} {Q : Option Value → Hp → Prop} {sh : Sh} {fR : FRt} {x p : Nat} {f : FI} {g : FL} {a1 : Int32} {a2 : Int32} {a3 : Int32} {a4 : Int32} (hs : StW sh fR x) (hp : fR x 7 = some p) (hP : StPl sh fR p)
    (H : LpX10_pick_17 l G d Q sh fR x p f g a1 a2 a3 (a4 + nI 1)) :
    LpX10_pick_148 l G d Q sh fR x p f g a1 a2 a3 a4 := by
  refine S_iinc (pc := 148) (v := nI 1) (L' := [some (.ref x), some (.int a1), some (.int a2), some (.int a3), some (.int (a4 + nI 1)), none, none]) dX10_pick_148 rfl ic1 rfl ?_
  refine S_goto (pc := 151) (tgt := 17) dX10_pick_151 rfl ?_
  exact H
set_option maxHeartbeats 2000000 in
set_option maxRecDepth 4000 in
theorem VX10_pick_142 {l : Launch} {G : Gx} {d : Nat} {Q : Option Value → Hp → Prop} {sh : Sh} {fR : FRt} {x p : Nat} {f : FI} {g : FL} {a1 : Int32} {a4 : Int32} {a6 : Int32} (hs : StW sh fR x) (hp : fR x 7 = some p) (hP : StPl sh fR p)
    (H : LpX10_pick_148 l G d Q sh fR x p f g a1 a4 a6 a4) :
    LpX10_pick_142 l G d Q sh fR x p f g a1 a4 a6 := by
  refine S_iload (pc := 142) dX10_pick_142 rfl ?_
  refine S_istore_n (pc := 144) (L' := [some (.ref x), some (.int a1), some (.int a4), none, some (.int a4), none, some (.int a6)]) dX10_pick_144 rfl (by decide) rfl ?_
  refine S_iload (pc := 145) dX10_pick_145 rfl ?_
  refine S_istore_n (pc := 147) (L' := [some (.ref x), some (.int a1), some (.int a4), some (.int a6), some (.int a4), none, some (.int a6)]) dX10_pick_147 rfl (by decide) rfl ?_
  exact S_weak (L' := [some (.ref x), some (.int a1), some (.int a4), some (.int a6), some (.int a4), none, none]) (ls_e (ls_e (ls_e (ls_e (ls_e (ls_e (ls_n ls_0))))))) H
abbrev LpX10_sendN_77 (l : Launch) (G : Gx) (d : Nat) (Q : Option Value → Hp → Prop) (sh : Sh) (fR : FRt) (x p : Nat) (f : FI) (g : FL) (a1 : Int32) (a2 : Int32) (a3 : Int32) (r5 : Nat) : Prop := WP l G (Zq G 0 0 Q) mX10_send (rmd (d + 3) 0 0) 0 0 77 [some (.ref x), some (.int a1), some (.int a2), some (.int a3), some (.null), some (.ref r5), none, none] [] (sh, f, g, fR)
abbrev LpX10_sendN_93 (l : Launch) (G : Gx) (d : Nat) (Q : Option Value → Hp → Prop) (sh : Sh) (fR : FRt) (x p : Nat) (f : FI) (g : FL) (a1 : Int32) (a2 : Int32) (a3 : Int32) (r5 : Nat) (a6 : Int32) : Prop := WP l G (Zq G 0 0 Q) mX10_send (rmd (d + 3) 0 0) 0 0 93 [some (.ref x), some (.int a1), some (.int a2), some (.int a3), some (.null), some (.ref r5), some (.int a6), none] [] (sh, f, g, fR)
abbrev LpX10_sendN_128 (l : Launch) (G : Gx) (d : Nat) (Q : Option Value → Hp → Prop) (sh : Sh) (fR : FRt) (x p : Nat) (f : FI) (g : FL) (a1 : Int32) (a2 : Int32) (a3 : Int32) (r5 : Nat) (a6 : Int32) : Prop := WP l G (Zq G 0 0 Q) mX10_send (rmd (d + 3) 0 0) 0 0 128 [some (.ref x), some (.int a1), some (.int a2), some (.int a3), none, some (.ref r5), some (.int a6), none] [] (sh, f, g, fR)
set_option maxHeartbeats 2000000 in
set_option maxRecDepth 4000 in
theorem VX10_sendN {l : Launch} {G : Gx} {d : Nat} {Q : Option Value → Hp → Prop} {sh : Sh} {fR : FRt} {x p : Nat} {f : FI} {g : FL} {a1 : Int32} {a2 : Int32} {a3 : Int32} (hs : StW sh fR x) (hp : fR x 7 = some p) (hP : StPl sh fR p)
    (H : inb a1 4 ∧ (∃ r2, fR (x + 1) a1.toNatClampNeg = some r2 ∧ sh[r2]? = some (8, 8) ∧ 0 < r2 ∧ Cl l G (d + 2) 0 0 mX3_isTold [.ref (p + 5)] (sh, (up2 (up2 (up2 (up2 f (x + 27) 0 (f x 8)) (x + 27) 1 a1) (x + 27) 2 (f r2 6)) (x + 27) 3 a2), g, fR) (qi sh fR fun x8 f6 g7 => ((x8 = 0 → LpX10_sendN_77 l G d Q sh fR x p f6 g7 a1 a2 a3 r2) ∧ (¬ x8 = 0 → Cl l G (d + 2) 0 0 mX3_valueBy [.ref (p + 5), .ref (x + 27)] (sh, f6, g7, fR) (qi sh fR fun x12 f10 g11 => ((x12 = 0 → LpX10_sendN_77 l G d Q sh fR x p f10 g11 a1 a2 a3 r2) ∧ (¬ x12 = 0 → ((¬ (f10 x 13) = 0 → LpX10_sendN_93 l G d Q sh fR x p f10 g11 a1 a2 a3 r2 (nI 1)) ∧ ((f10 x 13) = 0 → LpX10_sendN_93 l G d Q sh fR x p (up2 f10 x 15 (nI 1)) g11 a1 a2 a3 r2 (nI 1))))))))))) :
    Cl l G (d + 3) 0 0 mX10_send [.ref x, .int a1, .int a2, .int a3, .null] (sh, f, g, fR) Q := by
  refine Cl.of (L0 := [some (.ref x), some (.int a1), some (.int a2), some (.int a3), some (.null), none, none, none]) miX10_send rfl rfl ?_
  refine S_aload_n (pc := 0) dX10_send_0 rfl rfl ?_
  refine S_getR (pc := 1) dX10_send_1 flX10_11 (sW_0 hs) rfl (rW_0_0 hs) ?_
  refine S_iload_n (pc := 4) dX10_send_4 rfl rfl ?_
  obtain ⟨hb1, H⟩ := H
  obtain ⟨r2, e3, s4, p5, H⟩ := H
  refine S_aald24 (pc := 5) dX10_send_5 (sW_1 hs) hb1 e3 ?_
  refine S_astore (pc := 6) (L' := [some (.ref x), some (.int a1), some (.int a2), some (.int a3), some (.null), some (.ref r2), none, none]) dX10_send_6 (by decide) rfl ?_
  refine S_aload_n (pc := 8) dX10_send_8 rfl rfl ?_
  refine S_getR (pc := 9) dX10_send_9 flX10_54 (sW_0 hs) rfl (rW_0_6 hs) ?_
  refine S_iconst (pc := 12) dX10_send_12 ic0 ?_
  refine S_aload_n (pc := 13) dX10_send_13 rfl rfl ?_
  refine S_get (pc := 14) (v := .int (f x 8)) dX10_send_14 flX10_63 (sW_0 hs) rfl ?_
  refine S_iast (pc := 17) dX10_send_17 (sW_27 hs) (Nat.succ_pos _) (vp_in_nI (by decide) (by decide)) ?_
  show WP _ _ _ _ _ _ _ 18 _ _ (sh, (up2 f (x + 27) 0 (f x 8)), g, fR)
  refine S_aload_n (pc := 18) dX10_send_18 rfl rfl ?_
  refine S_getR (pc := 19) dX10_send_19 flX10_54 (sW_0 hs) rfl (rW_0_6 hs) ?_
  refine S_iconst (pc := 22) dX10_send_22 ic1 ?_
  refine S_iload_n (pc := 23) dX10_send_23 rfl rfl ?_
  refine S_iast (pc := 24) dX10_send_24 (sW_27 hs) (Nat.succ_pos _) (vp_in_nI (by decide) (by decide)) ?_
  show WP _ _ _ _ _ _ _ 25 _ _ (sh, (up2 (up2 f (x + 27) 0 (f x 8)) (x + 27) 1 a1), g, fR)
  refine S_aload_n (pc := 25) dX10_send_25 rfl rfl ?_
  refine S_getR (pc := 26) dX10_send_26 flX10_54 (sW_0 hs) rfl (rW_0_6 hs) ?_
  refine S_iconst (pc := 29) dX10_send_29 ic2 ?_
  refine S_aload (pc := 30) dX10_send_30 rfl ?_
  refine S_get (pc := 32) (v := .int ((up2 (up2 f (x + 27) 0 (f x 8)) (x + 27) 1 a1) r2 6)) dX10_send_32 flX10_348 s4 rfl ?_
  refine S_eqi (x := f r2 6) ((up2_r (ne_sh s4 (sW_27 hs) (by decide))).trans ((up2_r (ne_sh s4 (sW_27 hs) (by decide))).trans rfl)) ?_
  refine S_iast (pc := 35) dX10_send_35 (sW_27 hs) (Nat.succ_pos _) (vp_in_nI (by decide) (by decide)) ?_
  show WP _ _ _ _ _ _ _ 36 _ _ (sh, (up2 (up2 (up2 f (x + 27) 0 (f x 8)) (x + 27) 1 a1) (x + 27) 2 (f r2 6)), g, fR)
  refine S_aload_n (pc := 36) dX10_send_36 rfl rfl ?_
  refine S_getR (pc := 37) dX10_send_37 flX10_54 (sW_0 hs) rfl (rW_0_6 hs) ?_
  refine S_iconst (pc := 40) dX10_send_40 ic3 ?_
  refine S_iload_n (pc := 41) dX10_send_41 rfl rfl ?_
  refine S_iast (pc := 42) dX10_send_42 (sW_27 hs) (Nat.succ_pos _) (vp_in_nI (by decide) (by decide)) ?_
  show WP _ _ _ _ _ _ _ 43 _ _ (sh, (up2 (up2 (up2 (up2 f (x + 27) 0 (f x 8)) (x + 27) 1 a1) (x + 27) 2 (f r2 6)) (x + 27) 3 a2), g, fR)
  refine S_aload_n (pc := 43) dX10_send_43 rfl rfl ?_
  refine S_getR (pc := 44) dX10_send_44 flX10_58 (sW_0 hs) rfl hp ?_
  refine S_getR (pc := 47) dX10_send_47 flX10_349 (sL_0 hP) rfl (rL_0_11 hP) ?_
  refine S_callV (As := []) (mc := 0) (ms := 0) (pc := 50) dX10_send_50 miX3_isTold mvX3_isTold mlX10_143 rfl (sL_5 hP) rfl rfl rfl (RmOK.of rfl) H ?_
  rintro _ _ ⟨x8, f6, g7, rfl, rfl, H⟩
  show WP _ _ _ _ _ _ _ 53 [some (.ref x), some (.int a1), some (.int a2), some (.int a3), some (.null), some (.ref r2), none, none] [.int x8] (sh, f6, g7, fR)
  refine S_if_eq (pc := 53) (tgt := 77) dX10_send_53 rfl (fun hc9 => ?_) (fun hc9 => ?_)
  · replace H := H.1 hc9
    exact H
  · replace H := H.2 hc9
    refine S_aload_n (pc := 56) dX10_send_56 rfl rfl ?_
    refine S_getR (pc := 57) dX10_send_57 flX10_58 (sW_0 hs) rfl hp ?_
    refine S_getR (pc := 60) dX10_send_60 flX10_349 (sL_0 hP) rfl (rL_0_11 hP) ?_
    refine S_aload_n (pc := 63) dX10_send_63 rfl rfl ?_
    refine S_getR (pc := 64) dX10_send_64 flX10_54 (sW_0 hs) rfl (rW_0_6 hs) ?_
    refine S_callV (As := [.ref (x + 27)]) (mc := 0) (ms := 0) (pc := 67) dX10_send_67 miX3_valueBy mvX3_valueBy mlX10_152 rfl (sL_5 hP) rfl rfl rfl (RmOK.of rfl) H ?_
    rintro _ _ ⟨x12, f10, g11, rfl, rfl, H⟩
    show WP _ _ _ _ _ _ _ 70 [some (.ref x), some (.int a1), some (.int a2), some (.int a3), some (.null), some (.ref r2), none, none] [.int x12] (sh, f10, g11, fR)
    refine S_if_eq (pc := 70) (tgt := 77) dX10_send_70 rfl (fun hc13 => ?_) (fun hc13 => ?_)
    · replace H := H.1 hc13
      exact H
    · replace H := H.2 hc13
      refine S_iconst (pc := 73) dX10_send_73 ic1 ?_
      refine S_goto (pc := 74) (tgt := 78) dX10_send_74 rfl ?_
      refine S_istore (pc := 78) (L' := [some (.ref x), some (.int a1), some (.int a2), some (.int a3), some (.null), some (.ref r2), some (.int (nI 1)), none]) dX10_send_78 (by decide) rfl ?_
      refine S_aload_n (pc := 80) dX10_send_80 rfl rfl ?_
      refine S_get (pc := 81) (v := .int (f10 x 13)) dX10_send_81 flX10_202 (sW_0 hs) rfl ?_
      refine S_if_ne (pc := 84) (tgt := 93) dX10_send_84 rfl (fun hc14 => ?_) (fun hc14 => ?_)
      · replace H := H.1 hc14
        exact H
      · replace H := H.2 hc14
        refine S_aload_n (pc := 87) dX10_send_87 rfl rfl ?_
        refine S_iload (pc := 88) dX10_send_88 rfl ?_
        refine S_putI (pc := 90) dX10_send_90 flX10_208 (sW_0 hs) hs.2.2 (nf_10_15) nb1 rfl (fun _ => rfl) ?_
        exact H
set_option maxHeartbeats 2000000 in
set_option maxRecDepth 4000 in
theorem VX10_sendN_77 {l : Launch} {G : Gx} {d : Nat} {Q : Option Value → Hp → Prop} {sh : Sh} {fR : FRt} {x p : Nat} {f : FI} {g : FL} {a1 : Int32} {a2 : Int32} {a3 : Int32} {r5 : Nat} (hs : StW sh fR x) (hp : fR x 7 = some p) (hP : StPl sh fR p) (hr5 : sh[r5]? = some (8, 8) ∧ 0 < r5)
    (H : ((¬ (f x 13) = 0 → LpX10_sendN_93 l G d Q sh fR x p f g a1 a2 a3 r5 (nI 0)) ∧ ((f x 13) = 0 → LpX10_sendN_93 l G d Q sh fR x p (up2 f x 15 (nI 0)) g a1 a2 a3 r5 (nI 0)))) :
    LpX10_sendN_77 l G d Q sh fR x p f g a1 a2 a3 r5 := by
  refine S_iconst (pc := 77) dX10_send_77 ic0 ?_
  refine S_istore (pc := 78) (L' := [some (.ref x), some (.int a1), some (.int a2), some (.int a3), some (.null), some (.ref r5), some (.int (nI 0)), none]) dX10_send_78 (by decide) rfl ?_
  refine S_aload_n (pc := 80) dX10_send_80 rfl rfl ?_
  refine S_get (pc := 81) (v := .int (f x 13)) dX10_send_81 flX10_202 (sW_0 hs) rfl ?_
  refine S_if_ne (pc := 84) (tgt := 93) dX10_send_84 rfl (fun hc15 => ?_) (fun hc15 => ?_)
  · replace H := H.1 hc15
    exact H
  · replace H := H.2 hc15
    refine S_aload_n (pc := 87) dX10_send_87 rfl rfl ?_
    refine S_iload (pc := 88) dX10_send_88 rfl ?_
    refine S_putI (pc := 90) dX10_send_90 flX10_208 (sW_0 hs) hs.2.2 (nf_10_15) nb0 rfl (fun _ => rfl) ?_
    exact H
set_option maxHeartbeats 2000000 in
set_option maxRecDepth 4000 in
theorem VX10_sendN_93 {l : Launch} {G : Gx} {d : Nat} {Q : Option Value → Hp → Prop} {sh : Sh} {fR : FRt} {x p : Nat} {f : FI} {g : FL} {a1 : Int32} {a2 : Int32} {a3 : Int32} {r5 : Nat} {a6 : Int32} (hs : StW sh fR x) (hp : fR x 7 = some p) (hP : StPl sh fR p) (hr5 : sh[r5]? = some (8, 8) ∧ 0 < r5)
    (H : LpX10_sendN_128 l G d Q sh fR x p f g a1 a2 a3 r5 a6) :
    LpX10_sendN_93 l G d Q sh fR x p f g a1 a2 a3 r5 a6 := by
  refine S_aloadN (pc := 93) dX10_send_93 rfl ?_
  refine S_ifnullN (pc := 95) (tgt := 128) dX10_send_95 rfl ?_
  exact S_weak (L' := [some (.ref x), some (.int a1), some (.int a2), some (.int a3), none, some (.ref r5), some (.int a6), none]) (ls_e (ls_e (ls_e (ls_e (ls_n (ls_e (ls_e (ls_e ls_0)))))))) H
set_option maxHeartbeats 2000000 in
set_option maxRecDepth 4000 in
theorem VX10_sendN_128 {l : Launch} {G : Gx} {d : Nat} {Q : Option Value → Hp → Prop} {sh : Sh} {fR : FRt} {x p : Nat} {f : FI} {g : FL} {a1 : Int32} {a2 : Int32} {a3 : Int32} {r5 : Nat} {a6 : Int32} (hs : StW sh fR x) (hp : fR x 7 = some p) (hP : StPl sh fR p) (hr5 : sh[r5]? = some (8, 8) ∧ 0 < r5)
    (H : ((a6 = 0 → (∀ w17 : Int32, w17 = (f x 8) + (f r5 0) → Cl l G (d + 2) 0 0 mX2_add [.ref (x + 5), .int a1, .int (f r5 6), .int a2, .int a3, .int (f x 8), .int w17, .int (f r5 7)] (sh, f, g, fR) (qv sh fR fun f19 g20 => Q none (sh, (up2 (up2 (up2 (up2 (up2 f19 r5 7 (nI 0)) r5 6 ((f19 r5 6) + (nI 1))) r5 5 ((f19 r5 5) + (nI 1))) x 12 ((f19 x 12) + a3)) x 13 ((f19 x 13) + (nI 1))), g20, fR)))) ∧ (¬ a6 = 0 → Cl l G (d + 2) 0 0 mX2_add [.ref (x + 5), .int a1, .int (f r5 6), .int a2, .int a3, .int (f x 8), .int (-1), .int (f r5 7)] (sh, f, g, fR) (qv sh fR fun f21 g22 => Q none (sh, (up2 (up2 (up2 (up2 (up2 f21 r5 7 (nI 0)) r5 6 ((f21 r5 6) + (nI 1))) r5 5 ((f21 r5 5) + (nI 1))) x 12 ((f21 x 12) + a3)) x 13 ((f21 x 13) + (nI 1))), g22, fR))))) :
    LpX10_sendN_128 l G d Q sh fR x p f g a1 a2 a3 r5 a6 := by
  refine S_iload (pc := 128) dX10_send_128 rfl ?_
  refine S_if_eq (pc := 130) (tgt := 137) dX10_send_130 rfl (fun hc16 => ?_) (fun hc16 => ?_)
  · replace H := H.1 hc16
    refine S_aload_n (pc := 137) dX10_send_137 rfl rfl ?_
    refine S_get (pc := 138) (v := .int (f x 8)) dX10_send_138 flX10_63 (sW_0 hs) rfl ?_
    refine S_aload (pc := 141) dX10_send_141 rfl ?_
    refine S_get (pc := 143) (v := .int (f r5 0)) dX10_send_143 flX10_137 hr5.1 rfl ?_
    refine S_iadd (pc := 146) dX10_send_146 ?_
    refine S_namei (fun w17 e18 => ?_)
    replace H := H w17 e18
    refine S_istore (pc := 147) (L' := [some (.ref x), some (.int a1), some (.int a2), some (.int a3), none, some (.ref r5), some (.int a6), some (.int w17)]) dX10_send_147 (by decide) rfl ?_
    refine S_aload_n (pc := 149) dX10_send_149 rfl rfl ?_
    refine S_getR (pc := 150) dX10_send_150 flX10_27 (sW_0 hs) rfl (rW_0_2 hs) ?_
    refine S_iload_n (pc := 153) dX10_send_153 rfl rfl ?_
    refine S_aload (pc := 154) dX10_send_154 rfl ?_
    refine S_get (pc := 156) (v := .int (f r5 6)) dX10_send_156 flX10_348 hr5.1 rfl ?_
    refine S_iload_n (pc := 159) dX10_send_159 rfl rfl ?_
    refine S_iload_n (pc := 160) dX10_send_160 rfl rfl ?_
    refine S_aload_n (pc := 161) dX10_send_161 rfl rfl ?_
    refine S_get (pc := 162) (v := .int (f x 8)) dX10_send_162 flX10_63 (sW_0 hs) rfl ?_
    refine S_iload (pc := 165) dX10_send_165 rfl ?_
    refine S_aload (pc := 167) dX10_send_167 rfl ?_
    refine S_get (pc := 169) (v := .int (f r5 7)) dX10_send_169 flX10_360 hr5.1 rfl ?_
    refine S_callV (As := [.int a1, .int (f r5 6), .int a2, .int a3, .int (f x 8), .int w17, .int (f r5 7)]) (mc := 0) (ms := 0) (pc := 172) dX10_send_172 miX2_add mvX2_add mlX10_363 rfl (sW_5 hs) rfl rfl rfl (RmOK.of rfl) H ?_
    rintro _ _ ⟨f19, g20, rfl, rfl, H⟩
    show WP _ _ _ _ _ _ _ 175 [some (.ref x), some (.int a1), some (.int a2), some (.int a3), none, some (.ref r5), some (.int a6), some (.int w17)] [] (sh, f19, g20, fR)
    refine S_aload (pc := 175) dX10_send_175 rfl ?_
    refine S_iconst (pc := 177) dX10_send_177 ic0 ?_
    refine S_putI (pc := 178) dX10_send_178 flX10_360 hr5.1 hr5.2 (nf_8_7) nb0 rfl (fun _ => rfl) ?_
    refine S_aload (pc := 181) dX10_send_181 rfl ?_
    refine S_dup (pc := 183) dX10_send_183 rfl ?_
    refine S_get (pc := 184) (v := .int ((up2 f19 r5 7 (nI 0)) r5 6)) dX10_send_184 flX10_348 hr5.1 rfl ?_
    refine S_eqi (x := f19 r5 6) ((up2_k (by decide)).trans rfl) ?_
    refine S_iconst (pc := 187) dX10_send_187 ic1 ?_
    refine S_iadd (pc := 188) dX10_send_188 ?_
    refine S_putI (pc := 189) dX10_send_189 flX10_348 hr5.1 hr5.2 (nf_8_6) rfl rfl (fun _ => rfl) ?_
    refine S_aload (pc := 192) dX10_send_192 rfl ?_
    refine S_dup (pc := 194) dX10_send_194 rfl ?_
    refine S_get (pc := 195) (v := .int ((up2 (up2 f19 r5 7 (nI 0)) r5 6 ((f19 r5 6) + (nI 1))) r5 5)) dX10_send_195 flX10_134 hr5.1 rfl ?_
    refine S_eqi (x := f19 r5 5) ((up2_k (by decide)).trans ((up2_k (by decide)).trans rfl)) ?_
    refine S_iconst (pc := 198) dX10_send_198 ic1 ?_
    refine S_iadd (pc := 199) dX10_send_199 ?_
    refine S_putI (pc := 200) dX10_send_200 flX10_134 hr5.1 hr5.2 (nf_8_5) rfl rfl (fun _ => rfl) ?_
    refine S_aload_n (pc := 203) dX10_send_203 rfl rfl ?_
    refine S_dup (pc := 204) dX10_send_204 rfl ?_
    refine S_get (pc := 205) (v := .int ((up2 (up2 (up2 f19 r5 7 (nI 0)) r5 6 ((f19 r5 6) + (nI 1))) r5 5 ((f19 r5 5) + (nI 1))) x 12)) dX10_send_205 flX10_81 (sW_0 hs) rfl ?_
    refine S_eqi (x := f19 x 12) ((up2_r (ne_sh (sW_0 hs) hr5.1 (by decide))).trans ((up2_r (ne_sh (sW_0 hs) hr5.1 (by decide))).trans ((up2_r (ne_sh (sW_0 hs) hr5.1 (by decide))).trans rfl))) ?_
    refine S_iload_n (pc := 208) dX10_send_208 rfl rfl ?_
    refine S_iadd (pc := 209) dX10_send_209 ?_
    refine S_putI (pc := 210) dX10_send_210 flX10_81 (sW_0 hs) hs.2.2 (nf_10_12) rfl rfl (fun _ => rfl) ?_
    refine S_aload_n (pc := 213) dX10_send_213 rfl rfl ?_
    refine S_dup (pc := 214) dX10_send_214 rfl ?_
    refine S_get (pc := 215) (v := .int ((up2 (up2 (up2 (up2 f19 r5 7 (nI 0)) r5 6 ((f19 r5 6) + (nI 1))) r5 5 ((f19 r5 5) + (nI 1))) x 12 ((f19 x 12) + a3)) x 13)) dX10_send_215 flX10_202 (sW_0 hs) rfl ?_
    refine S_eqi (x := f19 x 13) ((up2_k (by decide)).trans ((up2_r (ne_sh (sW_0 hs) hr5.1 (by decide))).trans ((up2_r (ne_sh (sW_0 hs) hr5.1 (by decide))).trans ((up2_r (ne_sh (sW_0 hs) hr5.1 (by decide))).trans rfl)))) ?_
    refine S_iconst (pc := 218) dX10_send_218 ic1 ?_
    refine S_iadd (pc := 219) dX10_send_219 ?_
    refine S_putI (pc := 220) dX10_send_220 flX10_202 (sW_0 hs) hs.2.2 (nf_10_13) rfl rfl (fun _ => rfl) ?_
    exact S_vreturn dX10_send_223 rfl H
  · replace H := H.2 hc16
    refine S_iconst (pc := 133) dX10_send_133 icm1 ?_
    refine S_goto (pc := 134) (tgt := 147) dX10_send_134 rfl ?_
    refine S_istore (pc := 147) (L' := [some (.ref x), some (.int a1), some (.int a2), some (.int a3), none, some (.ref r5), some (.int a6), some (.int (-1))]) dX10_send_147 (by decide) rfl ?_
    refine S_aload_n (pc := 149) dX10_send_149 rfl rfl ?_
    refine S_getR (pc := 150) dX10_send_150 flX10_27 (sW_0 hs) rfl (rW_0_2 hs) ?_
    refine S_iload_n (pc := 153) dX10_send_153 rfl rfl ?_
    refine S_aload (pc := 154) dX10_send_154 rfl ?_
    refine S_get (pc := 156) (v := .int (f r5 6)) dX10_send_156 flX10_348 hr5.1 rfl ?_
    refine S_iload_n (pc := 159) dX10_send_159 rfl rfl ?_
    refine S_iload_n (pc := 160) dX10_send_160 rfl rfl ?_
    refine S_aload_n (pc := 161) dX10_send_161 rfl rfl ?_
    refine S_get (pc := 162) (v := .int (f x 8)) dX10_send_162 flX10_63 (sW_0 hs) rfl ?_
    refine S_iload (pc := 165) dX10_send_165 rfl ?_
    refine S_aload (pc := 167) dX10_send_167 rfl ?_
    refine S_get (pc := 169) (v := .int (f r5 7)) dX10_send_169 flX10_360 hr5.1 rfl ?_
    refine S_callV (As := [.int a1, .int (f r5 6), .int a2, .int a3, .int (f x 8), .int (-1), .int (f r5 7)]) (mc := 0) (ms := 0) (pc := 172) dX10_send_172 miX2_add mvX2_add mlX10_363 rfl (sW_5 hs) rfl rfl rfl (RmOK.of rfl) H ?_
    rintro _ _ ⟨f21, g22, rfl, rfl, H⟩
    show WP _ _ _ _ _ _ _ 175 [some (.ref x), some (.int a1), some (.int a2), some (.int a3), none, some (.ref r5), some (.int a6), some (.int (-1))] [] (sh, f21, g22, fR)
    refine S_aload (pc := 175) dX10_send_175 rfl ?_
    refine S_iconst (pc := 177) dX10_send_177 ic0 ?_
    refine S_putI (pc := 178) dX10_send_178 flX10_360 hr5.1 hr5.2 (nf_8_7) nb0 rfl (fun _ => rfl) ?_
    refine S_aload (pc := 181) dX10_send_181 rfl ?_
    refine S_dup (pc := 183) dX10_send_183 rfl ?_
    refine S_get (pc := 184) (v := .int ((up2 f21 r5 7 (nI 0)) r5 6)) dX10_send_184 flX10_348 hr5.1 rfl ?_
    refine S_eqi (x := f21 r5 6) ((up2_k (by decide)).trans rfl) ?_
    refine S_iconst (pc := 187) dX10_send_187 ic1 ?_
    refine S_iadd (pc := 188) dX10_send_188 ?_
    refine S_putI (pc := 189) dX10_send_189 flX10_348 hr5.1 hr5.2 (nf_8_6) rfl rfl (fun _ => rfl) ?_
    refine S_aload (pc := 192) dX10_send_192 rfl ?_
    refine S_dup (pc := 194) dX10_send_194 rfl ?_
    refine S_get (pc := 195) (v := .int ((up2 (up2 f21 r5 7 (nI 0)) r5 6 ((f21 r5 6) + (nI 1))) r5 5)) dX10_send_195 flX10_134 hr5.1 rfl ?_
    refine S_eqi (x := f21 r5 5) ((up2_k (by decide)).trans ((up2_k (by decide)).trans rfl)) ?_
    refine S_iconst (pc := 198) dX10_send_198 ic1 ?_
    refine S_iadd (pc := 199) dX10_send_199 ?_
    refine S_putI (pc := 200) dX10_send_200 flX10_134 hr5.1 hr5.2 (nf_8_5) rfl rfl (fun _ => rfl) ?_
    refine S_aload_n (pc := 203) dX10_send_203 rfl rfl ?_
    refine S_dup (pc := 204) dX10_send_204 rfl ?_
    refine S_get (pc := 205) (v := .int ((up2 (up2 (up2 f21 r5 7 (nI 0)) r5 6 ((f21 r5 6) + (nI 1))) r5 5 ((f21 r5 5) + (nI 1))) x 12)) dX10_send_205 flX10_81 (sW_0 hs) rfl ?_
    refine S_eqi (x := f21 x 12) ((up2_r (ne_sh (sW_0 hs) hr5.1 (by decide))).trans ((up2_r (ne_sh (sW_0 hs) hr5.1 (by decide))).trans ((up2_r (ne_sh (sW_0 hs) hr5.1 (by decide))).trans rfl))) ?_
    refine S_iload_n (pc := 208) dX10_send_208 rfl rfl ?_
    refine S_iadd (pc := 209) dX10_send_209 ?_
    refine S_putI (pc := 210) dX10_send_210 flX10_81 (sW_0 hs) hs.2.2 (nf_10_12) rfl rfl (fun _ => rfl) ?_
    refine S_aload_n (pc := 213) dX10_send_213 rfl rfl ?_
    refine S_dup (pc := 214) dX10_send_214 rfl ?_
    refine S_get (pc := 215) (v := .int ((up2 (up2 (up2 (up2 f21 r5 7 (nI 0)) r5 6 ((f21 r5 6) + (nI 1))) r5 5 ((f21 r5 5) + (nI 1))) x 12 ((f21 x 12) + a3)) x 13)) dX10_send_215 flX10_202 (sW_0 hs) rfl ?_
    refine S_eqi (x := f21 x 13) ((up2_k (by decide)).trans ((up2_r (ne_sh (sW_0 hs) hr5.1 (by decide))).trans ((up2_r (ne_sh (sW_0 hs) hr5.1 (by decide))).trans ((up2_r (ne_sh (sW_0 hs) hr5.1 (by decide))).trans rfl)))) ?_
    refine S_iconst (pc := 218) dX10_send_218 ic1 ?_
    refine S_iadd (pc := 219) dX10_send_219 ?_
    refine S_putI (pc := 220) dX10_send_220 flX10_202 (sW_0 hs) hs.2.2 (nf_10_13) rfl rfl (fun _ => rfl) ?_
    exact S_vreturn dX10_send_223 rfl H
abbrev LpX10_sendD_77 (l : Launch) (G : Gx) (d : Nat) (Q : Option Value → Hp → Prop) (sh : Sh) (fR : FRt) (x p w : Nat) (f : FI) (g : FL) (a1 : Int32) (a2 : Int32) (a3 : Int32) (r5 : Nat) : Prop := WP l G (Zq G 0 0 Q) mX10_send (rmd (d + 3) 0 0) 0 0 77 [some (.ref x), some (.int a1), some (.int a2), some (.int a3), some (.ref w), some (.ref r5), none, none] [] (sh, f, g, fR)
abbrev LpX10_sendD_93 (l : Launch) (G : Gx) (d : Nat) (Q : Option Value → Hp → Prop) (sh : Sh) (fR : FRt) (x p w : Nat) (f : FI) (g : FL) (a1 : Int32) (a2 : Int32) (a3 : Int32) (r5 : Nat) (a6 : Int32) : Prop := WP l G (Zq G 0 0 Q) mX10_send (rmd (d + 3) 0 0) 0 0 93 [some (.ref x), some (.int a1), some (.int a2), some (.int a3), some (.ref w), some (.ref r5), some (.int a6), none] [] (sh, f, g, fR)
abbrev LpX10_sendD_128 (l : Launch) (G : Gx) (d : Nat) (Q : Option Value → Hp → Prop) (sh : Sh) (fR : FRt) (x p w : Nat) (f : FI) (g : FL) (a1 : Int32) (a2 : Int32) (a3 : Int32) (r5 : Nat) (a6 : Int32) : Prop := WP l G (Zq G 0 0 Q) mX10_send (rmd (d + 3) 0 0) 0 0 128 [some (.ref x), some (.int a1), some (.int a2), some (.int a3), none, some (.ref r5), some (.int a6), none] [] (sh, f, g, fR)
set_option maxHeartbeats 2000000 in
set_option maxRecDepth 4000 in
theorem VX10_sendD {l : Launch} {G : Gx} {d : Nat} {Q : Option Value → Hp → Prop} {sh : Sh} {fR : FRt} {x p w : Nat} {f : FI} {g : FL} {a1 : Int32} {a2 : Int32} {a3 : Int32} (hs : StW sh fR x) (hp : fR x 7 = some p) (hP : StPl sh fR p) (hw : sh[w]? = some (1, 1) ∧ 0 < w)
    (H : inb a1 4 ∧ (∃ r2, fR (x + 1) a1.toNatClampNeg = some r2 ∧ sh[r2]? = some (8, 8) ∧ 0 < r2 ∧ Cl l G (d + 2) 0 0 mX3_isTold [.ref (p + 5)] (sh, (up2 (up2 (up2 (up2 f (x + 27) 0 (f x 8)) (x + 27) 1 a1) (x + 27) 2 (f r2 6)) (x + 27) 3 a2), g, fR) (qi sh fR fun x8 f6 g7 => ((x8 = 0 → LpX10_sendD_77 l G d Q sh fR x p w f6 g7 a1 a2 a3 r2) ∧ (¬ x8 = 0 → Cl l G (d + 2) 0 0 mX3_valueBy [.ref (p + 5), .ref (x + 27)] (sh, f6, g7, fR) (qi sh fR fun x12 f10 g11 => ((x12 = 0 → LpX10_sendD_77 l G d Q sh fR x p w f10 g11 a1 a2 a3 r2) ∧ (¬ x12 = 0 → ((¬ (f10 x 13) = 0 → LpX10_sendD_93 l G d Q sh fR x p w f10 g11 a1 a2 a3 r2 (nI 1)) ∧ ((f10 x 13) = 0 → LpX10_sendD_93 l G d Q sh fR x p w (up2 f10 x 15 (nI 1)) g11 a1 a2 a3 r2 (nI 1))))))))))) :
    Cl l G (d + 3) 0 0 mX10_send [.ref x, .int a1, .int a2, .int a3, .ref w] (sh, f, g, fR) Q := by
  refine Cl.of (L0 := [some (.ref x), some (.int a1), some (.int a2), some (.int a3), some (.ref w), none, none, none]) miX10_send rfl rfl ?_
  refine S_aload_n (pc := 0) dX10_send_0 rfl rfl ?_
  refine S_getR (pc := 1) dX10_send_1 flX10_11 (sW_0 hs) rfl (rW_0_0 hs) ?_
  refine S_iload_n (pc := 4) dX10_send_4 rfl rfl ?_
  obtain ⟨hb1, H⟩ := H
  obtain ⟨r2, e3, s4, p5, H⟩ := H
  refine S_aald24 (pc := 5) dX10_send_5 (sW_1 hs) hb1 e3 ?_
  refine S_astore (pc := 6) (L' := [some (.ref x), some (.int a1), some (.int a2), some (.int a3), some (.ref w), some (.ref r2), none, none]) dX10_send_6 (by decide) rfl ?_
  refine S_aload_n (pc := 8) dX10_send_8 rfl rfl ?_
  refine S_getR (pc := 9) dX10_send_9 flX10_54 (sW_0 hs) rfl (rW_0_6 hs) ?_
  refine S_iconst (pc := 12) dX10_send_12 ic0 ?_
  refine S_aload_n (pc := 13) dX10_send_13 rfl rfl ?_
  refine S_get (pc := 14) (v := .int (f x 8)) dX10_send_14 flX10_63 (sW_0 hs) rfl ?_
  refine S_iast (pc := 17) dX10_send_17 (sW_27 hs) (Nat.succ_pos _) (vp_in_nI (by decide) (by decide)) ?_
  show WP _ _ _ _ _ _ _ 18 _ _ (sh, (up2 f (x + 27) 0 (f x 8)), g, fR)
  refine S_aload_n (pc := 18) dX10_send_18 rfl rfl ?_
  refine S_getR (pc := 19) dX10_send_19 flX10_54 (sW_0 hs) rfl (rW_0_6 hs) ?_
  refine S_iconst (pc := 22) dX10_send_22 ic1 ?_
  refine S_iload_n (pc := 23) dX10_send_23 rfl rfl ?_
  refine S_iast (pc := 24) dX10_send_24 (sW_27 hs) (Nat.succ_pos _) (vp_in_nI (by decide) (by decide)) ?_
  show WP _ _ _ _ _ _ _ 25 _ _ (sh, (up2 (up2 f (x + 27) 0 (f x 8)) (x + 27) 1 a1), g, fR)
  refine S_aload_n (pc := 25) dX10_send_25 rfl rfl ?_
  refine S_getR (pc := 26) dX10_send_26 flX10_54 (sW_0 hs) rfl (rW_0_6 hs) ?_
  refine S_iconst (pc := 29) dX10_send_29 ic2 ?_
  refine S_aload (pc := 30) dX10_send_30 rfl ?_
  refine S_get (pc := 32) (v := .int ((up2 (up2 f (x + 27) 0 (f x 8)) (x + 27) 1 a1) r2 6)) dX10_send_32 flX10_348 s4 rfl ?_
  refine S_eqi (x := f r2 6) ((up2_r (ne_sh s4 (sW_27 hs) (by decide))).trans ((up2_r (ne_sh s4 (sW_27 hs) (by decide))).trans rfl)) ?_
  refine S_iast (pc := 35) dX10_send_35 (sW_27 hs) (Nat.succ_pos _) (vp_in_nI (by decide) (by decide)) ?_
  show WP _ _ _ _ _ _ _ 36 _ _ (sh, (up2 (up2 (up2 f (x + 27) 0 (f x 8)) (x + 27) 1 a1) (x + 27) 2 (f r2 6)), g, fR)
  refine S_aload_n (pc := 36) dX10_send_36 rfl rfl ?_
  refine S_getR (pc := 37) dX10_send_37 flX10_54 (sW_0 hs) rfl (rW_0_6 hs) ?_
  refine S_iconst (pc := 40) dX10_send_40 ic3 ?_
  refine S_iload_n (pc := 41) dX10_send_41 rfl rfl ?_
  refine S_iast (pc := 42) dX10_send_42 (sW_27 hs) (Nat.succ_pos _) (vp_in_nI (by decide) (by decide)) ?_
  show WP _ _ _ _ _ _ _ 43 _ _ (sh, (up2 (up2 (up2 (up2 f (x + 27) 0 (f x 8)) (x + 27) 1 a1) (x + 27) 2 (f r2 6)) (x + 27) 3 a2), g, fR)
  refine S_aload_n (pc := 43) dX10_send_43 rfl rfl ?_
  refine S_getR (pc := 44) dX10_send_44 flX10_58 (sW_0 hs) rfl hp ?_
  refine S_getR (pc := 47) dX10_send_47 flX10_349 (sL_0 hP) rfl (rL_0_11 hP) ?_
  refine S_callV (As := []) (mc := 0) (ms := 0) (pc := 50) dX10_send_50 miX3_isTold mvX3_isTold mlX10_143 rfl (sL_5 hP) rfl rfl rfl (RmOK.of rfl) H ?_
  rintro _ _ ⟨x8, f6, g7, rfl, rfl, H⟩
  show WP _ _ _ _ _ _ _ 53 [some (.ref x), some (.int a1), some (.int a2), some (.int a3), some (.ref w), some (.ref r2), none, none] [.int x8] (sh, f6, g7, fR)
  refine S_if_eq (pc := 53) (tgt := 77) dX10_send_53 rfl (fun hc9 => ?_) (fun hc9 => ?_)
  · replace H := H.1 hc9
    exact H
  · replace H := H.2 hc9
    refine S_aload_n (pc := 56) dX10_send_56 rfl rfl ?_
    refine S_getR (pc := 57) dX10_send_57 flX10_58 (sW_0 hs) rfl hp ?_
    refine S_getR (pc := 60) dX10_send_60 flX10_349 (sL_0 hP) rfl (rL_0_11 hP) ?_
    refine S_aload_n (pc := 63) dX10_send_63 rfl rfl ?_
    refine S_getR (pc := 64) dX10_send_64 flX10_54 (sW_0 hs) rfl (rW_0_6 hs) ?_
    refine S_callV (As := [.ref (x + 27)]) (mc := 0) (ms := 0) (pc := 67) dX10_send_67 miX3_valueBy mvX3_valueBy mlX10_152 rfl (sL_5 hP) rfl rfl rfl (RmOK.of rfl) H ?_
    rintro _ _ ⟨x12, f10, g11, rfl, rfl, H⟩
    show WP _ _ _ _ _ _ _ 70 [some (.ref x), some (.int a1), some (.int a2), some (.int a3), some (.ref w), some (.ref r2), none, none] [.int x12] (sh, f10, g11, fR)
    refine S_if_eq (pc := 70) (tgt := 77) dX10_send_70 rfl (fun hc13 => ?_) (fun hc13 => ?_)
    · replace H := H.1 hc13
      exact H
    · replace H := H.2 hc13
      refine S_iconst (pc := 73) dX10_send_73 ic1 ?_
      refine S_goto (pc := 74) (tgt := 78) dX10_send_74 rfl ?_
      refine S_istore (pc := 78) (L' := [some (.ref x), some (.int a1), some (.int a2), some (.int a3), some (.ref w), some (.ref r2), some (.int (nI 1)), none]) dX10_send_78 (by decide) rfl ?_
      refine S_aload_n (pc := 80) dX10_send_80 rfl rfl ?_
      refine S_get (pc := 81) (v := .int (f10 x 13)) dX10_send_81 flX10_202 (sW_0 hs) rfl ?_
      refine S_if_ne (pc := 84) (tgt := 93) dX10_send_84 rfl (fun hc14 => ?_) (fun hc14 => ?_)
      · replace H := H.1 hc14
        exact H
      · replace H := H.2 hc14
        refine S_aload_n (pc := 87) dX10_send_87 rfl rfl ?_
        refine S_iload (pc := 88) dX10_send_88 rfl ?_
        refine S_putI (pc := 90) dX10_send_90 flX10_208 (sW_0 hs) hs.2.2 (nf_10_15) nb1 rfl (fun _ => rfl) ?_
        exact H
set_option maxHeartbeats 2000000 in
set_option maxRecDepth 4000 in
theorem VX10_sendD_77 {l : Launch} {G : Gx} {d : Nat} {Q : Option Value → Hp → Prop} {sh : Sh} {fR : FRt} {x p w : Nat} {f : FI} {g : FL} {a1 : Int32} {a2 : Int32} {a3 : Int32} {r5 : Nat} (hs : StW sh fR x) (hp : fR x 7 = some p) (hP : StPl sh fR p) (hw : sh[w]? = some (1, 1) ∧ 0 < w) (hr5 : sh[r5]? = some (8, 8) ∧ 0 < r5)
    (H : ((¬ (f x 13) = 0 → LpX10_sendD_93 l G d Q sh fR x p w f g a1 a2 a3 r5 (nI 0)) ∧ ((f x 13) = 0 → LpX10_sendD_93 l G d Q sh fR x p w (up2 f x 15 (nI 0)) g a1 a2 a3 r5 (nI 0)))) :
    LpX10_sendD_77 l G d Q sh fR x p w f g a1 a2 a3 r5 := by
  refine S_iconst (pc := 77) dX10_send_77 ic0 ?_
  refine S_istore (pc := 78) (L' := [some (.ref x), some (.int a1), some (.int a2), some (.int a3), some (.ref w), some (.ref r5), some (.int (nI 0)), none]) dX10_send_78 (by decide) rfl ?_
  refine S_aload_n (pc := 80) dX10_send_80 rfl rfl ?_
  refine S_get (pc := 81) (v := .int (f x 13)) dX10_send_81 flX10_202 (sW_0 hs) rfl ?_
  refine S_if_ne (pc := 84) (tgt := 93) dX10_send_84 rfl (fun hc15 => ?_) (fun hc15 => ?_)
  · replace H := H.1 hc15
    exact H
  · replace H := H.2 hc15
    refine S_aload_n (pc := 87) dX10_send_87 rfl rfl ?_
    refine S_iload (pc := 88) dX10_send_88 rfl ?_
    refine S_putI (pc := 90) dX10_send_90 flX10_208 (sW_0 hs) hs.2.2 (nf_10_15) nb0 rfl (fun _ => rfl) ?_
    exact H
set_option maxHeartbeats 2000000 in
set_option maxRecDepth 4000 in
theorem VX10_sendD_93 {l : Launch} {G : Gx} {d : Nat} {Q : Option Value → Hp → Prop} {sh : Sh} {fR : FRt} {x p w : Nat} {f : FI} {g : FL} {a1 : Int32} {a2 : Int32} {a3 : Int32} {r5 : Nat} {a6 : Int32} (hs : StW sh fR x) (hp : fR x 7 = some p) (hP : StPl sh fR p) (hw : sh[w]? = some (1, 1) ∧ 0 < w) (hr5 : sh[r5]? = some (8, 8) ∧ 0 < r5)
    (H : Cl l G (d + 2) 0 0 mX1_drawOf [.ref w, .int (nI 100)] (sh, f, g, fR) (qi sh fR fun x18 f16 g17 => (((f16 p 5) ≤ x18 → LpX10_sendD_128 l G d Q sh fR x p w f16 g17 a1 a2 a3 r5 a6) ∧ (¬ (f16 p 5) ≤ x18 → LpX10_sendD_128 l G d Q sh fR x p w (up2 f16 x 14 ((f16 x 14) + (nI 1))) g17 a1 a2 a3 r5 (nI 1))))) :
    LpX10_sendD_93 l G d Q sh fR x p w f g a1 a2 a3 r5 a6 := by
  refine S_aload (pc := 93) dX10_send_93 rfl ?_
  refine S_ifnull (pc := 95) dX10_send_95 ?_
  refine S_aload (pc := 98) dX10_send_98 rfl ?_
  refine S_bipush (pc := 100) dX10_send_100 bp100 ?_
  refine S_callV (As := [.int (nI 100)]) (mc := 0) (ms := 0) (pc := 102) dX10_send_102 miX1_drawOf mvX1_drawOf mlX10_352 rfl hw.1 rfl rfl rfl (RmOK.of rfl) H ?_
  rintro _ _ ⟨x18, f16, g17, rfl, rfl, H⟩
  show WP _ _ _ _ _ _ _ 105 [some (.ref x), some (.int a1), some (.int a2), some (.int a3), some (.ref w), some (.ref r5), some (.int a6), none] [.int x18] (sh, f16, g17, fR)
  refine S_aload_n (pc := 105) dX10_send_105 rfl rfl ?_
  refine S_getR (pc := 106) dX10_send_106 flX10_58 (sW_0 hs) rfl hp ?_
  refine S_get (pc := 109) (v := .int (f16 p 5)) dX10_send_109 flX10_357 (sL_0 hP) rfl ?_
  refine S_icmp_ge (pc := 112) (tgt := 128) dX10_send_112 rfl (fun hc19 => ?_) (fun hc19 => ?_)
  · replace H := H.1 hc19
    exact S_weak (L' := [some (.ref x), some (.int a1), some (.int a2), some (.int a3), none, some (.ref r5), some (.int a6), none]) (ls_e (ls_e (ls_e (ls_e (ls_n (ls_e (ls_e (ls_e ls_0)))))))) H
  · replace H := H.2 hc19
    refine S_iconst (pc := 115) dX10_send_115 ic1 ?_
    refine S_istore (pc := 116) (L' := [some (.ref x), some (.int a1), some (.int a2), some (.int a3), some (.ref w), some (.ref r5), some (.int (nI 1)), none]) dX10_send_116 (by decide) rfl ?_
    refine S_aload_n (pc := 118) dX10_send_118 rfl rfl ?_
    refine S_dup (pc := 119) dX10_send_119 rfl ?_
    refine S_get (pc := 120) (v := .int (f16 x 14)) dX10_send_120 flX10_205 (sW_0 hs) rfl ?_
    refine S_iconst (pc := 123) dX10_send_123 ic1 ?_
    refine S_iadd (pc := 124) dX10_send_124 ?_
    refine S_putI (pc := 125) dX10_send_125 flX10_205 (sW_0 hs) hs.2.2 (nf_10_14) rfl rfl (fun _ => rfl) ?_
    exact S_weak (L' := [some (.ref x), some (.int a1), some (.int a2), some (.int a3), none, some (.ref r5), some (.int (nI 1)), none]) (ls_e (ls_e (ls_e (ls_e (ls_n (ls_e (ls_e (ls_e ls_0)))))))) H
set_option maxHeartbeats 2000000 in
set_option maxRecDepth 4000 in
theorem VX10_sendD_128 {l : Launch} {G : Gx} {d : Nat} {Q : Option Value → Hp → Prop} {sh : Sh} {fR : FRt} {x p w : Nat} {f : FI} {g : FL} {a1 : Int32} {a2 : Int32} {a3 : Int32} {r5 : Nat} {a6 : Int32} (hs : StW sh fR x) (hp : fR x 7 = some p) (hP : StPl sh fR p) (hw : sh[w]? = some (1, 1) ∧ 0 < w) (hr5 : sh[r5]? = some (8, 8) ∧ 0 < r5)
    (H : ((a6 = 0 → (∀ w21 : Int32, w21 = (f x 8) + (f r5 0) → Cl l G (d + 2) 0 0 mX2_add [.ref (x + 5), .int a1, .int (f r5 6), .int a2, .int a3, .int (f x 8), .int w21, .int (f r5 7)] (sh, f, g, fR) (qv sh fR fun f23 g24 => Q none (sh, (up2 (up2 (up2 (up2 (up2 f23 r5 7 (nI 0)) r5 6 ((f23 r5 6) + (nI 1))) r5 5 ((f23 r5 5) + (nI 1))) x 12 ((f23 x 12) + a3)) x 13 ((f23 x 13) + (nI 1))), g24, fR)))) ∧ (¬ a6 = 0 → Cl l G (d + 2) 0 0 mX2_add [.ref (x + 5), .int a1, .int (f r5 6), .int a2, .int a3, .int (f x 8), .int (-1), .int (f r5 7)] (sh, f, g, fR) (qv sh fR fun f25 g26 => Q none (sh, (up2 (up2 (up2 (up2 (up2 f25 r5 7 (nI 0)) r5 6 ((f25 r5 6) + (nI 1))) r5 5 ((f25 r5 5) + (nI 1))) x 12 ((f25 x 12) + a3)) x 13 ((f25 x 13) + (nI 1))), g26, fR))))) :
    LpX10_sendD_128 l G d Q sh fR x p w f g a1 a2 a3 r5 a6 := by
  refine S_iload (pc := 128) dX10_send_128 rfl ?_
  refine S_if_eq (pc := 130) (tgt := 137) dX10_send_130 rfl (fun hc20 => ?_) (fun hc20 => ?_)
  · replace H := H.1 hc20
    refine S_aload_n (pc := 137) dX10_send_137 rfl rfl ?_
    refine S_get (pc := 138) (v := .int (f x 8)) dX10_send_138 flX10_63 (sW_0 hs) rfl ?_
    refine S_aload (pc := 141) dX10_send_141 rfl ?_
    refine S_get (pc := 143) (v := .int (f r5 0)) dX10_send_143 flX10_137 hr5.1 rfl ?_
    refine S_iadd (pc := 146) dX10_send_146 ?_
    refine S_namei (fun w21 e22 => ?_)
    replace H := H w21 e22
    refine S_istore (pc := 147) (L' := [some (.ref x), some (.int a1), some (.int a2), some (.int a3), none, some (.ref r5), some (.int a6), some (.int w21)]) dX10_send_147 (by decide) rfl ?_
    refine S_aload_n (pc := 149) dX10_send_149 rfl rfl ?_
    refine S_getR (pc := 150) dX10_send_150 flX10_27 (sW_0 hs) rfl (rW_0_2 hs) ?_
    refine S_iload_n (pc := 153) dX10_send_153 rfl rfl ?_
    refine S_aload (pc := 154) dX10_send_154 rfl ?_
    refine S_get (pc := 156) (v := .int (f r5 6)) dX10_send_156 flX10_348 hr5.1 rfl ?_
    refine S_iload_n (pc := 159) dX10_send_159 rfl rfl ?_
    refine S_iload_n (pc := 160) dX10_send_160 rfl rfl ?_
    refine S_aload_n (pc := 161) dX10_send_161 rfl rfl ?_
    refine S_get (pc := 162) (v := .int (f x 8)) dX10_send_162 flX10_63 (sW_0 hs) rfl ?_
    refine S_iload (pc := 165) dX10_send_165 rfl ?_
    refine S_aload (pc := 167) dX10_send_167 rfl ?_
    refine S_get (pc := 169) (v := .int (f r5 7)) dX10_send_169 flX10_360 hr5.1 rfl ?_
    refine S_callV (As := [.int a1, .int (f r5 6), .int a2, .int a3, .int (f x 8), .int w21, .int (f r5 7)]) (mc := 0) (ms := 0) (pc := 172) dX10_send_172 miX2_add mvX2_add mlX10_363 rfl (sW_5 hs) rfl rfl rfl (RmOK.of rfl) H ?_
    rintro _ _ ⟨f23, g24, rfl, rfl, H⟩
    show WP _ _ _ _ _ _ _ 175 [some (.ref x), some (.int a1), some (.int a2), some (.int a3), none, some (.ref r5), some (.int a6), some (.int w21)] [] (sh, f23, g24, fR)
    refine S_aload (pc := 175) dX10_send_175 rfl ?_
    refine S_iconst (pc := 177) dX10_send_177 ic0 ?_
    refine S_putI (pc := 178) dX10_send_178 flX10_360 hr5.1 hr5.2 (nf_8_7) nb0 rfl (fun _ => rfl) ?_
    refine S_aload (pc := 181) dX10_send_181 rfl ?_
    refine S_dup (pc := 183) dX10_send_183 rfl ?_
    refine S_get (pc := 184) (v := .int ((up2 f23 r5 7 (nI 0)) r5 6)) dX10_send_184 flX10_348 hr5.1 rfl ?_
    refine S_eqi (x := f23 r5 6) ((up2_k (by decide)).trans rfl) ?_
    refine S_iconst (pc := 187) dX10_send_187 ic1 ?_
    refine S_iadd (pc := 188) dX10_send_188 ?_
    refine S_putI (pc := 189) dX10_send_189 flX10_348 hr5.1 hr5.2 (nf_8_6) rfl rfl (fun _ => rfl) ?_
    refine S_aload (pc := 192) dX10_send_192 rfl ?_
    refine S_dup (pc := 194) dX10_send_194 rfl ?_
    refine S_get (pc := 195) (v := .int ((up2 (up2 f23 r5 7 (nI 0)) r5 6 ((f23 r5 6) + (nI 1))) r5 5)) dX10_send_195 flX10_134 hr5.1 rfl ?_
    refine S_eqi (x := f23 r5 5) ((up2_k (by decide)).trans ((up2_k (by decide)).trans rfl)) ?_
    refine S_iconst (pc := 198) dX10_send_198 ic1 ?_
    refine S_iadd (pc := 199) dX10_send_199 ?_
    refine S_putI (pc := 200) dX10_send_200 flX10_134 hr5.1 hr5.2 (nf_8_5) rfl rfl (fun _ => rfl) ?_
    refine S_aload_n (pc := 203) dX10_send_203 rfl rfl ?_
    refine S_dup (pc := 204) dX10_send_204 rfl ?_
    refine S_get (pc := 205) (v := .int ((up2 (up2 (up2 f23 r5 7 (nI 0)) r5 6 ((f23 r5 6) + (nI 1))) r5 5 ((f23 r5 5) + (nI 1))) x 12)) dX10_send_205 flX10_81 (sW_0 hs) rfl ?_
    refine S_eqi (x := f23 x 12) ((up2_r (ne_sh (sW_0 hs) hr5.1 (by decide))).trans ((up2_r (ne_sh (sW_0 hs) hr5.1 (by decide))).trans ((up2_r (ne_sh (sW_0 hs) hr5.1 (by decide))).trans rfl))) ?_
    refine S_iload_n (pc := 208) dX10_send_208 rfl rfl ?_
    refine S_iadd (pc := 209) dX10_send_209 ?_
    refine S_putI (pc := 210) dX10_send_210 flX10_81 (sW_0 hs) hs.2.2 (nf_10_12) rfl rfl (fun _ => rfl) ?_
    refine S_aload_n (pc := 213) dX10_send_213 rfl rfl ?_
    refine S_dup (pc := 214) dX10_send_214 rfl ?_
    refine S_get (pc := 215) (v := .int ((up2 (up2 (up2 (up2 f23 r5 7 (nI 0)) r5 6 ((f23 r5 6) + (nI 1))) r5 5 ((f23 r5 5) + (nI 1))) x 12 ((f23 x 12) + a3)) x 13)) dX10_send_215 flX10_202 (sW_0 hs) rfl ?_
    refine S_eqi (x := f23 x 13) ((up2_k (by decide)).trans ((up2_r (ne_sh (sW_0 hs) hr5.1 (by decide))).trans ((up2_r (ne_sh (sW_0 hs) hr5.1 (by decide))).trans ((up2_r (ne_sh (sW_0 hs) hr5.1 (by decide))).trans rfl)))) ?_
    refine S_iconst (pc := 218) dX10_send_218 ic1 ?_
    refine S_iadd (pc := 219) dX10_send_219 ?_
    refine S_putI (pc := 220) dX10_send_220 flX10_202 (sW_0 hs) hs.2.2 (nf_10_13) rfl rfl (fun _ => rfl) ?_
    exact S_vreturn dX10_send_223 rfl H
  · replace H := H.2 hc20
    refine S_iconst (pc := 133) dX10_send_133 icm1 ?_
    refine S_goto (pc := 134) (tgt := 147) dX10_send_134 rfl ?_
    refine S_istore (pc := 147) (L' := [some (.ref x), some (.int a1), some (.int a2), some (.int a3), none, some (.ref r5), some (.int a6), some (.int (-1))]) dX10_send_147 (by decide) rfl ?_
    refine S_aload_n (pc := 149) dX10_send_149 rfl rfl ?_
    refine S_getR (pc := 150) dX10_send_150 flX10_27 (sW_0 hs) rfl (rW_0_2 hs) ?_
    refine S_iload_n (pc := 153) dX10_send_153 rfl rfl ?_
    refine S_aload (pc := 154) dX10_send_154 rfl ?_
    refine S_get (pc := 156) (v := .int (f r5 6)) dX10_send_156 flX10_348 hr5.1 rfl ?_
    refine S_iload_n (pc := 159) dX10_send_159 rfl rfl ?_
    refine S_iload_n (pc := 160) dX10_send_160 rfl rfl ?_
    refine S_aload_n (pc := 161) dX10_send_161 rfl rfl ?_
    refine S_get (pc := 162) (v := .int (f x 8)) dX10_send_162 flX10_63 (sW_0 hs) rfl ?_
    refine S_iload (pc := 165) dX10_send_165 rfl ?_
    refine S_aload (pc := 167) dX10_send_167 rfl ?_
    refine S_get (pc := 169) (v := .int (f r5 7)) dX10_send_169 flX10_360 hr5.1 rfl ?_
    refine S_callV (As := [.int a1, .int (f r5 6), .int a2, .int a3, .int (f x 8), .int (-1), .int (f r5 7)]) (mc := 0) (ms := 0) (pc := 172) dX10_send_172 miX2_add mvX2_add mlX10_363 rfl (sW_5 hs) rfl rfl rfl (RmOK.of rfl) H ?_
    rintro _ _ ⟨f25, g26, rfl, rfl, H⟩
    show WP _ _ _ _ _ _ _ 175 [some (.ref x), some (.int a1), some (.int a2), some (.int a3), none, some (.ref r5), some (.int a6), some (.int (-1))] [] (sh, f25, g26, fR)
    refine S_aload (pc := 175) dX10_send_175 rfl ?_
    refine S_iconst (pc := 177) dX10_send_177 ic0 ?_
    refine S_putI (pc := 178) dX10_send_178 flX10_360 hr5.1 hr5.2 (nf_8_7) nb0 rfl (fun _ => rfl) ?_
    refine S_aload (pc := 181) dX10_send_181 rfl ?_
    refine S_dup (pc := 183) dX10_send_183 rfl ?_
    refine S_get (pc := 184) (v := .int ((up2 f25 r5 7 (nI 0)) r5 6)) dX10_send_184 flX10_348 hr5.1 rfl ?_
    refine S_eqi (x := f25 r5 6) ((up2_k (by decide)).trans rfl) ?_
    refine S_iconst (pc := 187) dX10_send_187 ic1 ?_
    refine S_iadd (pc := 188) dX10_send_188 ?_
    refine S_putI (pc := 189) dX10_send_189 flX10_348 hr5.1 hr5.2 (nf_8_6) rfl rfl (fun _ => rfl) ?_
    refine S_aload (pc := 192) dX10_send_192 rfl ?_
    refine S_dup (pc := 194) dX10_send_194 rfl ?_
    refine S_get (pc := 195) (v := .int ((up2 (up2 f25 r5 7 (nI 0)) r5 6 ((f25 r5 6) + (nI 1))) r5 5)) dX10_send_195 flX10_134 hr5.1 rfl ?_
    refine S_eqi (x := f25 r5 5) ((up2_k (by decide)).trans ((up2_k (by decide)).trans rfl)) ?_
    refine S_iconst (pc := 198) dX10_send_198 ic1 ?_
    refine S_iadd (pc := 199) dX10_send_199 ?_
    refine S_putI (pc := 200) dX10_send_200 flX10_134 hr5.1 hr5.2 (nf_8_5) rfl rfl (fun _ => rfl) ?_
    refine S_aload_n (pc := 203) dX10_send_203 rfl rfl ?_
    refine S_dup (pc := 204) dX10_send_204 rfl ?_
    refine S_get (pc := 205) (v := .int ((up2 (up2 (up2 f25 r5 7 (nI 0)) r5 6 ((f25 r5 6) + (nI 1))) r5 5 ((f25 r5 5) + (nI 1))) x 12)) dX10_send_205 flX10_81 (sW_0 hs) rfl ?_
    refine S_eqi (x := f25 x 12) ((up2_r (ne_sh (sW_0 hs) hr5.1 (by decide))).trans ((up2_r (ne_sh (sW_0 hs) hr5.1 (by decide))).trans ((up2_r (ne_sh (sW_0 hs) hr5.1 (by decide))).trans rfl))) ?_
    refine S_iload_n (pc := 208) dX10_send_208 rfl rfl ?_
    refine S_iadd (pc := 209) dX10_send_209 ?_
    refine S_putI (pc := 210) dX10_send_210 flX10_81 (sW_0 hs) hs.2.2 (nf_10_12) rfl rfl (fun _ => rfl) ?_
    refine S_aload_n (pc := 213) dX10_send_213 rfl rfl ?_
    refine S_dup (pc := 214) dX10_send_214 rfl ?_
    refine S_get (pc := 215) (v := .int ((up2 (up2 (up2 (up2 f25 r5 7 (nI 0)) r5 6 ((f25 r5 6) + (nI 1))) r5 5 ((f25 r5 5) + (nI 1))) x 12 ((f25 x 12) + a3)) x 13)) dX10_send_215 flX10_202 (sW_0 hs) rfl ?_
    refine S_eqi (x := f25 x 13) ((up2_k (by decide)).trans ((up2_r (ne_sh (sW_0 hs) hr5.1 (by decide))).trans ((up2_r (ne_sh (sW_0 hs) hr5.1 (by decide))).trans ((up2_r (ne_sh (sW_0 hs) hr5.1 (by decide))).trans rfl)))) ?_
    refine S_iconst (pc := 218) dX10_send_218 ic1 ?_
    refine S_iadd (pc := 219) dX10_send_219 ?_
    refine S_putI (pc := 220) dX10_send_220 flX10_202 (sW_0 hs) hs.2.2 (nf_10_13) rfl rfl (fun _ => rfl) ?_
    exact S_vreturn dX10_send_223 rfl H
set_option maxHeartbeats 2000000 in
set_option maxRecDepth 4000 in
theorem VX9_blame {l : Launch} {G : Gx} {d : Nat} {Q : Option Value → Hp → Prop} {sh : Sh} {fR : FRt} {A p q : Nat} {f : FI} {g : FL} {a1 : Int32} {a2 : Int32} (hs : StA sh fR A) (hp : fR (A + 38) 6 = some p) (hP : StPl sh fR p) (hq : StF sh fR q)
    (H : ((¬ (f (A + 38) 1) = 0 → Q none (sh, f, g, (up2 fR (A + 38) 7 (some q)))) ∧ ((f (A + 38) 1) = 0 → Q none (sh, (up2 (up2 f (A + 38) 1 a1) (A + 38) 2 a2), g, (up2 fR (A + 38) 7 (some q)))))) :
    Cl l G d 0 0 mX9_blame [.ref (A + 38), .int a1, .int a2] (sh, f, g, (up2 fR (A + 38) 7 (some q))) Q := by
  refine Cl.of (L0 := [some (.ref (A + 38)), some (.int a1), some (.int a2)]) miX9_blame rfl rfl ?_
  refine S_aload_n (pc := 0) dX9_blame_0 rfl rfl ?_
  refine S_get (pc := 1) (v := .int (f (A + 38) 1)) dX9_blame_1 flX9_52 (sA_38 hs) rfl ?_
  refine S_if_ne (pc := 4) (tgt := 17) dX9_blame_4 rfl (fun hc1 => ?_) (fun hc1 => ?_)
  · replace H := H.1 hc1
    exact S_vreturn dX9_blame_17 rfl H
  · replace H := H.2 hc1
    refine S_aload_n (pc := 7) dX9_blame_7 rfl rfl ?_
    refine S_iload_n (pc := 8) dX9_blame_8 rfl rfl ?_
    refine S_putI (pc := 9) dX9_blame_9 flX9_52 (sA_38 hs) (Nat.succ_pos _) (nf_9_1) rfl rfl (fun _ => rfl) ?_
    refine S_aload_n (pc := 12) dX9_blame_12 rfl rfl ?_
    refine S_iload_n (pc := 13) dX9_blame_13 rfl rfl ?_
    refine S_putI (pc := 14) dX9_blame_14 flX9_55 (sA_38 hs) (Nat.succ_pos _) (nf_9_2) rfl rfl (fun _ => rfl) ?_
    exact S_vreturn dX9_blame_17 rfl H
set_option maxHeartbeats 2000000 in
set_option maxRecDepth 4000 in
theorem VX9_blameHere {l : Launch} {G : Gx} {d : Nat} {Q : Option Value → Hp → Prop} {sh : Sh} {fR : FRt} {A p q : Nat} {f : FI} {g : FL}  (hs : StA sh fR A) (hp : fR (A + 38) 6 = some p) (hP : StPl sh fR p) (hq : StF sh fR q)
    (H : ((¬ (f (A + 38) 10) = (nI 4) → Cl l G d 0 0 mX9_blame [.ref (A + 38), .int (nI 1), .int (f (A + 38) 11)] (sh, f, g, (up2 fR (A + 38) 7 (some q))) (qv sh (up2 fR (A + 38) 7 (some q)) fun f2 g3 => Q none (sh, f2, g3, (up2 fR (A + 38) 7 (some q))))) ∧ ((f (A + 38) 10) = (nI 4) → Cl l G d 0 0 mX9_blame [.ref (A + 38), .int (nI 1), .int (f (A + 38) 12)] (sh, f, g, (up2 fR (A + 38) 7 (some q))) (qv sh (up2 fR (A + 38) 7 (some q)) fun f4 g5 => Q none (sh, f4, g5, (up2 fR (A + 38) 7 (some q))))))) :
    Cl l G (d + 1) 0 0 mX9_blameHere [.ref (A + 38)] (sh, f, g, (up2 fR (A + 38) 7 (some q))) Q := by
  refine Cl.of (L0 := [some (.ref (A + 38))]) miX9_blameHere rfl rfl ?_
  refine S_aload_n (pc := 0) dX9_blameHere_0 rfl rfl ?_
  refine S_iconst (pc := 1) dX9_blameHere_1 ic1 ?_
  refine S_aload_n (pc := 2) dX9_blameHere_2 rfl rfl ?_
  refine S_get (pc := 3) (v := .int (f (A + 38) 10)) dX9_blameHere_3 flX9_58 (sA_38 hs) rfl ?_
  refine S_iconst (pc := 6) dX9_blameHere_6 ic4 ?_
  refine S_icmp_ne (pc := 7) (tgt := 17) dX9_blameHere_7 rfl (fun hc1 => ?_) (fun hc1 => ?_)
  · replace H := H.1 hc1
    refine S_aload_n (pc := 17) dX9_blameHere_17 rfl rfl ?_
    refine S_get (pc := 18) (v := .int (f (A + 38) 11)) dX9_blameHere_18 flX9_80 (sA_38 hs) rfl ?_
    refine S_callV (As := [.int (nI 1), .int (f (A + 38) 11)]) (mc := 0) (ms := 0) (pc := 21) dX9_blameHere_21 miX9_blame mvX9_blame mlX9_83 rfl (sA_38 hs) rfl rfl rfl (RmOK.of rfl) H ?_
    rintro _ _ ⟨f2, g3, rfl, rfl, H⟩
    show WP _ _ _ _ _ _ _ 24 [some (.ref (A + 38))] [] (sh, f2, g3, (up2 fR (A + 38) 7 (some q)))
    exact S_vreturn dX9_blameHere_24 rfl H
  · replace H := H.2 hc1
    refine S_aload_n (pc := 10) dX9_blameHere_10 rfl rfl ?_
    refine S_get (pc := 11) (v := .int (f (A + 38) 12)) dX9_blameHere_11 flX9_77 (sA_38 hs) rfl ?_
    refine S_goto (pc := 14) (tgt := 21) dX9_blameHere_14 rfl ?_
    refine S_callV (As := [.int (nI 1), .int (f (A + 38) 12)]) (mc := 0) (ms := 0) (pc := 21) dX9_blameHere_21 miX9_blame mvX9_blame mlX9_83 rfl (sA_38 hs) rfl rfl rfl (RmOK.of rfl) H ?_
    rintro _ _ ⟨f4, g5, rfl, rfl, H⟩
    show WP _ _ _ _ _ _ _ 24 [some (.ref (A + 38))] [] (sh, f4, g5, (up2 fR (A + 38) 7 (some q)))
    exact S_vreturn dX9_blameHere_24 rfl H
abbrev LpX9_advance_16 (l : Launch) (G : Gx) (d : Nat) (Q : Option Value → Hp → Prop) (sh : Sh) (fR : FRt) (A p q : Nat) (f : FI) (g : FL)  : Prop := WP l G (Zq G 0 0 Q) mX9_advance (rmd (d + 2) 0 0) 0 0 16 [some (.ref (A + 38)), none, none] [] (sh, f, g, (up2 fR (A + 38) 7 (some q)))
abbrev LpX9_advance_27 (l : Launch) (G : Gx) (d : Nat) (Q : Option Value → Hp → Prop) (sh : Sh) (fR : FRt) (A p q : Nat) (f : FI) (g : FL) (a1 : Int32) (a2 : Int32) : Prop := WP l G (Zq G 0 0 Q) mX9_advance (rmd (d + 2) 0 0) 0 0 27 [some (.ref (A + 38)), some (.int a1), some (.int a2)] [] (sh, f, g, (up2 fR (A + 38) 7 (some q)))
abbrev LpX9_advance_79 (l : Launch) (G : Gx) (d : Nat) (Q : Option Value → Hp → Prop) (sh : Sh) (fR : FRt) (A p q : Nat) (f : FI) (g : FL) (a1 : Int32) (a2 : Int32) : Prop := WP l G (Zq G 0 0 Q) mX9_advance (rmd (d + 2) 0 0) 0 0 79 [some (.ref (A + 38)), some (.int a1), some (.int a2)] [] (sh, f, g, (up2 fR (A + 38) 7 (some q)))
abbrev LpX9_advance_66 (l : Launch) (G : Gx) (d : Nat) (Q : Option Value → Hp → Prop) (sh : Sh) (fR : FRt) (A p q : Nat) (f : FI) (g : FL) (a1 : Int32) (a2 : Int32) : Prop := WP l G (Zq G 0 0 Q) mX9_advance (rmd (d + 2) 0 0) 0 0 66 [some (.ref (A + 38)), some (.int a1), some (.int a2)] [] (sh, f, g, (up2 fR (A + 38) 7 (some q)))
abbrev LpX9_advance_170 (l : Launch) (G : Gx) (d : Nat) (Q : Option Value → Hp → Prop) (sh : Sh) (fR : FRt) (A p q : Nat) (f : FI) (g : FL) (a1 : Int32) (a2 : Int32) : Prop := WP l G (Zq G 0 0 Q) mX9_advance (rmd (d + 2) 0 0) 0 0 170 [some (.ref (A + 38)), some (.int a1), some (.int a2)] [] (sh, f, g, (up2 fR (A + 38) 7 (some q)))
set_option maxHeartbeats 2000000 in
set_option maxRecDepth 4000 in
theorem VX9_advance {l : Launch} {G : Gx} {d : Nat} {Q : Option Value → Hp → Prop} {sh : Sh} {fR : FRt} {A p q : Nat} {f : FI} {g : FL}  (hs : StA sh fR A) (hp : fR (A + 38) 6 = some p) (hP : StPl sh fR p) (hq : StF sh fR q)
    (H : (((f (A + 38) 10) = (nI 1) → LpX9_advance_16 l G d Q sh fR A p q f g) ∧ (¬ (f (A + 38) 10) = (nI 1) → ((¬ (f (A + 38) 10) = (nI 2) → (∀ w3 : Int32, w3 = f (A + 38) 5 → LpX9_advance_27 l G d Q sh fR A p q f g (nI 0) w3)) ∧ ((f (A + 38) 10) = (nI 2) → LpX9_advance_16 l G d Q sh fR A p q f g))))) :
    Cl l G (d + 2) 0 0 mX9_advance [.ref (A + 38)] (sh, f, g, (up2 fR (A + 38) 7 (some q))) Q := by
  refine Cl.of (L0 := [some (.ref (A + 38)), none, none]) miX9_advance rfl rfl ?_
  refine S_aload_n (pc := 0) dX9_advance_0 rfl rfl ?_
  refine S_get (pc := 1) (v := .int (f (A + 38) 10)) dX9_advance_1 flX9_58 (sA_38 hs) rfl ?_
  refine S_iconst (pc := 4) dX9_advance_4 ic1 ?_
  refine S_icmp_eq (pc := 5) (tgt := 16) dX9_advance_5 rfl (fun hc1 => ?_) (fun hc1 => ?_)
  · replace H := H.1 hc1
    exact H
  · replace H := H.2 hc1
    refine S_aload_n (pc := 8) dX9_advance_8 rfl rfl ?_
    refine S_get (pc := 9) (v := .int (f (A + 38) 10)) dX9_advance_9 flX9_58 (sA_38 hs) rfl ?_
    refine S_iconst (pc := 12) dX9_advance_12 ic2 ?_
    refine S_icmp_ne (pc := 13) (tgt := 20) dX9_advance_13 rfl (fun hc2 => ?_) (fun hc2 => ?_)
    · replace H := H.1 hc2
      refine S_iconst (pc := 20) dX9_advance_20 ic0 ?_
      refine S_istore_n (pc := 21) (L' := [some (.ref (A + 38)), some (.int (nI 0)), none]) dX9_advance_21 rfl (by decide) rfl ?_
      refine S_aload_n (pc := 22) dX9_advance_22 rfl rfl ?_
      refine S_get (pc := 23) (v := .int (f (A + 38) 5)) dX9_advance_23 flX9_46 (sA_38 hs) rfl ?_
      refine S_namei (fun w3 e4 => ?_)
      replace H := H w3 e4
      refine S_istore_n (pc := 26) (L' := [some (.ref (A + 38)), some (.int (nI 0)), some (.int w3)]) dX9_advance_26 rfl (by decide) rfl ?_
      exact H
    · replace H := H.2 hc2
      exact H
set_option maxHeartbeats 2000000 in
set_option maxRecDepth 4000 in
theorem VX9_advance_16 {l : Launch} {G : Gx} {d : Nat} {Q : Option Value → Hp → Prop} {sh : Sh} {fR : FRt} {A p q : Nat} {f : FI} {g : FL}  (hs : StA sh fR A) (hp : fR (A + 38) 6 = some p) (hP : StPl sh fR p) (hq : StF sh fR q)
    (H : (∀ w5 : Int32, w5 = f (A + 38) 5 → LpX9_advance_27 l G d Q sh fR A p q f g (nI 1) w5)) :
    LpX9_advance_16 l G d Q sh fR A p q f g  := by
  refine S_iconst (pc := 16) dX9_advance_16 ic1 ?_
  refine S_goto (pc := 17) (tgt := 21) dX9_advance_17 rfl ?_
  refine S_istore_n (pc := 21) (L' := [some (.ref (A + 38)), some (.int (nI 1)), none]) dX9_advance_21 rfl (by decide) rfl ?_
  refine S_aload_n (pc := 22) dX9_advance_22 rfl rfl ?_
  refine S_get (pc := 23) (v := .int (f (A + 38) 5)) dX9_advance_23 flX9_46 (sA_38 hs) rfl ?_
  refine S_namei (fun w5 e6 => ?_)
  replace H := H w5 e6
  refine S_istore_n (pc := 26) (L' := [some (.ref (A + 38)), some (.int (nI 1)), some (.int w5)]) dX9_advance_26 rfl (by decide) rfl ?_
  exact H
set_option maxHeartbeats 2000000 in
set_option maxRecDepth 4000 in
theorem VX9_advance_27 {l : Launch} {G : Gx} {d : Nat} {Q : Option Value → Hp → Prop} {sh : Sh} {fR : FRt} {A p q : Nat} {f : FI} {g : FL} {a1 : Int32} {a2 : Int32} (hs : StA sh fR A) (hp : fR (A + 38) 6 = some p) (hP : StPl sh fR p) (hq : StF sh fR q)
    (H : (((f (A + 38) 4) ≤ (f (A + 38) 5) → LpX9_advance_79 l G d Q sh fR A p q f g a1 a2) ∧ (¬ (f (A + 38) 4) ≤ (f (A + 38) 5) → inb (f (A + 38) 5) 1600 ∧ (((f (A + 1) (f (A + 38) 5).toNatClampNeg) = (nI 32) → LpX9_advance_66 l G d Q sh fR A p q f g a1 a2) ∧ (¬ (f (A + 1) (f (A + 38) 5).toNatClampNeg) = (nI 32) → inb (f (A + 38) 5) 1600 ∧ ((¬ (f (A + 1) (f (A + 38) 5).toNatClampNeg) = (nI 10) → LpX9_advance_79 l G d Q sh fR A p q f g a1 a2) ∧ ((f (A + 1) (f (A + 38) 5).toNatClampNeg) = (nI 10) → LpX9_advance_66 l G d Q sh fR A p q f g a1 a2))))))) :
    LpX9_advance_27 l G d Q sh fR A p q f g a1 a2 := by
  refine S_aload_n (pc := 27) dX9_advance_27 rfl rfl ?_
  refine S_get (pc := 28) (v := .int (f (A + 38) 5)) dX9_advance_28 flX9_46 (sA_38 hs) rfl ?_
  refine S_aload_n (pc := 31) dX9_advance_31 rfl rfl ?_
  refine S_get (pc := 32) (v := .int (f (A + 38) 4)) dX9_advance_32 flX9_43 (sA_38 hs) rfl ?_
  refine S_icmp_ge (pc := 35) (tgt := 79) dX9_advance_35 rfl (fun hc7 => ?_) (fun hc7 => ?_)
  · replace H := H.1 hc7
    exact H
  · replace H := H.2 hc7
    refine S_aload_n (pc := 38) dX9_advance_38 rfl rfl ?_
    refine S_getR (pc := 39) dX9_advance_39 flX9_15 (sA_38 hs) rfl ((up2_ne (by simp)).trans (rA_38_3 hs)) ?_
    refine S_aload_n (pc := 42) dX9_advance_42 rfl rfl ?_
    refine S_get (pc := 43) (v := .int (f (A + 38) 5)) dX9_advance_43 flX9_46 (sA_38 hs) rfl ?_
    obtain ⟨hb8, H⟩ := H
    refine S_iald (pc := 46) dX9_advance_46 (sA_1 hs) hb8 ?_
    refine S_bipush (pc := 47) dX9_advance_47 bp32 ?_
    refine S_icmp_eq (pc := 49) (tgt := 66) dX9_advance_49 rfl (fun hc9 => ?_) (fun hc9 => ?_)
    · replace H := H.1 hc9
      exact H
    · replace H := H.2 hc9
      refine S_aload_n (pc := 52) dX9_advance_52 rfl rfl ?_
      refine S_getR (pc := 53) dX9_advance_53 flX9_15 (sA_38 hs) rfl ((up2_ne (by simp)).trans (rA_38_3 hs)) ?_
      refine S_aload_n (pc := 56) dX9_advance_56 rfl rfl ?_
      refine S_get (pc := 57) (v := .int (f (A + 38) 5)) dX9_advance_57 flX9_46 (sA_38 hs) rfl ?_
      obtain ⟨hb10, H⟩ := H
      refine S_iald (pc := 60) dX9_advance_60 (sA_1 hs) hb10 ?_
      refine S_bipush (pc := 61) dX9_advance_61 bp10 ?_
      refine S_icmp_ne (pc := 63) (tgt := 79) dX9_advance_63 rfl (fun hc11 => ?_) (fun hc11 => ?_)
      · replace H := H.1 hc11
        exact H
      · replace H := H.2 hc11
        exact H
set_option maxHeartbeats 2000000 in
set_option maxRecDepth 4000 in
theorem VX9_advance_79 {l : Launch} {G : Gx} {d : Nat} {Q : Option Value → Hp → Prop} {sh : Sh} {fR : FRt} {A p q : Nat} {f : FI} {g : FL} {a1 : Int32} {a2 : Int32} (hs : StA sh fR A) (hp : fR (A + 38) 6 = some p) (hP : StPl sh fR p) (hq : StF sh fR q)
    (H : (((f (A + 38) 5) < (f (A + 38) 4) → Cl l G (d + 1) 0 0 mX9_isLetter [.ref (A + 38), .int (f (A + 38) 5)] (sh, (up2 f (A + 38) 11 (f (A + 38) 5)), g, (up2 fR (A + 38) 7 (some q))) (qi sh (up2 fR (A + 38) 7 (some q)) fun x15 f13 g14 => ((x15 = 0 → Cl l G (d + 1) 0 0 mX9_isDigit [.ref (A + 38), .int (f13 (A + 38) 5)] (sh, f13, g14, (up2 fR (A + 38) 7 (some q))) (qi sh (up2 fR (A + 38) 7 (some q)) fun x19 f17 g18 => ((x19 = 0 → inb (f17 (A + 38) 5) 1600 ∧ LpX9_advance_170 l G d Q sh fR A p q (up2 (up2 (up2 f17 (A + 38) 10 (nI 3)) (A + 38) 13 (f17 (A + 1) (f17 (A + 38) 5).toNatClampNeg)) (A + 38) 5 ((f17 (A + 38) 5) + (nI 1))) g18 a1 a2) ∧ (¬ x19 = 0 → Cl l G (d + 1) 0 0 mX9_takeNumber [.ref (A + 38)] (sh, f17, g18, (up2 fR (A + 38) 7 (some q))) (qv sh (up2 fR (A + 38) 7 (some q)) fun f22 g23 => LpX9_advance_170 l G d Q sh fR A p q f22 g23 a1 a2))))) ∧ (¬ x15 = 0 → Cl l G (d + 1) 0 0 mX9_takeWord [.ref (A + 38)] (sh, f13, g14, (up2 fR (A + 38) 7 (some q))) (qv sh (up2 fR (A + 38) 7 (some q)) fun f24 g25 => LpX9_advance_170 l G d Q sh fR A p q f24 g25 a1 a2))))) ∧ (¬ (f (A + 38) 5) < (f (A + 38) 4) → LpX9_advance_170 l G d Q sh fR A p q (up2 (up2 f (A + 38) 11 (f (A + 38) 5)) (A + 38) 10 (nI 0)) g a1 a2))) :
    LpX9_advance_79 l G d Q sh fR A p q f g a1 a2 := by
  refine S_aload_n (pc := 79) dX9_advance_79 rfl rfl ?_
  refine S_aload_n (pc := 80) dX9_advance_80 rfl rfl ?_
  refine S_get (pc := 81) (v := .int (f (A + 38) 5)) dX9_advance_81 flX9_46 (sA_38 hs) rfl ?_
  refine S_putI (pc := 84) dX9_advance_84 flX9_80 (sA_38 hs) (Nat.succ_pos _) (nf_9_11) rfl rfl (fun _ => rfl) ?_
  refine S_aload_n (pc := 87) dX9_advance_87 rfl rfl ?_
  refine S_get (pc := 88) (v := .int ((up2 f (A + 38) 11 (f (A + 38) 5)) (A + 38) 5)) dX9_advance_88 flX9_46 (sA_38 hs) rfl ?_
  refine S_eqi (x := f (A + 38) 5) ((up2_k (by decide)).trans rfl) ?_
  refine S_aload_n (pc := 91) dX9_advance_91 rfl rfl ?_
  refine S_get (pc := 92) (v := .int ((up2 f (A + 38) 11 (f (A + 38) 5)) (A + 38) 4)) dX9_advance_92 flX9_43 (sA_38 hs) rfl ?_
  refine S_eqi (x := f (A + 38) 4) ((up2_k (by decide)).trans rfl) ?_
  refine S_icmp_lt (pc := 95) (tgt := 106) dX9_advance_95 rfl (fun hc12 => ?_) (fun hc12 => ?_)
  · replace H := H.1 hc12
    refine S_aload_n (pc := 106) dX9_advance_106 rfl rfl ?_
    refine S_aload_n (pc := 107) dX9_advance_107 rfl rfl ?_
    refine S_get (pc := 108) (v := .int ((up2 f (A + 38) 11 (f (A + 38) 5)) (A + 38) 5)) dX9_advance_108 flX9_46 (sA_38 hs) rfl ?_
    refine S_eqi (x := f (A + 38) 5) ((up2_k (by decide)).trans rfl) ?_
    refine S_callV (As := [.int (f (A + 38) 5)]) (mc := 0) (ms := 0) (pc := 111) dX9_advance_111 miX9_isLetter mvX9_isLetter mlX9_87 rfl (sA_38 hs) rfl rfl rfl (RmOK.of rfl) H ?_
    rintro _ _ ⟨x15, f13, g14, rfl, rfl, H⟩
    show WP _ _ _ _ _ _ _ 114 [some (.ref (A + 38)), some (.int a1), some (.int a2)] [.int x15] (sh, f13, g14, (up2 fR (A + 38) 7 (some q)))
    refine S_if_eq (pc := 114) (tgt := 124) dX9_advance_114 rfl (fun hc16 => ?_) (fun hc16 => ?_)
    · replace H := H.1 hc16
      refine S_aload_n (pc := 124) dX9_advance_124 rfl rfl ?_
      refine S_aload_n (pc := 125) dX9_advance_125 rfl rfl ?_
      refine S_get (pc := 126) (v := .int (f13 (A + 38) 5)) dX9_advance_126 flX9_46 (sA_38 hs) rfl ?_
      refine S_callV (As := [.int (f13 (A + 38) 5)]) (mc := 0) (ms := 0) (pc := 129) dX9_advance_129 miX9_isDigit mvX9_isDigit mlX9_94 rfl (sA_38 hs) rfl rfl rfl (RmOK.of rfl) H ?_
      rintro _ _ ⟨x19, f17, g18, rfl, rfl, H⟩
      show WP _ _ _ _ _ _ _ 132 [some (.ref (A + 38)), some (.int a1), some (.int a2)] [.int x19] (sh, f17, g18, (up2 fR (A + 38) 7 (some q)))
      refine S_if_eq (pc := 132) (tgt := 142) dX9_advance_132 rfl (fun hc20 => ?_) (fun hc20 => ?_)
      · replace H := H.1 hc20
        refine S_aload_n (pc := 142) dX9_advance_142 rfl rfl ?_
        refine S_iconst (pc := 143) dX9_advance_143 ic3 ?_
        refine S_putI (pc := 144) dX9_advance_144 flX9_58 (sA_38 hs) (Nat.succ_pos _) (nf_9_10) rfl rfl (fun _ => rfl) ?_
        refine S_aload_n (pc := 147) dX9_advance_147 rfl rfl ?_
        refine S_aload_n (pc := 148) dX9_advance_148 rfl rfl ?_
        refine S_getR (pc := 149) dX9_advance_149 flX9_15 (sA_38 hs) rfl ((up2_ne (by simp)).trans (rA_38_3 hs)) ?_
        refine S_aload_n (pc := 152) dX9_advance_152 rfl rfl ?_
        refine S_get (pc := 153) (v := .int ((up2 f17 (A + 38) 10 (nI 3)) (A + 38) 5)) dX9_advance_153 flX9_46 (sA_38 hs) rfl ?_
        refine S_eqi (x := f17 (A + 38) 5) ((up2_k (by decide)).trans rfl) ?_
        obtain ⟨hb21, H⟩ := H
        refine S_iald (pc := 156) dX9_advance_156 (sA_1 hs) hb21 ?_
        refine S_eqi (x := f17 (A + 1) (f17 (A + 38) 5).toNatClampNeg) ((up2_r (by omega)).trans rfl) ?_
        refine S_putI (pc := 157) dX9_advance_157 flX9_100 (sA_38 hs) (Nat.succ_pos _) (nf_9_13) rfl rfl (fun _ => rfl) ?_
        refine S_aload_n (pc := 160) dX9_advance_160 rfl rfl ?_
        refine S_dup (pc := 161) dX9_advance_161 rfl ?_
        refine S_get (pc := 162) (v := .int ((up2 (up2 f17 (A + 38) 10 (nI 3)) (A + 38) 13 (f17 (A + 1) (f17 (A + 38) 5).toNatClampNeg)) (A + 38) 5)) dX9_advance_162 flX9_46 (sA_38 hs) rfl ?_
        refine S_eqi (x := f17 (A + 38) 5) ((up2_k (by decide)).trans ((up2_k (by decide)).trans rfl)) ?_
        refine S_iconst (pc := 165) dX9_advance_165 ic1 ?_
        refine S_iadd (pc := 166) dX9_advance_166 ?_
        refine S_putI (pc := 167) dX9_advance_167 flX9_46 (sA_38 hs) (Nat.succ_pos _) (nf_9_5) rfl rfl (fun _ => rfl) ?_
        exact H
      · replace H := H.2 hc20
        refine S_aload_n (pc := 135) dX9_advance_135 rfl rfl ?_
        refine S_callV (As := []) (mc := 0) (ms := 0) (pc := 136) dX9_advance_136 miX9_takeNumber mvX9_takeNumber mlX9_97 rfl (sA_38 hs) rfl rfl rfl (RmOK.of rfl) H ?_
        rintro _ _ ⟨f22, g23, rfl, rfl, H⟩
        show WP _ _ _ _ _ _ _ 139 [some (.ref (A + 38)), some (.int a1), some (.int a2)] [] (sh, f22, g23, (up2 fR (A + 38) 7 (some q)))
        refine S_goto (pc := 139) (tgt := 170) dX9_advance_139 rfl ?_
        exact H
    · replace H := H.2 hc16
      refine S_aload_n (pc := 117) dX9_advance_117 rfl rfl ?_
      refine S_callV (As := []) (mc := 0) (ms := 0) (pc := 118) dX9_advance_118 miX9_takeWord mvX9_takeWord mlX9_91 rfl (sA_38 hs) rfl rfl rfl (RmOK.of rfl) H ?_
      rintro _ _ ⟨f24, g25, rfl, rfl, H⟩
      show WP _ _ _ _ _ _ _ 121 [some (.ref (A + 38)), some (.int a1), some (.int a2)] [] (sh, f24, g25, (up2 fR (A + 38) 7 (some q)))
      refine S_goto (pc := 121) (tgt := 170) dX9_advance_121 rfl ?_
      exact H
  · replace H := H.2 hc12
    refine S_aload_n (pc := 98) dX9_advance_98 rfl rfl ?_
    refine S_iconst (pc := 99) dX9_advance_99 ic0 ?_
    refine S_putI (pc := 100) dX9_advance_100 flX9_58 (sA_38 hs) (Nat.succ_pos _) (nf_9_10) rfl rfl (fun _ => rfl) ?_
    refine S_goto (pc := 103) (tgt := 170) dX9_advance_103 rfl ?_
    exact H
set_option maxHeartbeats 2000000 in
set_option maxRecDepth 4000 in
theorem VX9_advance_66 {l : Launch} {G : Gx} {d : Nat} {Q : Option Value → Hp → Prop} {sh : Sh} {fR : FRt} {A p q : Nat} {f : FI} {g : FL} {a1 : Int32} {a2 : Int32} (hs : StA sh fR A) (hp : fR (A + 38) 6 = some p) (hP : StPl sh fR p) (hq : StF sh fR q)
    (H : LpX9_advance_27 l G d Q sh fR A p q (up2 f (A + 38) 5 ((f (A + 38) 5) + (nI 1))) g a1 a2) :
    LpX9_advance_66 l G d Q sh fR A p q f g a1 a2 := by
  refine S_aload_n (pc := 66) dX9_advance_66 rfl rfl ?_
  refine S_dup (pc := 67) dX9_advance_67 rfl ?_
  refine S_get (pc := 68) (v := .int (f (A + 38) 5)) dX9_advance_68 flX9_46 (sA_38 hs) rfl ?_
  refine S_iconst (pc := 71) dX9_advance_71 ic1 ?_
  refine S_iadd (pc := 72) dX9_advance_72 ?_
  refine S_putI (pc := 73) dX9_advance_73 flX9_46 (sA_38 hs) (Nat.succ_pos _) (nf_9_5) rfl rfl (fun _ => rfl) ?_
  refine S_goto (pc := 76) (tgt := 27) dX9_advance_76 rfl ?_
  exact H
set_option maxHeartbeats 2000000 in
set_option maxRecDepth 4000 in
theorem VX9_advance_170 {l : Launch} {G : Gx} {d : Nat} {Q : Option Value → Hp → Prop} {sh : Sh} {fR : FRt} {A p q : Nat} {f : FI} {g : FL} {a1 : Int32} {a2 : Int32} (hs : StA sh fR A) (hp : fR (A + 38) 6 = some p) (hP : StPl sh fR p) (hq : StF sh fR q)
    (H : ((a1 = 0 → Q none (sh, f, g, (up2 fR (A + 38) 7 (some q)))) ∧ (¬ a1 = 0 → ((¬ (f (A + 38) 11) = a2 → Q none (sh, f, g, (up2 fR (A + 38) 7 (some q)))) ∧ ((f (A + 38) 11) = a2 → (((f (A + 38) 10) = 0 → Q none (sh, f, g, (up2 fR (A + 38) 7 (some q)))) ∧ (¬ (f (A + 38) 10) = 0 → (((f (A + 38) 10) = (nI 3) → Q none (sh, f, g, (up2 fR (A + 38) 7 (some q)))) ∧ (¬ (f (A + 38) 10) = (nI 3) → Q none (sh, (up2 (up2 f (A + 38) 10 (nI 4)) (A + 38) 12 (f (A + 38) 11)), g, (up2 fR (A + 38) 7 (some q)))))))))))) :
    LpX9_advance_170 l G d Q sh fR A p q f g a1 a2 := by
  refine S_iload_n (pc := 170) dX9_advance_170 rfl rfl ?_
  refine S_if_eq (pc := 171) (tgt := 210) dX9_advance_171 rfl (fun hc26 => ?_) (fun hc26 => ?_)
  · replace H := H.1 hc26
    exact S_vreturn dX9_advance_210 rfl H
  · replace H := H.2 hc26
    refine S_aload_n (pc := 174) dX9_advance_174 rfl rfl ?_
    refine S_get (pc := 175) (v := .int (f (A + 38) 11)) dX9_advance_175 flX9_80 (sA_38 hs) rfl ?_
    refine S_iload_n (pc := 178) dX9_advance_178 rfl rfl ?_
    refine S_icmp_ne (pc := 179) (tgt := 210) dX9_advance_179 rfl (fun hc27 => ?_) (fun hc27 => ?_)
    · replace H := H.1 hc27
      exact S_vreturn dX9_advance_210 rfl H
    · replace H := H.2 hc27
      refine S_aload_n (pc := 182) dX9_advance_182 rfl rfl ?_
      refine S_get (pc := 183) (v := .int (f (A + 38) 10)) dX9_advance_183 flX9_58 (sA_38 hs) rfl ?_
      refine S_if_eq (pc := 186) (tgt := 210) dX9_advance_186 rfl (fun hc28 => ?_) (fun hc28 => ?_)
      · replace H := H.1 hc28
        exact S_vreturn dX9_advance_210 rfl H
      · replace H := H.2 hc28
        refine S_aload_n (pc := 189) dX9_advance_189 rfl rfl ?_
        refine S_get (pc := 190) (v := .int (f (A + 38) 10)) dX9_advance_190 flX9_58 (sA_38 hs) rfl ?_
        refine S_iconst (pc := 193) dX9_advance_193 ic3 ?_
        refine S_icmp_eq (pc := 194) (tgt := 210) dX9_advance_194 rfl (fun hc29 => ?_) (fun hc29 => ?_)
        · replace H := H.1 hc29
          exact S_vreturn dX9_advance_210 rfl H
        · replace H := H.2 hc29
          refine S_aload_n (pc := 197) dX9_advance_197 rfl rfl ?_
          refine S_iconst (pc := 198) dX9_advance_198 ic4 ?_
          refine S_putI (pc := 199) dX9_advance_199 flX9_58 (sA_38 hs) (Nat.succ_pos _) (nf_9_10) rfl rfl (fun _ => rfl) ?_
          refine S_aload_n (pc := 202) dX9_advance_202 rfl rfl ?_
          refine S_aload_n (pc := 203) dX9_advance_203 rfl rfl ?_
          refine S_get (pc := 204) (v := .int ((up2 f (A + 38) 10 (nI 4)) (A + 38) 11)) dX9_advance_204 flX9_80 (sA_38 hs) rfl ?_
          refine S_eqi (x := f (A + 38) 11) ((up2_k (by decide)).trans rfl) ?_
          refine S_putI (pc := 207) dX9_advance_207 flX9_77 (sA_38 hs) (Nat.succ_pos _) (nf_9_12) rfl rfl (fun _ => rfl) ?_
          exact S_vreturn dX9_advance_210 rfl H
set_option maxHeartbeats 2000000 in
set_option maxRecDepth 4000 in
theorem VX9_isLetter {l : Launch} {G : Gx} {d : Nat} {Q : Option Value → Hp → Prop} {sh : Sh} {fR : FRt} {A p q : Nat} {f : FI} {g : FL} {a1 : Int32} (hs : StA sh fR A) (hp : fR (A + 38) 6 = some p) (hP : StPl sh fR p) (hq : StF sh fR q)
    (H : (((f (A + 38) 4) ≤ a1 → Q (some (.int (nI 0))) (sh, f, g, (up2 fR (A + 38) 7 (some q)))) ∧ (¬ (f (A + 38) 4) ≤ a1 → inb a1 1600 ∧ (((f (A + 1) a1.toNatClampNeg) < (nI 97) → Q (some (.int (nI 0))) (sh, f, g, (up2 fR (A + 38) 7 (some q)))) ∧ (¬ (f (A + 1) a1.toNatClampNeg) < (nI 97) → inb a1 1600 ∧ (((nI 122) < (f (A + 1) a1.toNatClampNeg) → Q (some (.int (nI 0))) (sh, f, g, (up2 fR (A + 38) 7 (some q)))) ∧ (¬ (nI 122) < (f (A + 1) a1.toNatClampNeg) → Q (some (.int (nI 1))) (sh, f, g, (up2 fR (A + 38) 7 (some q)))))))))) :
    Cl l G d 0 0 mX9_isLetter [.ref (A + 38), .int a1] (sh, f, g, (up2 fR (A + 38) 7 (some q))) Q := by
  refine Cl.of (L0 := [some (.ref (A + 38)), some (.int a1)]) miX9_isLetter rfl rfl ?_
  refine S_iload_n (pc := 0) dX9_isLetter_0 rfl rfl ?_
  refine S_aload_n (pc := 1) dX9_isLetter_1 rfl rfl ?_
  refine S_get (pc := 2) (v := .int (f (A + 38) 4)) dX9_isLetter_2 flX9_43 (sA_38 hs) rfl ?_
  refine S_icmp_ge (pc := 5) (tgt := 34) dX9_isLetter_5 rfl (fun hc1 => ?_) (fun hc1 => ?_)
  · replace H := H.1 hc1
    refine S_iconst (pc := 34) dX9_isLetter_34 ic0 ?_
    exact S_zreturn dX9_isLetter_35 rfl (Or.inl rfl) H
  · replace H := H.2 hc1
    refine S_aload_n (pc := 8) dX9_isLetter_8 rfl rfl ?_
    refine S_getR (pc := 9) dX9_isLetter_9 flX9_15 (sA_38 hs) rfl ((up2_ne (by simp)).trans (rA_38_3 hs)) ?_
    refine S_iload_n (pc := 12) dX9_isLetter_12 rfl rfl ?_
    obtain ⟨hb2, H⟩ := H
    refine S_iald (pc := 13) dX9_isLetter_13 (sA_1 hs) hb2 ?_
    refine S_bipush (pc := 14) dX9_isLetter_14 bp97 ?_
    refine S_icmp_lt (pc := 16) (tgt := 34) dX9_isLetter_16 rfl (fun hc3 => ?_) (fun hc3 => ?_)
    · replace H := H.1 hc3
      refine S_iconst (pc := 34) dX9_isLetter_34 ic0 ?_
      exact S_zreturn dX9_isLetter_35 rfl (Or.inl rfl) H
    · replace H := H.2 hc3
      refine S_aload_n (pc := 19) dX9_isLetter_19 rfl rfl ?_
      refine S_getR (pc := 20) dX9_isLetter_20 flX9_15 (sA_38 hs) rfl ((up2_ne (by simp)).trans (rA_38_3 hs)) ?_
      refine S_iload_n (pc := 23) dX9_isLetter_23 rfl rfl ?_
      obtain ⟨hb4, H⟩ := H
      refine S_iald (pc := 24) dX9_isLetter_24 (sA_1 hs) hb4 ?_
      refine S_bipush (pc := 25) dX9_isLetter_25 bp122 ?_
      refine S_icmp_gt (pc := 27) (tgt := 34) dX9_isLetter_27 rfl (fun hc5 => ?_) (fun hc5 => ?_)
      · replace H := H.1 hc5
        refine S_iconst (pc := 34) dX9_isLetter_34 ic0 ?_
        exact S_zreturn dX9_isLetter_35 rfl (Or.inl rfl) H
      · replace H := H.2 hc5
        refine S_iconst (pc := 30) dX9_isLetter_30 ic1 ?_
        refine S_goto (pc := 31) (tgt := 35) dX9_isLetter_31 rfl ?_
        exact S_zreturn dX9_isLetter_35 rfl (Or.inr rfl) H
set_option maxHeartbeats 2000000 in
set_option maxRecDepth 4000 in
theorem VX9_isDigit {l : Launch} {G : Gx} {d : Nat} {Q : Option Value → Hp → Prop} {sh : Sh} {fR : FRt} {A p q : Nat} {f : FI} {g : FL} {a1 : Int32} (hs : StA sh fR A) (hp : fR (A + 38) 6 = some p) (hP : StPl sh fR p) (hq : StF sh fR q)
    (H : (((f (A + 38) 4) ≤ a1 → Q (some (.int (nI 0))) (sh, f, g, (up2 fR (A + 38) 7 (some q)))) ∧ (¬ (f (A + 38) 4) ≤ a1 → inb a1 1600 ∧ (((f (A + 1) a1.toNatClampNeg) < (nI 48) → Q (some (.int (nI 0))) (sh, f, g, (up2 fR (A + 38) 7 (some q)))) ∧ (¬ (f (A + 1) a1.toNatClampNeg) < (nI 48) → inb a1 1600 ∧ (((nI 57) < (f (A + 1) a1.toNatClampNeg) → Q (some (.int (nI 0))) (sh, f, g, (up2 fR (A + 38) 7 (some q)))) ∧ (¬ (nI 57) < (f (A + 1) a1.toNatClampNeg) → Q (some (.int (nI 1))) (sh, f, g, (up2 fR (A + 38) 7 (some q)))))))))) :
    Cl l G d 0 0 mX9_isDigit [.ref (A + 38), .int a1] (sh, f, g, (up2 fR (A + 38) 7 (some q))) Q := by
  refine Cl.of (L0 := [some (.ref (A + 38)), some (.int a1)]) miX9_isDigit rfl rfl ?_
  refine S_iload_n (pc := 0) dX9_isDigit_0 rfl rfl ?_
  refine S_aload_n (pc := 1) dX9_isDigit_1 rfl rfl ?_
  refine S_get (pc := 2) (v := .int (f (A + 38) 4)) dX9_isDigit_2 flX9_43 (sA_38 hs) rfl ?_
  refine S_icmp_ge (pc := 5) (tgt := 34) dX9_isDigit_5 rfl (fun hc1 => ?_) (fun hc1 => ?_)
  · replace H := H.1 hc1
    refine S_iconst (pc := 34) dX9_isDigit_34 ic0 ?_
    exact S_zreturn dX9_isDigit_35 rfl (Or.inl rfl) H
  · replace H := H.2 hc1
    refine S_aload_n (pc := 8) dX9_isDigit_8 rfl rfl ?_
    refine S_getR (pc := 9) dX9_isDigit_9 flX9_15 (sA_38 hs) rfl ((up2_ne (by simp)).trans (rA_38_3 hs)) ?_
    refine S_iload_n (pc := 12) dX9_isDigit_12 rfl rfl ?_
    obtain ⟨hb2, H⟩ := H
    refine S_iald (pc := 13) dX9_isDigit_13 (sA_1 hs) hb2 ?_
    refine S_bipush (pc := 14) dX9_isDigit_14 bp48 ?_
    refine S_icmp_lt (pc := 16) (tgt := 34) dX9_isDigit_16 rfl (fun hc3 => ?_) (fun hc3 => ?_)
    · replace H := H.1 hc3
      refine S_iconst (pc := 34) dX9_isDigit_34 ic0 ?_
      exact S_zreturn dX9_isDigit_35 rfl (Or.inl rfl) H
    · replace H := H.2 hc3
      refine S_aload_n (pc := 19) dX9_isDigit_19 rfl rfl ?_
      refine S_getR (pc := 20) dX9_isDigit_20 flX9_15 (sA_38 hs) rfl ((up2_ne (by simp)).trans (rA_38_3 hs)) ?_
      refine S_iload_n (pc := 23) dX9_isDigit_23 rfl rfl ?_
      obtain ⟨hb4, H⟩ := H
      refine S_iald (pc := 24) dX9_isDigit_24 (sA_1 hs) hb4 ?_
      refine S_bipush (pc := 25) dX9_isDigit_25 bp57 ?_
      refine S_icmp_gt (pc := 27) (tgt := 34) dX9_isDigit_27 rfl (fun hc5 => ?_) (fun hc5 => ?_)
      · replace H := H.1 hc5
        refine S_iconst (pc := 34) dX9_isDigit_34 ic0 ?_
        exact S_zreturn dX9_isDigit_35 rfl (Or.inl rfl) H
      · replace H := H.2 hc5
        refine S_iconst (pc := 30) dX9_isDigit_30 ic1 ?_
        refine S_goto (pc := 31) (tgt := 35) dX9_isDigit_31 rfl ?_
        exact S_zreturn dX9_isDigit_35 rfl (Or.inr rfl) H
abbrev LpX9_takeWord_4 (l : Launch) (G : Gx) (d : Nat) (Q : Option Value → Hp → Prop) (sh : Sh) (fR : FRt) (A p q : Nat) (f : FI) (g : FL) (a1 : Int32) (a2 : Int32) : Prop := WP l G (Zq G 0 0 Q) mX9_takeWord (rmd (d + 1) 0 0) 0 0 4 [some (.ref (A + 38)), some (.int a1), some (.int a2), none] [] (sh, f, g, (up2 fR (A + 38) 7 (some q)))
abbrev LpX9_takeWord_58 (l : Launch) (G : Gx) (d : Nat) (Q : Option Value → Hp → Prop) (sh : Sh) (fR : FRt) (A p q : Nat) (f : FI) (g : FL) (a1 : Int32) : Prop := WP l G (Zq G 0 0 Q) mX9_takeWord (rmd (d + 1) 0 0) 0 0 58 [some (.ref (A + 38)), some (.int a1), none, none] [] (sh, f, g, (up2 fR (A + 38) 7 (some q)))
abbrev LpX9_takeWord_98 (l : Launch) (G : Gx) (d : Nat) (Q : Option Value → Hp → Prop) (sh : Sh) (fR : FRt) (A p q : Nat) (f : FI) (g : FL) (a1 : Int32) (a3 : Int32) : Prop := WP l G (Zq G 0 0 Q) mX9_takeWord (rmd (d + 1) 0 0) 0 0 98 [some (.ref (A + 38)), some (.int a1), none, some (.int a3)] [] (sh, f, g, (up2 fR (A + 38) 7 (some q)))
abbrev LpX9_takeWord_119 (l : Launch) (G : Gx) (d : Nat) (Q : Option Value → Hp → Prop) (sh : Sh) (fR : FRt) (A p q : Nat) (f : FI) (g : FL) (a1 : Int32) (a3 : Int32) : Prop := WP l G (Zq G 0 0 Q) mX9_takeWord (rmd (d + 1) 0 0) 0 0 119 [some (.ref (A + 38)), some (.int a1), none, some (.int a3)] [] (sh, f, g, (up2 fR (A + 38) 7 (some q)))
set_option maxHeartbeats 2000000 in
set_option maxRecDepth 4000 in
theorem VX9_takeWord {l : Launch} {G : Gx} {d : Nat} {Q : Option Value → Hp → Prop} {sh : Sh} {fR : FRt} {A p q : Nat} {f : FI} {g : FL}  (hs : StA sh fR A) (hp : fR (A + 38) 6 = some p) (hP : StPl sh fR p) (hq : StF sh fR q)
    (H : LpX9_takeWord_4 l G d Q sh fR A p q f g (nI 0) (nI 0)) :
    Cl l G (d + 1) 0 0 mX9_takeWord [.ref (A + 38)] (sh, f, g, (up2 fR (A + 38) 7 (some q))) Q := by
  refine Cl.of (L0 := [some (.ref (A + 38)), none, none, none]) miX9_takeWord rfl rfl ?_
  refine S_iconst (pc := 0) dX9_takeWord_0 ic0 ?_
  refine S_istore_n (pc := 1) (L' := [some (.ref (A + 38)), some (.int (nI 0)), none, none]) dX9_takeWord_1 rfl (by decide) rfl ?_
  refine S_iconst (pc := 2) dX9_takeWord_2 ic0 ?_
  refine S_istore_n (pc := 3) (L' := [some (.ref (A + 38)), some (.int (nI 0)), some (.int (nI 0)), none]) dX9_takeWord_3 rfl (by decide) rfl ?_
  exact H
set_option maxHeartbeats 2000000 in
set_option maxRecDepth 4000 in
theorem VX9_takeWord_4 {l : Launch} {G : Gx} {d : Nat} {Q : Option Value → Hp → Prop} {sh : Sh} {fR : FRt} {A p q : Nat} {f : FI} {g : FL} {a1 : Int32} {a2 : Int32} (hs : StA sh fR A) (hp : fR (A + 38) 6 = some p) (hP : StPl sh fR p) (hq : StF sh fR q)
    (H : (((nI 6) ≤ a2 → LpX9_takeWord_58 l G d Q sh fR A p q f g a1) ∧ (¬ (nI 6) ≤ a2 → Cl l G d 0 0 mX9_isLetter [.ref (A + 38), .int (f (A + 38) 5)] (sh, f, g, (up2 fR (A + 38) 7 (some q))) (qi sh (up2 fR (A + 38) 7 (some q)) fun x4 f2 g3 => ((x4 = 0 → LpX9_takeWord_58 l G d Q sh fR A p q f2 g3 a1) ∧ (¬ x4 = 0 → inb (f2 (A + 38) 5) 1600 ∧ (∀ w7 : Int32, w7 = a1 ||| ((((f2 (A + 1) (f2 (A + 38) 5).toNatClampNeg) - (nI 97)) + (nI 1)) <<< (((nI 5) * a2) &&& 31)) → LpX9_takeWord_4 l G d Q sh fR A p q (up2 f2 (A + 38) 5 ((f2 (A + 38) 5) + (nI 1))) g3 w7 (a2 + nI 1)))))))) :
    LpX9_takeWord_4 l G d Q sh fR A p q f g a1 a2 := by
  refine S_iload_n (pc := 4) dX9_takeWord_4 rfl rfl ?_
  refine S_bipush (pc := 5) dX9_takeWord_5 bp6 ?_
  refine S_icmp_ge (pc := 7) (tgt := 58) dX9_takeWord_7 rfl (fun hc1 => ?_) (fun hc1 => ?_)
  · replace H := H.1 hc1
    exact S_weak (L' := [some (.ref (A + 38)), some (.int a1), none, none]) (ls_e (ls_e (ls_n (ls_e ls_0)))) H
  · replace H := H.2 hc1
    refine S_aload_n (pc := 10) dX9_takeWord_10 rfl rfl ?_
    refine S_aload_n (pc := 11) dX9_takeWord_11 rfl rfl ?_
    refine S_get (pc := 12) (v := .int (f (A + 38) 5)) dX9_takeWord_12 flX9_46 (sA_38 hs) rfl ?_
    refine S_callV (As := [.int (f (A + 38) 5)]) (mc := 0) (ms := 0) (pc := 15) dX9_takeWord_15 miX9_isLetter mvX9_isLetter mlX9_87 rfl (sA_38 hs) rfl rfl rfl (RmOK.of rfl) H ?_
    rintro _ _ ⟨x4, f2, g3, rfl, rfl, H⟩
    show WP _ _ _ _ _ _ _ 18 [some (.ref (A + 38)), some (.int a1), some (.int a2), none] [.int x4] (sh, f2, g3, (up2 fR (A + 38) 7 (some q)))
    refine S_if_eq (pc := 18) (tgt := 58) dX9_takeWord_18 rfl (fun hc5 => ?_) (fun hc5 => ?_)
    · replace H := H.1 hc5
      exact S_weak (L' := [some (.ref (A + 38)), some (.int a1), none, none]) (ls_e (ls_e (ls_n (ls_e ls_0)))) H
    · replace H := H.2 hc5
      refine S_iload_n (pc := 21) dX9_takeWord_21 rfl rfl ?_
      refine S_aload_n (pc := 22) dX9_takeWord_22 rfl rfl ?_
      refine S_getR (pc := 23) dX9_takeWord_23 flX9_15 (sA_38 hs) rfl ((up2_ne (by simp)).trans (rA_38_3 hs)) ?_
      refine S_aload_n (pc := 26) dX9_takeWord_26 rfl rfl ?_
      refine S_get (pc := 27) (v := .int (f2 (A + 38) 5)) dX9_takeWord_27 flX9_46 (sA_38 hs) rfl ?_
      obtain ⟨hb6, H⟩ := H
      refine S_iald (pc := 30) dX9_takeWord_30 (sA_1 hs) hb6 ?_
      refine S_bipush (pc := 31) dX9_takeWord_31 bp97 ?_
      refine S_isub (pc := 33) dX9_takeWord_33 ?_
      refine S_iconst (pc := 34) dX9_takeWord_34 ic1 ?_
      refine S_iadd (pc := 35) dX9_takeWord_35 ?_
      refine S_iconst (pc := 36) dX9_takeWord_36 ic5 ?_
      refine S_iload_n (pc := 37) dX9_takeWord_37 rfl rfl ?_
      refine S_imul (pc := 38) dX9_takeWord_38 ?_
      refine S_ishl (pc := 39) dX9_takeWord_39 ?_
      refine S_ior (pc := 40) dX9_takeWord_40 ?_
      refine S_namei (fun w7 e8 => ?_)
      replace H := H w7 e8
      refine S_istore_n (pc := 41) (L' := [some (.ref (A + 38)), some (.int w7), some (.int a2), none]) dX9_takeWord_41 rfl (by decide) rfl ?_
      refine S_aload_n (pc := 42) dX9_takeWord_42 rfl rfl ?_
      refine S_dup (pc := 43) dX9_takeWord_43 rfl ?_
      refine S_get (pc := 44) (v := .int (f2 (A + 38) 5)) dX9_takeWord_44 flX9_46 (sA_38 hs) rfl ?_
      refine S_iconst (pc := 47) dX9_takeWord_47 ic1 ?_
      refine S_iadd (pc := 48) dX9_takeWord_48 ?_
      refine S_putI (pc := 49) dX9_takeWord_49 flX9_46 (sA_38 hs) (Nat.succ_pos _) (nf_9_5) rfl rfl (fun _ => rfl) ?_
      refine S_iinc (pc := 52) (v := nI 1) (L' := [some (.ref (A + 38)), some (.int w7), some (.int (a2 + nI 1)), none]) dX9_takeWord_52 rfl ic1 rfl ?_
      refine S_goto (pc := 55) (tgt := 4) dX9_takeWord_55 rfl ?_
      exact H
set_option maxHeartbeats 2000000 in
set_option maxRecDepth 4000 in
theorem VX9_takeWord_58 {l : Launch} {G : Gx} {d : Nat} {Q : Option Value → Hp → Prop} {sh : Sh} {fR : FRt} {A p q : Nat} {f : FI} {g : FL} {a1 : Int32} (hs : StA sh fR A) (hp : fR (A + 38) 6 = some p) (hP : StPl sh fR p) (hq : StF sh fR q)
    (H : Cl l G d 0 0 mX9_isLetter [.ref (A + 38), .int (f (A + 38) 5)] (sh, f, g, (up2 fR (A + 38) 7 (some q))) (qi sh (up2 fR (A + 38) 7 (some q)) fun x11 f9 g10 => ((x11 = 0 → LpX9_takeWord_98 l G d Q sh fR A p q (up2 (up2 (up2 (up2 f9 (A + 38) 10 (nI 1)) (A + 38) 12 (f9 (A + 38) 5)) (A + 38) 13 a1) (A + 38) 14 (-1)) g10 a1 (nI 0)) ∧ (¬ x11 = 0 → LpX9_takeWord_98 l G d Q sh fR A p q (up2 (up2 (up2 (up2 f9 (A + 38) 10 (nI 4)) (A + 38) 12 (f9 (A + 38) 5)) (A + 38) 13 a1) (A + 38) 14 (-1)) g10 a1 (nI 0))))) :
    LpX9_takeWord_58 l G d Q sh fR A p q f g a1 := by
  refine S_aload_n (pc := 58) dX9_takeWord_58 rfl rfl ?_
  refine S_aload_n (pc := 59) dX9_takeWord_59 rfl rfl ?_
  refine S_aload_n (pc := 60) dX9_takeWord_60 rfl rfl ?_
  refine S_get (pc := 61) (v := .int (f (A + 38) 5)) dX9_takeWord_61 flX9_46 (sA_38 hs) rfl ?_
  refine S_callV (As := [.int (f (A + 38) 5)]) (mc := 0) (ms := 0) (pc := 64) dX9_takeWord_64 miX9_isLetter mvX9_isLetter mlX9_87 rfl (sA_38 hs) rfl rfl rfl (RmOK.of rfl) H ?_
  rintro _ _ ⟨x11, f9, g10, rfl, rfl, H⟩
  show WP _ _ _ _ _ _ _ 67 [some (.ref (A + 38)), some (.int a1), none, none] [.int x11, .ref (A + 38)] (sh, f9, g10, (up2 fR (A + 38) 7 (some q)))
  refine S_if_eq (pc := 67) (tgt := 74) dX9_takeWord_67 rfl (fun hc12 => ?_) (fun hc12 => ?_)
  · replace H := H.1 hc12
    refine S_iconst (pc := 74) dX9_takeWord_74 ic1 ?_
    refine S_putI (pc := 75) dX9_takeWord_75 flX9_58 (sA_38 hs) (Nat.succ_pos _) (nf_9_10) rfl rfl (fun _ => rfl) ?_
    refine S_aload_n (pc := 78) dX9_takeWord_78 rfl rfl ?_
    refine S_aload_n (pc := 79) dX9_takeWord_79 rfl rfl ?_
    refine S_get (pc := 80) (v := .int ((up2 f9 (A + 38) 10 (nI 1)) (A + 38) 5)) dX9_takeWord_80 flX9_46 (sA_38 hs) rfl ?_
    refine S_eqi (x := f9 (A + 38) 5) ((up2_k (by decide)).trans rfl) ?_
    refine S_putI (pc := 83) dX9_takeWord_83 flX9_77 (sA_38 hs) (Nat.succ_pos _) (nf_9_12) rfl rfl (fun _ => rfl) ?_
    refine S_aload_n (pc := 86) dX9_takeWord_86 rfl rfl ?_
    refine S_iload_n (pc := 87) dX9_takeWord_87 rfl rfl ?_
    refine S_putI (pc := 88) dX9_takeWord_88 flX9_100 (sA_38 hs) (Nat.succ_pos _) (nf_9_13) rfl rfl (fun _ => rfl) ?_
    refine S_aload_n (pc := 91) dX9_takeWord_91 rfl rfl ?_
    refine S_iconst (pc := 92) dX9_takeWord_92 icm1 ?_
    refine S_putI (pc := 93) dX9_takeWord_93 flX9_103 (sA_38 hs) (Nat.succ_pos _) (nf_9_14) rfl rfl (fun _ => rfl) ?_
    refine S_iconst (pc := 96) dX9_takeWord_96 ic0 ?_
    refine S_istore_n (pc := 97) (L' := [some (.ref (A + 38)), some (.int a1), none, some (.int (nI 0))]) dX9_takeWord_97 rfl (by decide) rfl ?_
    exact H
  · replace H := H.2 hc12
    refine S_iconst (pc := 70) dX9_takeWord_70 ic4 ?_
    refine S_goto (pc := 71) (tgt := 75) dX9_takeWord_71 rfl ?_
    refine S_putI (pc := 75) dX9_takeWord_75 flX9_58 (sA_38 hs) (Nat.succ_pos _) (nf_9_10) rfl rfl (fun _ => rfl) ?_
    refine S_aload_n (pc := 78) dX9_takeWord_78 rfl rfl ?_
    refine S_aload_n (pc := 79) dX9_takeWord_79 rfl rfl ?_
    refine S_get (pc := 80) (v := .int ((up2 f9 (A + 38) 10 (nI 4)) (A + 38) 5)) dX9_takeWord_80 flX9_46 (sA_38 hs) rfl ?_
    refine S_eqi (x := f9 (A + 38) 5) ((up2_k (by decide)).trans rfl) ?_
    refine S_putI (pc := 83) dX9_takeWord_83 flX9_77 (sA_38 hs) (Nat.succ_pos _) (nf_9_12) rfl rfl (fun _ => rfl) ?_
    refine S_aload_n (pc := 86) dX9_takeWord_86 rfl rfl ?_
    refine S_iload_n (pc := 87) dX9_takeWord_87 rfl rfl ?_
    refine S_putI (pc := 88) dX9_takeWord_88 flX9_100 (sA_38 hs) (Nat.succ_pos _) (nf_9_13) rfl rfl (fun _ => rfl) ?_
    refine S_aload_n (pc := 91) dX9_takeWord_91 rfl rfl ?_
    refine S_iconst (pc := 92) dX9_takeWord_92 icm1 ?_
    refine S_putI (pc := 93) dX9_takeWord_93 flX9_103 (sA_38 hs) (Nat.succ_pos _) (nf_9_14) rfl rfl (fun _ => rfl) ?_
    refine S_iconst (pc := 96) dX9_takeWord_96 ic0 ?_
    refine S_istore_n (pc := 97) (L' := [some (.ref (A + 38)), some (.int a1), none, some (.int (nI 0))]) dX9_takeWord_97 rfl (by decide) rfl ?_
    exact H
set_option maxHeartbeats 2000000 in
set_option maxRecDepth 4000 in
theorem VX9_takeWord_98 {l : Launch} {G : Gx} {d : Nat} {Q : Option Value → Hp → Prop} {sh : Sh} {fR : FRt} {A p q : Nat} {f : FI} {g : FL} {a1 : Int32} {a3 : Int32} (hs : StA sh fR A) (hp : fR (A + 38) 6 = some p) (hP : StPl sh fR p) (hq : StF sh fR q)
    (H : (((nI 29) ≤ a3 → Q none (sh, f, g, (up2 fR (A + 38) 7 (some q)))) ∧ (¬ (nI 29) ≤ a3 → inb a3 29 ∧ ((¬ (f (A + 39) a3.toNatClampNeg) = a1 → LpX9_takeWord_119 l G d Q sh fR A p q f g a1 a3) ∧ ((f (A + 39) a3.toNatClampNeg) = a1 → LpX9_takeWord_119 l G d Q sh fR A p q (up2 f (A + 38) 14 a3) g a1 a3))))) :
    LpX9_takeWord_98 l G d Q sh fR A p q f g a1 a3 := by
  refine S_iload_n (pc := 98) dX9_takeWord_98 rfl rfl ?_
  refine S_bipush (pc := 99) dX9_takeWord_99 bp29 ?_
  refine S_icmp_ge (pc := 101) (tgt := 125) dX9_takeWord_101 rfl (fun hc13 => ?_) (fun hc13 => ?_)
  · replace H := H.1 hc13
    exact S_vreturn dX9_takeWord_125 rfl H
  · replace H := H.2 hc13
    refine S_aload_n (pc := 104) dX9_takeWord_104 rfl rfl ?_
    refine S_getR (pc := 105) dX9_takeWord_105 flX9_11 (sA_38 hs) rfl ((up2_ne (by simp)).trans (rA_38_0 hs)) ?_
    refine S_iload_n (pc := 108) dX9_takeWord_108 rfl rfl ?_
    obtain ⟨hb14, H⟩ := H
    refine S_iald (pc := 109) dX9_takeWord_109 (sA_39 hs) hb14 ?_
    refine S_iload_n (pc := 110) dX9_takeWord_110 rfl rfl ?_
    refine S_icmp_ne (pc := 111) (tgt := 119) dX9_takeWord_111 rfl (fun hc15 => ?_) (fun hc15 => ?_)
    · replace H := H.1 hc15
      exact H
    · replace H := H.2 hc15
      refine S_aload_n (pc := 114) dX9_takeWord_114 rfl rfl ?_
      refine S_iload_n (pc := 115) dX9_takeWord_115 rfl rfl ?_
      refine S_putI (pc := 116) dX9_takeWord_116 flX9_103 (sA_38 hs) (Nat.succ_pos _) (nf_9_14) rfl rfl (fun _ => rfl) ?_
      exact H
set_option maxHeartbeats 2000000 in
set_option maxRecDepth 4000 in
theorem VX9_takeWord_119 {l : Launch} {G : Gx} {d : Nat} {Q : Option Value → Hp → Prop} {sh : Sh} {fR : FRt} {A p q : Nat} {f : FI} {g : FL} {a1 : Int32} {a3 : Int32} (hs : StA sh fR A) (hp : fR (A + 38) 6 = some p) (hP : StPl sh fR p) (hq : StF sh fR q)
    (H : LpX9_takeWord_98 l G d Q sh fR A p q f g a1 (a3 + nI 1)) :
    LpX9_takeWord_119 l G d Q sh fR A p q f g a1 a3 := by
  refine S_iinc (pc := 119) (v := nI 1) (L' := [some (.ref (A + 38)), some (.int a1), none, some (.int (a3 + nI 1))]) dX9_takeWord_119 rfl ic1 rfl ?_
  refine S_goto (pc := 122) (tgt := 98) dX9_takeWord_122 rfl ?_
  exact H
abbrev LpX9_takeNumber_7 (l : Launch) (G : Gx) (d : Nat) (Q : Option Value → Hp → Prop) (sh : Sh) (fR : FRt) (A p q : Nat) (f : FI) (g : FL) (a1 : Int32) : Prop := WP l G (Zq G 0 0 Q) mX9_takeNumber (rmd (d + 1) 0 0) 0 0 7 [some (.ref (A + 38)), some (.int a1)] [] (sh, f, g, (up2 fR (A + 38) 7 (some q)))
abbrev LpX9_takeNumber_63 (l : Launch) (G : Gx) (d : Nat) (Q : Option Value → Hp → Prop) (sh : Sh) (fR : FRt) (A p q : Nat) (f : FI) (g : FL)  : Prop := WP l G (Zq G 0 0 Q) mX9_takeNumber (rmd (d + 1) 0 0) 0 0 63 [some (.ref (A + 38)), none] [] (sh, f, g, (up2 fR (A + 38) 7 (some q)))
set_option maxHeartbeats 2000000 in
set_option maxRecDepth 4000 in
theorem VX9_takeNumber {l : Launch} {G : Gx} {d : Nat} {Q : Option Value → Hp → Prop} {sh : Sh} {fR : FRt} {A p q : Nat} {f : FI} {g : FL}  (hs : StA sh fR A) (hp : fR (A + 38) 6 = some p) (hP : StPl sh fR p) (hq : StF sh fR q)
    (H : LpX9_takeNumber_7 l G d Q sh fR A p q (up2 f (A + 38) 13 (nI 0)) g (nI 0)) :
    Cl l G (d + 1) 0 0 mX9_takeNumber [.ref (A + 38)] (sh, f, g, (up2 fR (A + 38) 7 (some q))) Q := by
  refine Cl.of (L0 := [some (.ref (A + 38)), none]) miX9_takeNumber rfl rfl ?_
  refine S_aload_n (pc := 0) dX9_takeNumber_0 rfl rfl ?_
  refine S_iconst (pc := 1) dX9_takeNumber_1 ic0 ?_
  refine S_putI (pc := 2) dX9_takeNumber_2 flX9_100 (sA_38 hs) (Nat.succ_pos _) (nf_9_13) rfl rfl (fun _ => rfl) ?_
  refine S_iconst (pc := 5) dX9_takeNumber_5 ic0 ?_
  refine S_istore_n (pc := 6) (L' := [some (.ref (A + 38)), some (.int (nI 0))]) dX9_takeNumber_6 rfl (by decide) rfl ?_
  exact H
set_option maxHeartbeats 2000000 in
set_option maxRecDepth 4000 in
theorem VX9_takeNumber_7 {l : Launch} {G : Gx} {d : Nat} {Q : Option Value → Hp → Prop} {sh : Sh} {fR : FRt} {A p q : Nat} {f : FI} {g : FL} {a1 : Int32} (hs : StA sh fR A) (hp : fR (A + 38) 6 = some p) (hP : StPl sh fR p) (hq : StF sh fR q)
    (H : (((nI 4) ≤ a1 → LpX9_takeNumber_63 l G d Q sh fR A p q f g) ∧ (¬ (nI 4) ≤ a1 → Cl l G d 0 0 mX9_isDigit [.ref (A + 38), .int (f (A + 38) 5)] (sh, f, g, (up2 fR (A + 38) 7 (some q))) (qi sh (up2 fR (A + 38) 7 (some q)) fun x4 f2 g3 => ((x4 = 0 → LpX9_takeNumber_63 l G d Q sh fR A p q f2 g3) ∧ (¬ x4 = 0 → inb (f2 (A + 38) 5) 1600 ∧ LpX9_takeNumber_7 l G d Q sh fR A p q (up2 (up2 f2 (A + 38) 13 ((((nI 10) * (f2 (A + 38) 13)) + (f2 (A + 1) (f2 (A + 38) 5).toNatClampNeg)) - (nI 48))) (A + 38) 5 ((f2 (A + 38) 5) + (nI 1))) g3 (a1 + nI 1))))))) :
    LpX9_takeNumber_7 l G d Q sh fR A p q f g a1 := by
  refine S_iload_n (pc := 7) dX9_takeNumber_7 rfl rfl ?_
  refine S_iconst (pc := 8) dX9_takeNumber_8 ic4 ?_
  refine S_icmp_ge (pc := 9) (tgt := 63) dX9_takeNumber_9 rfl (fun hc1 => ?_) (fun hc1 => ?_)
  · replace H := H.1 hc1
    exact S_weak (L' := [some (.ref (A + 38)), none]) (ls_e (ls_n ls_0)) H
  · replace H := H.2 hc1
    refine S_aload_n (pc := 12) dX9_takeNumber_12 rfl rfl ?_
    refine S_aload_n (pc := 13) dX9_takeNumber_13 rfl rfl ?_
    refine S_get (pc := 14) (v := .int (f (A + 38) 5)) dX9_takeNumber_14 flX9_46 (sA_38 hs) rfl ?_
    refine S_callV (As := [.int (f (A + 38) 5)]) (mc := 0) (ms := 0) (pc := 17) dX9_takeNumber_17 miX9_isDigit mvX9_isDigit mlX9_94 rfl (sA_38 hs) rfl rfl rfl (RmOK.of rfl) H ?_
    rintro _ _ ⟨x4, f2, g3, rfl, rfl, H⟩
    show WP _ _ _ _ _ _ _ 20 [some (.ref (A + 38)), some (.int a1)] [.int x4] (sh, f2, g3, (up2 fR (A + 38) 7 (some q)))
    refine S_if_eq (pc := 20) (tgt := 63) dX9_takeNumber_20 rfl (fun hc5 => ?_) (fun hc5 => ?_)
    · replace H := H.1 hc5
      exact S_weak (L' := [some (.ref (A + 38)), none]) (ls_e (ls_n ls_0)) H
    · replace H := H.2 hc5
      refine S_aload_n (pc := 23) dX9_takeNumber_23 rfl rfl ?_
      refine S_bipush (pc := 24) dX9_takeNumber_24 bp10 ?_
      refine S_aload_n (pc := 26) dX9_takeNumber_26 rfl rfl ?_
      refine S_get (pc := 27) (v := .int (f2 (A + 38) 13)) dX9_takeNumber_27 flX9_100 (sA_38 hs) rfl ?_
      refine S_imul (pc := 30) dX9_takeNumber_30 ?_
      refine S_aload_n (pc := 31) dX9_takeNumber_31 rfl rfl ?_
      refine S_getR (pc := 32) dX9_takeNumber_32 flX9_15 (sA_38 hs) rfl ((up2_ne (by simp)).trans (rA_38_3 hs)) ?_
      refine S_aload_n (pc := 35) dX9_takeNumber_35 rfl rfl ?_
      refine S_get (pc := 36) (v := .int (f2 (A + 38) 5)) dX9_takeNumber_36 flX9_46 (sA_38 hs) rfl ?_
      obtain ⟨hb6, H⟩ := H
      refine S_iald (pc := 39) dX9_takeNumber_39 (sA_1 hs) hb6 ?_
      refine S_iadd (pc := 40) dX9_takeNumber_40 ?_
      refine S_bipush (pc := 41) dX9_takeNumber_41 bp48 ?_
      refine S_isub (pc := 43) dX9_takeNumber_43 ?_
      refine S_putI (pc := 44) dX9_takeNumber_44 flX9_100 (sA_38 hs) (Nat.succ_pos _) (nf_9_13) rfl rfl (fun _ => rfl) ?_
      refine S_aload_n (pc := 47) dX9_takeNumber_47 rfl rfl ?_
      refine S_dup (pc := 48) dX9_takeNumber_48 rfl ?_
      refine S_get (pc := 49) (v := .int ((up2 f2 (A + 38) 13 ((((nI 10) * (f2 (A + 38) 13)) + (f2 (A + 1) (f2 (A + 38) 5).toNatClampNeg)) - (nI 48))) (A + 38) 5)) dX9_takeNumber_49 flX9_46 (sA_38 hs) rfl ?_
      refine S_eqi (x := f2 (A + 38) 5) ((up2_k (by decide)).trans rfl) ?_
      refine S_iconst (pc := 52) dX9_takeNumber_52 ic1 ?_
      refine S_iadd (pc := 53) dX9_takeNumber_53 ?_
      refine S_putI (pc := 54) dX9_takeNumber_54 flX9_46 (sA_38 hs) (Nat.succ_pos _) (nf_9_5) rfl rfl (fun _ => rfl) ?_
      refine S_iinc (pc := 57) (v := nI 1) (L' := [some (.ref (A + 38)), some (.int (a1 + nI 1))]) dX9_takeNumber_57 rfl ic1 rfl ?_
      refine S_goto (pc := 60) (tgt := 7) dX9_takeNumber_60 rfl ?_
      exact H
set_option maxHeartbeats 2000000 in
set_option maxRecDepth 4000 in
theorem VX9_takeNumber_63 {l : Launch} {G : Gx} {d : Nat} {Q : Option Value → Hp → Prop} {sh : Sh} {fR : FRt} {A p q : Nat} {f : FI} {g : FL}  (hs : StA sh fR A) (hp : fR (A + 38) 6 = some p) (hP : StPl sh fR p) (hq : StF sh fR q)
    (H : Cl l G d 0 0 mX9_isDigit [.ref (A + 38), .int (f (A + 38) 5)] (sh, f, g, (up2 fR (A + 38) 7 (some q))) (qi sh (up2 fR (A + 38) 7 (some q)) fun x9 f7 g8 => ((x9 = 0 → Q none (sh, (up2 (up2 f7 (A + 38) 10 (nI 2)) (A + 38) 12 (f7 (A + 38) 5)), g8, (up2 fR (A + 38) 7 (some q)))) ∧ (¬ x9 = 0 → Q none (sh, (up2 (up2 f7 (A + 38) 10 (nI 4)) (A + 38) 12 (f7 (A + 38) 5)), g8, (up2 fR (A + 38) 7 (some q))))))) :
    LpX9_takeNumber_63 l G d Q sh fR A p q f g  := by
  refine S_aload_n (pc := 63) dX9_takeNumber_63 rfl rfl ?_
  refine S_aload_n (pc := 64) dX9_takeNumber_64 rfl rfl ?_
  refine S_aload_n (pc := 65) dX9_takeNumber_65 rfl rfl ?_
  refine S_get (pc := 66) (v := .int (f (A + 38) 5)) dX9_takeNumber_66 flX9_46 (sA_38 hs) rfl ?_
  refine S_callV (As := [.int (f (A + 38) 5)]) (mc := 0) (ms := 0) (pc := 69) dX9_takeNumber_69 miX9_isDigit mvX9_isDigit mlX9_94 rfl (sA_38 hs) rfl rfl rfl (RmOK.of rfl) H ?_
  rintro _ _ ⟨x9, f7, g8, rfl, rfl, H⟩
  show WP _ _ _ _ _ _ _ 72 [some (.ref (A + 38)), none] [.int x9, .ref (A + 38)] (sh, f7, g8, (up2 fR (A + 38) 7 (some q)))
  refine S_if_eq (pc := 72) (tgt := 79) dX9_takeNumber_72 rfl (fun hc10 => ?_) (fun hc10 => ?_)
  · replace H := H.1 hc10
    refine S_iconst (pc := 79) dX9_takeNumber_79 ic2 ?_
    refine S_putI (pc := 80) dX9_takeNumber_80 flX9_58 (sA_38 hs) (Nat.succ_pos _) (nf_9_10) rfl rfl (fun _ => rfl) ?_
    refine S_aload_n (pc := 83) dX9_takeNumber_83 rfl rfl ?_
    refine S_aload_n (pc := 84) dX9_takeNumber_84 rfl rfl ?_
    refine S_get (pc := 85) (v := .int ((up2 f7 (A + 38) 10 (nI 2)) (A + 38) 5)) dX9_takeNumber_85 flX9_46 (sA_38 hs) rfl ?_
    refine S_eqi (x := f7 (A + 38) 5) ((up2_k (by decide)).trans rfl) ?_
    refine S_putI (pc := 88) dX9_takeNumber_88 flX9_77 (sA_38 hs) (Nat.succ_pos _) (nf_9_12) rfl rfl (fun _ => rfl) ?_
    exact S_vreturn dX9_takeNumber_91 rfl H
  · replace H := H.2 hc10
    refine S_iconst (pc := 75) dX9_takeNumber_75 ic4 ?_
    refine S_goto (pc := 76) (tgt := 80) dX9_takeNumber_76 rfl ?_
    refine S_putI (pc := 80) dX9_takeNumber_80 flX9_58 (sA_38 hs) (Nat.succ_pos _) (nf_9_10) rfl rfl (fun _ => rfl) ?_
    refine S_aload_n (pc := 83) dX9_takeNumber_83 rfl rfl ?_
    refine S_aload_n (pc := 84) dX9_takeNumber_84 rfl rfl ?_
    refine S_get (pc := 85) (v := .int ((up2 f7 (A + 38) 10 (nI 4)) (A + 38) 5)) dX9_takeNumber_85 flX9_46 (sA_38 hs) rfl ?_
    refine S_eqi (x := f7 (A + 38) 5) ((up2_k (by decide)).trans rfl) ?_
    refine S_putI (pc := 88) dX9_takeNumber_88 flX9_77 (sA_38 hs) (Nat.succ_pos _) (nf_9_12) rfl rfl (fun _ => rfl) ?_
    exact S_vreturn dX9_takeNumber_91 rfl H
set_option maxHeartbeats 2000000 in
set_option maxRecDepth 4000 in
theorem VX9_isWord {l : Launch} {G : Gx} {d : Nat} {Q : Option Value → Hp → Prop} {sh : Sh} {fR : FRt} {A p q : Nat} {f : FI} {g : FL} {a1 : Int32} (hs : StA sh fR A) (hp : fR (A + 38) 6 = some p) (hP : StPl sh fR p) (hq : StF sh fR q)
    (H : ((¬ (f (A + 38) 1) = 0 → Q (some (.int (nI 0))) (sh, f, g, (up2 fR (A + 38) 7 (some q)))) ∧ ((f (A + 38) 1) = 0 → ((¬ (f (A + 38) 10) = (nI 1) → Q (some (.int (nI 0))) (sh, f, g, (up2 fR (A + 38) 7 (some q)))) ∧ ((f (A + 38) 10) = (nI 1) → ((¬ (f (A + 38) 14) = a1 → Q (some (.int (nI 0))) (sh, f, g, (up2 fR (A + 38) 7 (some q)))) ∧ ((f (A + 38) 14) = a1 → Q (some (.int (nI 1))) (sh, f, g, (up2 fR (A + 38) 7 (some q)))))))))) :
    Cl l G d 0 0 mX9_isWord [.ref (A + 38), .int a1] (sh, f, g, (up2 fR (A + 38) 7 (some q))) Q := by
  refine Cl.of (L0 := [some (.ref (A + 38)), some (.int a1)]) miX9_isWord rfl rfl ?_
  refine S_aload_n (pc := 0) dX9_isWord_0 rfl rfl ?_
  refine S_get (pc := 1) (v := .int (f (A + 38) 1)) dX9_isWord_1 flX9_52 (sA_38 hs) rfl ?_
  refine S_if_ne (pc := 4) (tgt := 27) dX9_isWord_4 rfl (fun hc1 => ?_) (fun hc1 => ?_)
  · replace H := H.1 hc1
    refine S_iconst (pc := 27) dX9_isWord_27 ic0 ?_
    exact S_zreturn dX9_isWord_28 rfl (Or.inl rfl) H
  · replace H := H.2 hc1
    refine S_aload_n (pc := 7) dX9_isWord_7 rfl rfl ?_
    refine S_get (pc := 8) (v := .int (f (A + 38) 10)) dX9_isWord_8 flX9_58 (sA_38 hs) rfl ?_
    refine S_iconst (pc := 11) dX9_isWord_11 ic1 ?_
    refine S_icmp_ne (pc := 12) (tgt := 27) dX9_isWord_12 rfl (fun hc2 => ?_) (fun hc2 => ?_)
    · replace H := H.1 hc2
      refine S_iconst (pc := 27) dX9_isWord_27 ic0 ?_
      exact S_zreturn dX9_isWord_28 rfl (Or.inl rfl) H
    · replace H := H.2 hc2
      refine S_aload_n (pc := 15) dX9_isWord_15 rfl rfl ?_
      refine S_get (pc := 16) (v := .int (f (A + 38) 14)) dX9_isWord_16 flX9_103 (sA_38 hs) rfl ?_
      refine S_iload_n (pc := 19) dX9_isWord_19 rfl rfl ?_
      refine S_icmp_ne (pc := 20) (tgt := 27) dX9_isWord_20 rfl (fun hc3 => ?_) (fun hc3 => ?_)
      · replace H := H.1 hc3
        refine S_iconst (pc := 27) dX9_isWord_27 ic0 ?_
        exact S_zreturn dX9_isWord_28 rfl (Or.inl rfl) H
      · replace H := H.2 hc3
        refine S_iconst (pc := 23) dX9_isWord_23 ic1 ?_
        refine S_goto (pc := 24) (tgt := 28) dX9_isWord_24 rfl ?_
        exact S_zreturn dX9_isWord_28 rfl (Or.inr rfl) H
set_option maxHeartbeats 2000000 in
set_option maxRecDepth 4000 in
theorem VX9_isSign {l : Launch} {G : Gx} {d : Nat} {Q : Option Value → Hp → Prop} {sh : Sh} {fR : FRt} {A p q : Nat} {f : FI} {g : FL} {a1 : Int32} (hs : StA sh fR A) (hp : fR (A + 38) 6 = some p) (hP : StPl sh fR p) (hq : StF sh fR q)
    (H : ((¬ (f (A + 38) 1) = 0 → Q (some (.int (nI 0))) (sh, f, g, (up2 fR (A + 38) 7 (some q)))) ∧ ((f (A + 38) 1) = 0 → ((¬ (f (A + 38) 10) = (nI 3) → Q (some (.int (nI 0))) (sh, f, g, (up2 fR (A + 38) 7 (some q)))) ∧ ((f (A + 38) 10) = (nI 3) → ((¬ (f (A + 38) 13) = a1 → Q (some (.int (nI 0))) (sh, f, g, (up2 fR (A + 38) 7 (some q)))) ∧ ((f (A + 38) 13) = a1 → Q (some (.int (nI 1))) (sh, f, g, (up2 fR (A + 38) 7 (some q)))))))))) :
    Cl l G d 0 0 mX9_isSign [.ref (A + 38), .int a1] (sh, f, g, (up2 fR (A + 38) 7 (some q))) Q := by
  refine Cl.of (L0 := [some (.ref (A + 38)), some (.int a1)]) miX9_isSign rfl rfl ?_
  refine S_aload_n (pc := 0) dX9_isSign_0 rfl rfl ?_
  refine S_get (pc := 1) (v := .int (f (A + 38) 1)) dX9_isSign_1 flX9_52 (sA_38 hs) rfl ?_
  refine S_if_ne (pc := 4) (tgt := 27) dX9_isSign_4 rfl (fun hc1 => ?_) (fun hc1 => ?_)
  · replace H := H.1 hc1
    refine S_iconst (pc := 27) dX9_isSign_27 ic0 ?_
    exact S_zreturn dX9_isSign_28 rfl (Or.inl rfl) H
  · replace H := H.2 hc1
    refine S_aload_n (pc := 7) dX9_isSign_7 rfl rfl ?_
    refine S_get (pc := 8) (v := .int (f (A + 38) 10)) dX9_isSign_8 flX9_58 (sA_38 hs) rfl ?_
    refine S_iconst (pc := 11) dX9_isSign_11 ic3 ?_
    refine S_icmp_ne (pc := 12) (tgt := 27) dX9_isSign_12 rfl (fun hc2 => ?_) (fun hc2 => ?_)
    · replace H := H.1 hc2
      refine S_iconst (pc := 27) dX9_isSign_27 ic0 ?_
      exact S_zreturn dX9_isSign_28 rfl (Or.inl rfl) H
    · replace H := H.2 hc2
      refine S_aload_n (pc := 15) dX9_isSign_15 rfl rfl ?_
      refine S_get (pc := 16) (v := .int (f (A + 38) 13)) dX9_isSign_16 flX9_100 (sA_38 hs) rfl ?_
      refine S_iload_n (pc := 19) dX9_isSign_19 rfl rfl ?_
      refine S_icmp_ne (pc := 20) (tgt := 27) dX9_isSign_20 rfl (fun hc3 => ?_) (fun hc3 => ?_)
      · replace H := H.1 hc3
        refine S_iconst (pc := 27) dX9_isSign_27 ic0 ?_
        exact S_zreturn dX9_isSign_28 rfl (Or.inl rfl) H
      · replace H := H.2 hc3
        refine S_iconst (pc := 23) dX9_isSign_23 ic1 ?_
        refine S_goto (pc := 24) (tgt := 28) dX9_isSign_24 rfl ?_
        exact S_zreturn dX9_isSign_28 rfl (Or.inr rfl) H
set_option maxHeartbeats 2000000 in
set_option maxRecDepth 4000 in
theorem VX9_expectWord {l : Launch} {G : Gx} {d : Nat} {Q : Option Value → Hp → Prop} {sh : Sh} {fR : FRt} {A p q : Nat} {f : FI} {g : FL} {a1 : Int32} (hs : StA sh fR A) (hp : fR (A + 38) 6 = some p) (hP : StPl sh fR p) (hq : StF sh fR q)
    (H : Cl l G (d + 2) 0 0 mX9_isWord [.ref (A + 38), .int a1] (sh, f, g, (up2 fR (A + 38) 7 (some q))) (qi sh (up2 fR (A + 38) 7 (some q)) fun x3 f1 g2 => ((x3 = 0 → Cl l G (d + 2) 0 0 mX9_blameHere [.ref (A + 38)] (sh, f1, g2, (up2 fR (A + 38) 7 (some q))) (qv sh (up2 fR (A + 38) 7 (some q)) fun f5 g6 => Q none (sh, f5, g6, (up2 fR (A + 38) 7 (some q))))) ∧ (¬ x3 = 0 → Cl l G (d + 2) 0 0 mX9_advance [.ref (A + 38)] (sh, f1, g2, (up2 fR (A + 38) 7 (some q))) (qv sh (up2 fR (A + 38) 7 (some q)) fun f7 g8 => Q none (sh, f7, g8, (up2 fR (A + 38) 7 (some q)))))))) :
    Cl l G (d + 3) 0 0 mX9_expectWord [.ref (A + 38), .int a1] (sh, f, g, (up2 fR (A + 38) 7 (some q))) Q := by
  refine Cl.of (L0 := [some (.ref (A + 38)), some (.int a1)]) miX9_expectWord rfl rfl ?_
  refine S_aload_n (pc := 0) dX9_expectWord_0 rfl rfl ?_
  refine S_iload_n (pc := 1) dX9_expectWord_1 rfl rfl ?_
  refine S_callV (As := [.int a1]) (mc := 0) (ms := 0) (pc := 2) dX9_expectWord_2 miX9_isWord mvX9_isWord mlX9_106 rfl (sA_38 hs) rfl rfl rfl (RmOK.of rfl) H ?_
  rintro _ _ ⟨x3, f1, g2, rfl, rfl, H⟩
  show WP _ _ _ _ _ _ _ 5 [some (.ref (A + 38)), some (.int a1)] [.int x3] (sh, f1, g2, (up2 fR (A + 38) 7 (some q)))
  refine S_if_eq (pc := 5) (tgt := 15) dX9_expectWord_5 rfl (fun hc4 => ?_) (fun hc4 => ?_)
  · replace H := H.1 hc4
    refine S_aload_n (pc := 15) dX9_expectWord_15 rfl rfl ?_
    refine S_callV (As := []) (mc := 0) (ms := 0) (pc := 16) dX9_expectWord_16 miX9_blameHere mvX9_blameHere mlX9_109 rfl (sA_38 hs) rfl rfl rfl (RmOK.of rfl) H ?_
    rintro _ _ ⟨f5, g6, rfl, rfl, H⟩
    show WP _ _ _ _ _ _ _ 19 [some (.ref (A + 38)), some (.int a1)] [] (sh, f5, g6, (up2 fR (A + 38) 7 (some q)))
    exact S_vreturn dX9_expectWord_19 rfl H
  · replace H := H.2 hc4
    refine S_aload_n (pc := 8) dX9_expectWord_8 rfl rfl ?_
    refine S_callV (As := []) (mc := 0) (ms := 0) (pc := 9) dX9_expectWord_9 miX9_advance mvX9_advance mlX9_64 rfl (sA_38 hs) rfl rfl rfl (RmOK.of rfl) H ?_
    rintro _ _ ⟨f7, g8, rfl, rfl, H⟩
    show WP _ _ _ _ _ _ _ 12 [some (.ref (A + 38)), some (.int a1)] [] (sh, f7, g8, (up2 fR (A + 38) 7 (some q)))
    refine S_goto (pc := 12) (tgt := 19) dX9_expectWord_12 rfl ?_
    exact S_vreturn dX9_expectWord_19 rfl H
set_option maxHeartbeats 2000000 in
set_option maxRecDepth 4000 in
theorem VX9_expectSign {l : Launch} {G : Gx} {d : Nat} {Q : Option Value → Hp → Prop} {sh : Sh} {fR : FRt} {A p q : Nat} {f : FI} {g : FL} {a1 : Int32} (hs : StA sh fR A) (hp : fR (A + 38) 6 = some p) (hP : StPl sh fR p) (hq : StF sh fR q)
    (H : Cl l G (d + 2) 0 0 mX9_isSign [.ref (A + 38), .int a1] (sh, f, g, (up2 fR (A + 38) 7 (some q))) (qi sh (up2 fR (A + 38) 7 (some q)) fun x3 f1 g2 => ((x3 = 0 → Cl l G (d + 2) 0 0 mX9_blameHere [.ref (A + 38)] (sh, f1, g2, (up2 fR (A + 38) 7 (some q))) (qv sh (up2 fR (A + 38) 7 (some q)) fun f5 g6 => Q none (sh, f5, g6, (up2 fR (A + 38) 7 (some q))))) ∧ (¬ x3 = 0 → Cl l G (d + 2) 0 0 mX9_advance [.ref (A + 38)] (sh, f1, g2, (up2 fR (A + 38) 7 (some q))) (qv sh (up2 fR (A + 38) 7 (some q)) fun f7 g8 => Q none (sh, f7, g8, (up2 fR (A + 38) 7 (some q)))))))) :
    Cl l G (d + 3) 0 0 mX9_expectSign [.ref (A + 38), .int a1] (sh, f, g, (up2 fR (A + 38) 7 (some q))) Q := by
  refine Cl.of (L0 := [some (.ref (A + 38)), some (.int a1)]) miX9_expectSign rfl rfl ?_
  refine S_aload_n (pc := 0) dX9_expectSign_0 rfl rfl ?_
  refine S_iload_n (pc := 1) dX9_expectSign_1 rfl rfl ?_
  refine S_callV (As := [.int a1]) (mc := 0) (ms := 0) (pc := 2) dX9_expectSign_2 miX9_isSign mvX9_isSign mlX9_112 rfl (sA_38 hs) rfl rfl rfl (RmOK.of rfl) H ?_
  rintro _ _ ⟨x3, f1, g2, rfl, rfl, H⟩
  show WP _ _ _ _ _ _ _ 5 [some (.ref (A + 38)), some (.int a1)] [.int x3] (sh, f1, g2, (up2 fR (A + 38) 7 (some q)))
  refine S_if_eq (pc := 5) (tgt := 15) dX9_expectSign_5 rfl (fun hc4 => ?_) (fun hc4 => ?_)
  · replace H := H.1 hc4
    refine S_aload_n (pc := 15) dX9_expectSign_15 rfl rfl ?_
    refine S_callV (As := []) (mc := 0) (ms := 0) (pc := 16) dX9_expectSign_16 miX9_blameHere mvX9_blameHere mlX9_109 rfl (sA_38 hs) rfl rfl rfl (RmOK.of rfl) H ?_
    rintro _ _ ⟨f5, g6, rfl, rfl, H⟩
    show WP _ _ _ _ _ _ _ 19 [some (.ref (A + 38)), some (.int a1)] [] (sh, f5, g6, (up2 fR (A + 38) 7 (some q)))
    exact S_vreturn dX9_expectSign_19 rfl H
  · replace H := H.2 hc4
    refine S_aload_n (pc := 8) dX9_expectSign_8 rfl rfl ?_
    refine S_callV (As := []) (mc := 0) (ms := 0) (pc := 9) dX9_expectSign_9 miX9_advance mvX9_advance mlX9_64 rfl (sA_38 hs) rfl rfl rfl (RmOK.of rfl) H ?_
    rintro _ _ ⟨f7, g8, rfl, rfl, H⟩
    show WP _ _ _ _ _ _ _ 12 [some (.ref (A + 38)), some (.int a1)] [] (sh, f7, g8, (up2 fR (A + 38) 7 (some q)))
    refine S_goto (pc := 12) (tgt := 19) dX9_expectSign_12 rfl ?_
    exact S_vreturn dX9_expectSign_19 rfl H
set_option maxHeartbeats 2000000 in
set_option maxRecDepth 4000 in
theorem VX9_expectNumber {l : Launch} {G : Gx} {d : Nat} {Q : Option Value → Hp → Prop} {sh : Sh} {fR : FRt} {A p q : Nat} {f : FI} {g : FL} {a1 : Int32} {a2 : Int32} (hs : StA sh fR A) (hp : fR (A + 38) 6 = some p) (hP : StPl sh fR p) (hq : StF sh fR q)
    (H : ((¬ (f (A + 38) 1) = 0 → Cl l G (d + 2) 0 0 mX9_blameHere [.ref (A + 38)] (sh, f, g, (up2 fR (A + 38) 7 (some q))) (qv sh (up2 fR (A + 38) 7 (some q)) fun f2 g3 => Q (some (.int (nI 0))) (sh, f2, g3, (up2 fR (A + 38) 7 (some q))))) ∧ ((f (A + 38) 1) = 0 → (((f (A + 38) 10) = (nI 2) → (∀ w5 : Int32, w5 = f (A + 38) 13 → ((w5 < a1 → Cl l G (d + 2) 0 0 mX9_blame [.ref (A + 38), .int (nI 4), .int (f (A + 38) 11)] (sh, f, g, (up2 fR (A + 38) 7 (some q))) (qv sh (up2 fR (A + 38) 7 (some q)) fun f8 g9 => Q (some (.int (nI 0))) (sh, f8, g9, (up2 fR (A + 38) 7 (some q))))) ∧ (¬ w5 < a1 → ((w5 ≤ a2 → Cl l G (d + 2) 0 0 mX9_advance [.ref (A + 38)] (sh, f, g, (up2 fR (A + 38) 7 (some q))) (qv sh (up2 fR (A + 38) 7 (some q)) fun f11 g12 => Q (some (.int w5)) (sh, f11, g12, (up2 fR (A + 38) 7 (some q))))) ∧ (¬ w5 ≤ a2 → Cl l G (d + 2) 0 0 mX9_blame [.ref (A + 38), .int (nI 4), .int (f (A + 38) 11)] (sh, f, g, (up2 fR (A + 38) 7 (some q))) (qv sh (up2 fR (A + 38) 7 (some q)) fun f13 g14 => Q (some (.int (nI 0))) (sh, f13, g14, (up2 fR (A + 38) 7 (some q)))))))))) ∧ (¬ (f (A + 38) 10) = (nI 2) → Cl l G (d + 2) 0 0 mX9_blameHere [.ref (A + 38)] (sh, f, g, (up2 fR (A + 38) 7 (some q))) (qv sh (up2 fR (A + 38) 7 (some q)) fun f15 g16 => Q (some (.int (nI 0))) (sh, f15, g16, (up2 fR (A + 38) 7 (some q))))))))) :
    Cl l G (d + 3) 0 0 mX9_expectNumber [.ref (A + 38), .int a1, .int a2] (sh, f, g, (up2 fR (A + 38) 7 (some q))) Q := by
  refine Cl.of (L0 := [some (.ref (A + 38)), some (.int a1), some (.int a2), none]) miX9_expectNumber rfl rfl ?_
  refine S_aload_n (pc := 0) dX9_expectNumber_0 rfl rfl ?_
  refine S_get (pc := 1) (v := .int (f (A + 38) 1)) dX9_expectNumber_1 flX9_52 (sA_38 hs) rfl ?_
  refine S_if_ne (pc := 4) (tgt := 15) dX9_expectNumber_4 rfl (fun hc1 => ?_) (fun hc1 => ?_)
  · replace H := H.1 hc1
    refine S_aload_n (pc := 15) dX9_expectNumber_15 rfl rfl ?_
    refine S_callV (As := []) (mc := 0) (ms := 0) (pc := 16) dX9_expectNumber_16 miX9_blameHere mvX9_blameHere mlX9_109 rfl (sA_38 hs) rfl rfl rfl (RmOK.of rfl) H ?_
    rintro _ _ ⟨f2, g3, rfl, rfl, H⟩
    show WP _ _ _ _ _ _ _ 19 [some (.ref (A + 38)), some (.int a1), some (.int a2), none] [] (sh, f2, g3, (up2 fR (A + 38) 7 (some q)))
    refine S_iconst (pc := 19) dX9_expectNumber_19 ic0 ?_
    exact S_ireturn dX9_expectNumber_20 rfl H
  · replace H := H.2 hc1
    refine S_aload_n (pc := 7) dX9_expectNumber_7 rfl rfl ?_
    refine S_get (pc := 8) (v := .int (f (A + 38) 10)) dX9_expectNumber_8 flX9_58 (sA_38 hs) rfl ?_
    refine S_iconst (pc := 11) dX9_expectNumber_11 ic2 ?_
    refine S_icmp_eq (pc := 12) (tgt := 21) dX9_expectNumber_12 rfl (fun hc4 => ?_) (fun hc4 => ?_)
    · replace H := H.1 hc4
      refine S_aload_n (pc := 21) dX9_expectNumber_21 rfl rfl ?_
      refine S_get (pc := 22) (v := .int (f (A + 38) 13)) dX9_expectNumber_22 flX9_100 (sA_38 hs) rfl ?_
      refine S_namei (fun w5 e6 => ?_)
      replace H := H w5 e6
      refine S_istore_n (pc := 25) (L' := [some (.ref (A + 38)), some (.int a1), some (.int a2), some (.int w5)]) dX9_expectNumber_25 rfl (by decide) rfl ?_
      refine S_iload_n (pc := 26) dX9_expectNumber_26 rfl rfl ?_
      refine S_iload_n (pc := 27) dX9_expectNumber_27 rfl rfl ?_
      refine S_icmp_lt (pc := 28) (tgt := 36) dX9_expectNumber_28 rfl (fun hc7 => ?_) (fun hc7 => ?_)
      · replace H := H.1 hc7
        refine S_aload_n (pc := 36) dX9_expectNumber_36 rfl rfl ?_
        refine S_iconst (pc := 37) dX9_expectNumber_37 ic4 ?_
        refine S_aload_n (pc := 38) dX9_expectNumber_38 rfl rfl ?_
        refine S_get (pc := 39) (v := .int (f (A + 38) 11)) dX9_expectNumber_39 flX9_80 (sA_38 hs) rfl ?_
        refine S_callV (As := [.int (nI 4), .int (f (A + 38) 11)]) (mc := 0) (ms := 0) (pc := 42) dX9_expectNumber_42 miX9_blame mvX9_blame mlX9_83 rfl (sA_38 hs) rfl rfl rfl (RmOK.of rfl) H ?_
        rintro _ _ ⟨f8, g9, rfl, rfl, H⟩
        show WP _ _ _ _ _ _ _ 45 [some (.ref (A + 38)), some (.int a1), some (.int a2), some (.int w5)] [] (sh, f8, g9, (up2 fR (A + 38) 7 (some q)))
        refine S_iconst (pc := 45) dX9_expectNumber_45 ic0 ?_
        exact S_ireturn dX9_expectNumber_46 rfl H
      · replace H := H.2 hc7
        refine S_iload_n (pc := 31) dX9_expectNumber_31 rfl rfl ?_
        refine S_iload_n (pc := 32) dX9_expectNumber_32 rfl rfl ?_
        refine S_icmp_le (pc := 33) (tgt := 47) dX9_expectNumber_33 rfl (fun hc10 => ?_) (fun hc10 => ?_)
        · replace H := H.1 hc10
          refine S_aload_n (pc := 47) dX9_expectNumber_47 rfl rfl ?_
          refine S_callV (As := []) (mc := 0) (ms := 0) (pc := 48) dX9_expectNumber_48 miX9_advance mvX9_advance mlX9_64 rfl (sA_38 hs) rfl rfl rfl (RmOK.of rfl) H ?_
          rintro _ _ ⟨f11, g12, rfl, rfl, H⟩
          show WP _ _ _ _ _ _ _ 51 [some (.ref (A + 38)), some (.int a1), some (.int a2), some (.int w5)] [] (sh, f11, g12, (up2 fR (A + 38) 7 (some q)))
          refine S_iload_n (pc := 51) dX9_expectNumber_51 rfl rfl ?_
          exact S_ireturn dX9_expectNumber_52 rfl H
        · replace H := H.2 hc10
          refine S_aload_n (pc := 36) dX9_expectNumber_36 rfl rfl ?_
          refine S_iconst (pc := 37) dX9_expectNumber_37 ic4 ?_
          refine S_aload_n (pc := 38) dX9_expectNumber_38 rfl rfl ?_
          refine S_get (pc := 39) (v := .int (f (A + 38) 11)) dX9_expectNumber_39 flX9_80 (sA_38 hs) rfl ?_
          refine S_callV (As := [.int (nI 4), .int (f (A + 38) 11)]) (mc := 0) (ms := 0) (pc := 42) dX9_expectNumber_42 miX9_blame mvX9_blame mlX9_83 rfl (sA_38 hs) rfl rfl rfl (RmOK.of rfl) H ?_
          rintro _ _ ⟨f13, g14, rfl, rfl, H⟩
          show WP _ _ _ _ _ _ _ 45 [some (.ref (A + 38)), some (.int a1), some (.int a2), some (.int w5)] [] (sh, f13, g14, (up2 fR (A + 38) 7 (some q)))
          refine S_iconst (pc := 45) dX9_expectNumber_45 ic0 ?_
          exact S_ireturn dX9_expectNumber_46 rfl H
    · replace H := H.2 hc4
      refine S_aload_n (pc := 15) dX9_expectNumber_15 rfl rfl ?_
      refine S_callV (As := []) (mc := 0) (ms := 0) (pc := 16) dX9_expectNumber_16 miX9_blameHere mvX9_blameHere mlX9_109 rfl (sA_38 hs) rfl rfl rfl (RmOK.of rfl) H ?_
      rintro _ _ ⟨f15, g16, rfl, rfl, H⟩
      show WP _ _ _ _ _ _ _ 19 [some (.ref (A + 38)), some (.int a1), some (.int a2), none] [] (sh, f15, g16, (up2 fR (A + 38) 7 (some q)))
      refine S_iconst (pc := 19) dX9_expectNumber_19 ic0 ?_
      exact S_ireturn dX9_expectNumber_20 rfl H
set_option maxHeartbeats 2000000 in
set_option maxRecDepth 4000 in
theorem VX9_readStatement {l : Launch} {G : Gx} {d : Nat} {Q : Option Value → Hp → Prop} {sh : Sh} {fR : FRt} {A p q : Nat} {f : FI} {g : FL} {a1 : Int32} (hs : StA sh fR A) (hp : fR (A + 38) 6 = some p) (hP : StPl sh fR p) (hq : StF sh fR q)
    (H : ((¬ a1 = 0 → ((a1 < (nI 40) → Cl l G (d + 11) 0 0 mX9_isWord [.ref (A + 38), .int (nI 4)] (sh, f, g, (up2 fR (A + 38) 7 (some q))) (qi sh (up2 fR (A + 38) 7 (some q)) fun x5 f3 g4 => ((x5 = 0 → Cl l G (d + 11) 0 0 mX9_isWord [.ref (A + 38), .int (nI 6)] (sh, f3, g4, (up2 fR (A + 38) 7 (some q))) (qi sh (up2 fR (A + 38) 7 (some q)) fun x9 f7 g8 => ((x9 = 0 → Cl l G (d + 11) 0 0 mX9_isWord [.ref (A + 38), .int (nI 9)] (sh, f7, g8, (up2 fR (A + 38) 7 (some q))) (qi sh (up2 fR (A + 38) 7 (some q)) fun x13 f11 g12 => ((x13 = 0 → Cl l G (d + 11) 0 0 mX9_isWord [.ref (A + 38), .int (nI 10)] (sh, f11, g12, (up2 fR (A + 38) 7 (some q))) (qi sh (up2 fR (A + 38) 7 (some q)) fun x17 f15 g16 => ((x17 = 0 → Cl l G (d + 11) 0 0 mX9_isWord [.ref (A + 38), .int (nI 11)] (sh, f15, g16, (up2 fR (A + 38) 7 (some q))) (qi sh (up2 fR (A + 38) 7 (some q)) fun x21 f19 g20 => ((x21 = 0 → Cl l G (d + 11) 0 0 mX9_isWord [.ref (A + 38), .int (nI 12)] (sh, f19, g20, (up2 fR (A + 38) 7 (some q))) (qi sh (up2 fR (A + 38) 7 (some q)) fun x25 f23 g24 => ((x25 = 0 → Cl l G (d + 11) 0 0 mX9_isWord [.ref (A + 38), .int (nI 13)] (sh, f23, g24, (up2 fR (A + 38) 7 (some q))) (qi sh (up2 fR (A + 38) 7 (some q)) fun x29 f27 g28 => ((x29 = 0 → Cl l G (d + 11) 0 0 mX9_blameHere [.ref (A + 38)] (sh, f27, g28, (up2 fR (A + 38) 7 (some q))) (qv sh (up2 fR (A + 38) 7 (some q)) fun f31 g32 => Q none (sh, f31, g32, (up2 fR (A + 38) 7 (some q))))) ∧ (¬ x29 = 0 → Cl l G (d + 11) 0 0 mX9_readFormula [.ref (A + 38), .ref (p + 14)] (sh, f27, g28, (up2 fR (A + 38) 7 (some q))) (qn sh fR (A + 38) fun q37 f35 g36 => Q none (sh, f35, g36, (up2 fR (A + 38) 7 (some q37)))))))) ∧ (¬ x25 = 0 → Cl l G (d + 11) 0 0 mX9_readFormula [.ref (A + 38), .ref (p + 11)] (sh, f23, g24, (up2 fR (A + 38) 7 (some q))) (qn sh fR (A + 38) fun q43 f41 g42 => Q none (sh, f41, g42, (up2 fR (A + 38) 7 (some q43)))))))) ∧ (¬ x21 = 0 → Cl l G (d + 11) 0 0 mX9_readFormula [.ref (A + 38), .ref (p + 8)] (sh, f19, g20, (up2 fR (A + 38) 7 (some q))) (qn sh fR (A + 38) fun q49 f47 g48 => Q none (sh, f47, g48, (up2 fR (A + 38) 7 (some q49)))))))) ∧ (¬ x17 = 0 → Cl l G (d + 11) 0 0 mX9_readFormula [.ref (A + 38), .ref (p + 5)] (sh, f15, g16, (up2 fR (A + 38) 7 (some q))) (qn sh fR (A + 38) fun q55 f53 g54 => Q none (sh, f53, g54, (up2 fR (A + 38) 7 (some q55)))))))) ∧ (¬ x13 = 0 → Cl l G (d + 11) 0 0 mX9_advance [.ref (A + 38)] (sh, f11, g12, (up2 fR (A + 38) 7 (some q))) (qv sh (up2 fR (A + 38) 7 (some q)) fun f57 g58 => Cl l G (d + 11) 0 0 mX9_expectNumber [.ref (A + 38), .int (nI 0), .int (nI 100)] (sh, f57, g58, (up2 fR (A + 38) 7 (some q))) (qi sh (up2 fR (A + 38) 7 (some q)) fun x61 f59 g60 => Q none (sh, (up2 f59 p 5 x61), g60, (up2 fR (A + 38) 7 (some q))))))))) ∧ (¬ x9 = 0 → Cl l G (d + 11) 0 0 mX9_readJoin [.ref (A + 38)] (sh, f7, g8, (up2 fR (A + 38) 7 (some q))) (qv sh (up2 fR (A + 38) 7 (some q)) fun f62 g63 => Q none (sh, f62, g63, (up2 fR (A + 38) 7 (some q)))))))) ∧ (¬ x5 = 0 → Cl l G (d + 11) 0 0 mX9_readPath [.ref (A + 38)] (sh, f3, g4, (up2 fR (A + 38) 7 (some q))) (qv sh (up2 fR (A + 38) 7 (some q)) fun f64 g65 => Q none (sh, f64, g65, (up2 fR (A + 38) 7 (some q)))))))) ∧ (¬ a1 < (nI 40) → Cl l G (d + 11) 0 0 mX9_blame [.ref (A + 38), .int (nI 6), .int (f (A + 38) 11)] (sh, f, g, (up2 fR (A + 38) 7 (some q))) (qv sh (up2 fR (A + 38) 7 (some q)) fun f66 g67 => Q none (sh, f66, g67, (up2 fR (A + 38) 7 (some q))))))) ∧ (a1 = 0 → Cl l G (d + 11) 0 0 mX9_readStream [.ref (A + 38)] (sh, f, g, (up2 fR (A + 38) 7 (some q))) (qv sh (up2 fR (A + 38) 7 (some q)) fun f68 g69 => Q none (sh, f68, g69, (up2 fR (A + 38) 7 (some q))))))) :
    Cl l G (d + 12) 0 0 mX9_readStatement [.ref (A + 38), .int a1] (sh, f, g, (up2 fR (A + 38) 7 (some q))) Q := by
  refine Cl.of (L0 := [some (.ref (A + 38)), some (.int a1)]) miX9_readStatement rfl rfl ?_
  refine S_iload_n (pc := 0) dX9_readStatement_0 rfl rfl ?_
  refine S_if_ne (pc := 1) (tgt := 11) dX9_readStatement_1 rfl (fun hc1 => ?_) (fun hc1 => ?_)
  · replace H := H.1 hc1
    refine S_iload_n (pc := 11) dX9_readStatement_11 rfl rfl ?_
    refine S_bipush (pc := 12) dX9_readStatement_12 bp40 ?_
    refine S_icmp_lt (pc := 14) (tgt := 30) dX9_readStatement_14 rfl (fun hc2 => ?_) (fun hc2 => ?_)
    · replace H := H.1 hc2
      refine S_aload_n (pc := 30) dX9_readStatement_30 rfl rfl ?_
      refine S_iconst (pc := 31) dX9_readStatement_31 ic4 ?_
      refine S_callV (As := [.int (nI 4)]) (mc := 0) (ms := 0) (pc := 32) dX9_readStatement_32 miX9_isWord mvX9_isWord mlX9_106 rfl (sA_38 hs) rfl rfl rfl (RmOK.of rfl) H ?_
      rintro _ _ ⟨x5, f3, g4, rfl, rfl, H⟩
      show WP _ _ _ _ _ _ _ 35 [some (.ref (A + 38)), some (.int a1)] [.int x5] (sh, f3, g4, (up2 fR (A + 38) 7 (some q)))
      refine S_if_eq (pc := 35) (tgt := 45) dX9_readStatement_35 rfl (fun hc6 => ?_) (fun hc6 => ?_)
      · replace H := H.1 hc6
        refine S_aload_n (pc := 45) dX9_readStatement_45 rfl rfl ?_
        refine S_bipush (pc := 46) dX9_readStatement_46 bp6 ?_
        refine S_callV (As := [.int (nI 6)]) (mc := 0) (ms := 0) (pc := 48) dX9_readStatement_48 miX9_isWord mvX9_isWord mlX9_106 rfl (sA_38 hs) rfl rfl rfl (RmOK.of rfl) H ?_
        rintro _ _ ⟨x9, f7, g8, rfl, rfl, H⟩
        show WP _ _ _ _ _ _ _ 51 [some (.ref (A + 38)), some (.int a1)] [.int x9] (sh, f7, g8, (up2 fR (A + 38) 7 (some q)))
        refine S_if_eq (pc := 51) (tgt := 61) dX9_readStatement_51 rfl (fun hc10 => ?_) (fun hc10 => ?_)
        · replace H := H.1 hc10
          refine S_aload_n (pc := 61) dX9_readStatement_61 rfl rfl ?_
          refine S_bipush (pc := 62) dX9_readStatement_62 bp9 ?_
          refine S_callV (As := [.int (nI 9)]) (mc := 0) (ms := 0) (pc := 64) dX9_readStatement_64 miX9_isWord mvX9_isWord mlX9_106 rfl (sA_38 hs) rfl rfl rfl (RmOK.of rfl) H ?_
          rintro _ _ ⟨x13, f11, g12, rfl, rfl, H⟩
          show WP _ _ _ _ _ _ _ 67 [some (.ref (A + 38)), some (.int a1)] [.int x13] (sh, f11, g12, (up2 fR (A + 38) 7 (some q)))
          refine S_if_eq (pc := 67) (tgt := 91) dX9_readStatement_67 rfl (fun hc14 => ?_) (fun hc14 => ?_)
          · replace H := H.1 hc14
            refine S_aload_n (pc := 91) dX9_readStatement_91 rfl rfl ?_
            refine S_bipush (pc := 92) dX9_readStatement_92 bp10 ?_
            refine S_callV (As := [.int (nI 10)]) (mc := 0) (ms := 0) (pc := 94) dX9_readStatement_94 miX9_isWord mvX9_isWord mlX9_106 rfl (sA_38 hs) rfl rfl rfl (RmOK.of rfl) H ?_
            rintro _ _ ⟨x17, f15, g16, rfl, rfl, H⟩
            show WP _ _ _ _ _ _ _ 97 [some (.ref (A + 38)), some (.int a1)] [.int x17] (sh, f15, g16, (up2 fR (A + 38) 7 (some q)))
            refine S_if_eq (pc := 97) (tgt := 114) dX9_readStatement_97 rfl (fun hc18 => ?_) (fun hc18 => ?_)
            · replace H := H.1 hc18
              refine S_aload_n (pc := 114) dX9_readStatement_114 rfl rfl ?_
              refine S_bipush (pc := 115) dX9_readStatement_115 bp11 ?_
              refine S_callV (As := [.int (nI 11)]) (mc := 0) (ms := 0) (pc := 117) dX9_readStatement_117 miX9_isWord mvX9_isWord mlX9_106 rfl (sA_38 hs) rfl rfl rfl (RmOK.of rfl) H ?_
              rintro _ _ ⟨x21, f19, g20, rfl, rfl, H⟩
              show WP _ _ _ _ _ _ _ 120 [some (.ref (A + 38)), some (.int a1)] [.int x21] (sh, f19, g20, (up2 fR (A + 38) 7 (some q)))
              refine S_if_eq (pc := 120) (tgt := 137) dX9_readStatement_120 rfl (fun hc22 => ?_) (fun hc22 => ?_)
              · replace H := H.1 hc22
                refine S_aload_n (pc := 137) dX9_readStatement_137 rfl rfl ?_
                refine S_bipush (pc := 138) dX9_readStatement_138 bp12 ?_
                refine S_callV (As := [.int (nI 12)]) (mc := 0) (ms := 0) (pc := 140) dX9_readStatement_140 miX9_isWord mvX9_isWord mlX9_106 rfl (sA_38 hs) rfl rfl rfl (RmOK.of rfl) H ?_
                rintro _ _ ⟨x25, f23, g24, rfl, rfl, H⟩
                show WP _ _ _ _ _ _ _ 143 [some (.ref (A + 38)), some (.int a1)] [.int x25] (sh, f23, g24, (up2 fR (A + 38) 7 (some q)))
                refine S_if_eq (pc := 143) (tgt := 160) dX9_readStatement_143 rfl (fun hc26 => ?_) (fun hc26 => ?_)
                · replace H := H.1 hc26
                  refine S_aload_n (pc := 160) dX9_readStatement_160 rfl rfl ?_
                  refine S_bipush (pc := 161) dX9_readStatement_161 bp13 ?_
                  refine S_callV (As := [.int (nI 13)]) (mc := 0) (ms := 0) (pc := 163) dX9_readStatement_163 miX9_isWord mvX9_isWord mlX9_106 rfl (sA_38 hs) rfl rfl rfl (RmOK.of rfl) H ?_
                  rintro _ _ ⟨x29, f27, g28, rfl, rfl, H⟩
                  show WP _ _ _ _ _ _ _ 166 [some (.ref (A + 38)), some (.int a1)] [.int x29] (sh, f27, g28, (up2 fR (A + 38) 7 (some q)))
                  refine S_if_eq (pc := 166) (tgt := 183) dX9_readStatement_166 rfl (fun hc30 => ?_) (fun hc30 => ?_)
                  · replace H := H.1 hc30
                    refine S_aload_n (pc := 183) dX9_readStatement_183 rfl rfl ?_
                    refine S_callV (As := []) (mc := 0) (ms := 0) (pc := 184) dX9_readStatement_184 miX9_blameHere mvX9_blameHere mlX9_109 rfl (sA_38 hs) rfl rfl rfl (RmOK.of rfl) H ?_
                    rintro _ _ ⟨f31, g32, rfl, rfl, H⟩
                    show WP _ _ _ _ _ _ _ 187 [some (.ref (A + 38)), some (.int a1)] [] (sh, f31, g32, (up2 fR (A + 38) 7 (some q)))
                    exact S_vreturn dX9_readStatement_187 rfl H
                  · replace H := H.2 hc30
                    refine S_aload_n (pc := 169) dX9_readStatement_169 rfl rfl ?_
                    refine S_aload_n (pc := 170) dX9_readStatement_170 rfl rfl ?_
                    refine S_getR (pc := 171) dX9_readStatement_171 flX9_18 (sA_38 hs) rfl ((up2_ne (by simp)).trans hp) ?_
                    refine S_getR (pc := 174) dX9_readStatement_174 flX9_141 (sL_0 hP) rfl ((up2_ne (by simp)).trans (rL_0_14 hP)) ?_
                    refine S_callV (As := [.ref (p + 14)]) (mc := 0) (ms := 0) (pc := 177) dX9_readStatement_177 miX9_readFormula mvX9_readFormula mlX9_131 rfl (sA_38 hs) rfl rfl rfl (RmOK.of rfl) H ?_
                    rintro _ _ ⟨q37, f35, g36, rfl, rfl, hq38, H⟩
                    show WP _ _ _ _ _ _ _ 180 [some (.ref (A + 38)), some (.int a1)] [] (sh, f35, g36, (up2 fR (A + 38) 7 (some q37)))
                    refine S_goto (pc := 180) (tgt := 187) dX9_readStatement_180 rfl ?_
                    exact S_vreturn dX9_readStatement_187 rfl H
                · replace H := H.2 hc26
                  refine S_aload_n (pc := 146) dX9_readStatement_146 rfl rfl ?_
                  refine S_aload_n (pc := 147) dX9_readStatement_147 rfl rfl ?_
                  refine S_getR (pc := 148) dX9_readStatement_148 flX9_18 (sA_38 hs) rfl ((up2_ne (by simp)).trans hp) ?_
                  refine S_getR (pc := 151) dX9_readStatement_151 flX9_138 (sL_0 hP) rfl ((up2_ne (by simp)).trans (rL_0_13 hP)) ?_
                  refine S_callV (As := [.ref (p + 11)]) (mc := 0) (ms := 0) (pc := 154) dX9_readStatement_154 miX9_readFormula mvX9_readFormula mlX9_131 rfl (sA_38 hs) rfl rfl rfl (RmOK.of rfl) H ?_
                  rintro _ _ ⟨q43, f41, g42, rfl, rfl, hq44, H⟩
                  show WP _ _ _ _ _ _ _ 157 [some (.ref (A + 38)), some (.int a1)] [] (sh, f41, g42, (up2 fR (A + 38) 7 (some q43)))
                  refine S_goto (pc := 157) (tgt := 187) dX9_readStatement_157 rfl ?_
                  exact S_vreturn dX9_readStatement_187 rfl H
              · replace H := H.2 hc22
                refine S_aload_n (pc := 123) dX9_readStatement_123 rfl rfl ?_
                refine S_aload_n (pc := 124) dX9_readStatement_124 rfl rfl ?_
                refine S_getR (pc := 125) dX9_readStatement_125 flX9_18 (sA_38 hs) rfl ((up2_ne (by simp)).trans hp) ?_
                refine S_getR (pc := 128) dX9_readStatement_128 flX9_135 (sL_0 hP) rfl ((up2_ne (by simp)).trans (rL_0_12 hP)) ?_
                refine S_callV (As := [.ref (p + 8)]) (mc := 0) (ms := 0) (pc := 131) dX9_readStatement_131 miX9_readFormula mvX9_readFormula mlX9_131 rfl (sA_38 hs) rfl rfl rfl (RmOK.of rfl) H ?_
                rintro _ _ ⟨q49, f47, g48, rfl, rfl, hq50, H⟩
                show WP _ _ _ _ _ _ _ 134 [some (.ref (A + 38)), some (.int a1)] [] (sh, f47, g48, (up2 fR (A + 38) 7 (some q49)))
                refine S_goto (pc := 134) (tgt := 187) dX9_readStatement_134 rfl ?_
                exact S_vreturn dX9_readStatement_187 rfl H
            · replace H := H.2 hc18
              refine S_aload_n (pc := 100) dX9_readStatement_100 rfl rfl ?_
              refine S_aload_n (pc := 101) dX9_readStatement_101 rfl rfl ?_
              refine S_getR (pc := 102) dX9_readStatement_102 flX9_18 (sA_38 hs) rfl ((up2_ne (by simp)).trans hp) ?_
              refine S_getR (pc := 105) dX9_readStatement_105 flX9_22 (sL_0 hP) rfl ((up2_ne (by simp)).trans (rL_0_11 hP)) ?_
              refine S_callV (As := [.ref (p + 5)]) (mc := 0) (ms := 0) (pc := 108) dX9_readStatement_108 miX9_readFormula mvX9_readFormula mlX9_131 rfl (sA_38 hs) rfl rfl rfl (RmOK.of rfl) H ?_
              rintro _ _ ⟨q55, f53, g54, rfl, rfl, hq56, H⟩
              show WP _ _ _ _ _ _ _ 111 [some (.ref (A + 38)), some (.int a1)] [] (sh, f53, g54, (up2 fR (A + 38) 7 (some q55)))
              refine S_goto (pc := 111) (tgt := 187) dX9_readStatement_111 rfl ?_
              exact S_vreturn dX9_readStatement_187 rfl H
          · replace H := H.2 hc14
            refine S_aload_n (pc := 70) dX9_readStatement_70 rfl rfl ?_
            refine S_callV (As := []) (mc := 0) (ms := 0) (pc := 71) dX9_readStatement_71 miX9_advance mvX9_advance mlX9_64 rfl (sA_38 hs) rfl rfl rfl (RmOK.of rfl) H ?_
            rintro _ _ ⟨f57, g58, rfl, rfl, H⟩
            show WP _ _ _ _ _ _ _ 74 [some (.ref (A + 38)), some (.int a1)] [] (sh, f57, g58, (up2 fR (A + 38) 7 (some q)))
            refine S_aload_n (pc := 74) dX9_readStatement_74 rfl rfl ?_
            refine S_getR (pc := 75) dX9_readStatement_75 flX9_18 (sA_38 hs) rfl ((up2_ne (by simp)).trans hp) ?_
            refine S_aload_n (pc := 78) dX9_readStatement_78 rfl rfl ?_
            refine S_iconst (pc := 79) dX9_readStatement_79 ic0 ?_
            refine S_bipush (pc := 80) dX9_readStatement_80 bp100 ?_
            refine S_callV (As := [.int (nI 0), .int (nI 100)]) (mc := 0) (ms := 0) (pc := 82) dX9_readStatement_82 miX9_expectNumber mvX9_expectNumber mlX9_124 rfl (sA_38 hs) rfl rfl rfl (RmOK.of rfl) H ?_
            rintro _ _ ⟨x61, f59, g60, rfl, rfl, H⟩
            show WP _ _ _ _ _ _ _ 85 [some (.ref (A + 38)), some (.int a1)] [.int x61, .ref p] (sh, f59, g60, (up2 fR (A + 38) 7 (some q)))
            refine S_putI (pc := 85) dX9_readStatement_85 flX9_128 (sL_0 hP) hP.2.2 (nf_6_5) rfl rfl (fun _ => rfl) ?_
            refine S_goto (pc := 88) (tgt := 187) dX9_readStatement_88 rfl ?_
            exact S_vreturn dX9_readStatement_187 rfl H
        · replace H := H.2 hc10
          refine S_aload_n (pc := 54) dX9_readStatement_54 rfl rfl ?_
          refine S_callV (As := []) (mc := 0) (ms := 0) (pc := 55) dX9_readStatement_55 miX9_readJoin mvX9_readJoin mlX9_121 rfl (sA_38 hs) rfl rfl rfl (RmOK.of rfl) H ?_
          rintro _ _ ⟨f62, g63, rfl, rfl, H⟩
          show WP _ _ _ _ _ _ _ 58 [some (.ref (A + 38)), some (.int a1)] [] (sh, f62, g63, (up2 fR (A + 38) 7 (some q)))
          refine S_goto (pc := 58) (tgt := 187) dX9_readStatement_58 rfl ?_
          exact S_vreturn dX9_readStatement_187 rfl H
      · replace H := H.2 hc6
        refine S_aload_n (pc := 38) dX9_readStatement_38 rfl rfl ?_
        refine S_callV (As := []) (mc := 0) (ms := 0) (pc := 39) dX9_readStatement_39 miX9_readPath mvX9_readPath mlX9_118 rfl (sA_38 hs) rfl rfl rfl (RmOK.of rfl) H ?_
        rintro _ _ ⟨f64, g65, rfl, rfl, H⟩
        show WP _ _ _ _ _ _ _ 42 [some (.ref (A + 38)), some (.int a1)] [] (sh, f64, g65, (up2 fR (A + 38) 7 (some q)))
        refine S_goto (pc := 42) (tgt := 187) dX9_readStatement_42 rfl ?_
        exact S_vreturn dX9_readStatement_187 rfl H
    · replace H := H.2 hc2
      refine S_aload_n (pc := 17) dX9_readStatement_17 rfl rfl ?_
      refine S_bipush (pc := 18) dX9_readStatement_18 bp6 ?_
      refine S_aload_n (pc := 20) dX9_readStatement_20 rfl rfl ?_
      refine S_get (pc := 21) (v := .int (f (A + 38) 11)) dX9_readStatement_21 flX9_80 (sA_38 hs) rfl ?_
      refine S_callV (As := [.int (nI 6), .int (f (A + 38) 11)]) (mc := 0) (ms := 0) (pc := 24) dX9_readStatement_24 miX9_blame mvX9_blame mlX9_83 rfl (sA_38 hs) rfl rfl rfl (RmOK.of rfl) H ?_
      rintro _ _ ⟨f66, g67, rfl, rfl, H⟩
      show WP _ _ _ _ _ _ _ 27 [some (.ref (A + 38)), some (.int a1)] [] (sh, f66, g67, (up2 fR (A + 38) 7 (some q)))
      refine S_goto (pc := 27) (tgt := 187) dX9_readStatement_27 rfl ?_
      exact S_vreturn dX9_readStatement_187 rfl H
  · replace H := H.2 hc1
    refine S_aload_n (pc := 4) dX9_readStatement_4 rfl rfl ?_
    refine S_callV (As := []) (mc := 0) (ms := 0) (pc := 5) dX9_readStatement_5 miX9_readStream mvX9_readStream mlX9_115 rfl (sA_38 hs) rfl rfl rfl (RmOK.of rfl) H ?_
    rintro _ _ ⟨f68, g69, rfl, rfl, H⟩
    show WP _ _ _ _ _ _ _ 8 [some (.ref (A + 38)), some (.int a1)] [] (sh, f68, g69, (up2 fR (A + 38) 7 (some q)))
    refine S_goto (pc := 8) (tgt := 187) dX9_readStatement_8 rfl ?_
    exact S_vreturn dX9_readStatement_187 rfl H
set_option maxHeartbeats 2000000 in
set_option maxRecDepth 4000 in
theorem VX9_readStream {l : Launch} {G : Gx} {d : Nat} {Q : Option Value → Hp → Prop} {sh : Sh} {fR : FRt} {A p q : Nat} {f : FI} {g : FL}  (hs : StA sh fR A) (hp : fR (A + 38) 6 = some p) (hP : StPl sh fR p) (hq : StF sh fR q)
    (H : Cl l G (d + 3) 0 0 mX9_expectWord [.ref (A + 38), .int (nI 0)] (sh, f, g, (up2 fR (A + 38) 7 (some q))) (qv sh (up2 fR (A + 38) 7 (some q)) fun f1 g2 => Cl l G (d + 3) 0 0 mX9_expectNumber [.ref (A + 38), .int (nI 1), .int (nI 200)] (sh, f1, g2, (up2 fR (A + 38) 7 (some q))) (qi sh (up2 fR (A + 38) 7 (some q)) fun x5 f3 g4 => Cl l G (d + 3) 0 0 mX9_expectWord [.ref (A + 38), .int (nI 1)] (sh, (up2 f3 p 1 x5), g4, (up2 fR (A + 38) 7 (some q))) (qv sh (up2 fR (A + 38) 7 (some q)) fun f6 g7 => Cl l G (d + 3) 0 0 mX9_expectNumber [.ref (A + 38), .int (nI 1), .int (nI 20)] (sh, f6, g7, (up2 fR (A + 38) 7 (some q))) (qi sh (up2 fR (A + 38) 7 (some q)) fun x10 f8 g9 => Cl l G (d + 3) 0 0 mX9_expectWord [.ref (A + 38), .int (nI 2)] (sh, (up2 f8 p 2 x10), g9, (up2 fR (A + 38) 7 (some q))) (qv sh (up2 fR (A + 38) 7 (some q)) fun f11 g12 => Cl l G (d + 3) 0 0 mX9_expectNumber [.ref (A + 38), .int (nI 10), .int (nI 99)] (sh, f11, g12, (up2 fR (A + 38) 7 (some q))) (qi sh (up2 fR (A + 38) 7 (some q)) fun x15 f13 g14 => Cl l G (d + 3) 0 0 mX9_expectWord [.ref (A + 38), .int (nI 3)] (sh, (up2 f13 p 3 x15), g14, (up2 fR (A + 38) 7 (some q))) (qv sh (up2 fR (A + 38) 7 (some q)) fun f16 g17 => Cl l G (d + 3) 0 0 mX9_expectNumber [.ref (A + 38), .int (nI 0), .int (nI 999)] (sh, f16, g17, (up2 fR (A + 38) 7 (some q))) (qi sh (up2 fR (A + 38) 7 (some q)) fun x20 f18 g19 => Q none (sh, (up2 f18 p 4 x20), g19, (up2 fR (A + 38) 7 (some q)))))))))))) :
    Cl l G (d + 4) 0 0 mX9_readStream [.ref (A + 38)] (sh, f, g, (up2 fR (A + 38) 7 (some q))) Q := by
  refine Cl.of (L0 := [some (.ref (A + 38))]) miX9_readStream rfl rfl ?_
  refine S_aload_n (pc := 0) dX9_readStream_0 rfl rfl ?_
  refine S_iconst (pc := 1) dX9_readStream_1 ic0 ?_
  refine S_callV (As := [.int (nI 0)]) (mc := 0) (ms := 0) (pc := 2) dX9_readStream_2 miX9_expectWord mvX9_expectWord mlX9_144 rfl (sA_38 hs) rfl rfl rfl (RmOK.of rfl) H ?_
  rintro _ _ ⟨f1, g2, rfl, rfl, H⟩
  show WP _ _ _ _ _ _ _ 5 [some (.ref (A + 38))] [] (sh, f1, g2, (up2 fR (A + 38) 7 (some q)))
  refine S_aload_n (pc := 5) dX9_readStream_5 rfl rfl ?_
  refine S_getR (pc := 6) dX9_readStream_6 flX9_18 (sA_38 hs) rfl ((up2_ne (by simp)).trans hp) ?_
  refine S_aload_n (pc := 9) dX9_readStream_9 rfl rfl ?_
  refine S_iconst (pc := 10) dX9_readStream_10 ic1 ?_
  refine S_sipush (pc := 11) dX9_readStream_11 sp200 ?_
  refine S_callV (As := [.int (nI 1), .int (nI 200)]) (mc := 0) (ms := 0) (pc := 14) dX9_readStream_14 miX9_expectNumber mvX9_expectNumber mlX9_124 rfl (sA_38 hs) rfl rfl rfl (RmOK.of rfl) H ?_
  rintro _ _ ⟨x5, f3, g4, rfl, rfl, H⟩
  show WP _ _ _ _ _ _ _ 17 [some (.ref (A + 38))] [.int x5, .ref p] (sh, f3, g4, (up2 fR (A + 38) 7 (some q)))
  refine S_putI (pc := 17) dX9_readStream_17 flX9_147 (sL_0 hP) hP.2.2 (nf_6_1) rfl rfl (fun _ => rfl) ?_
  refine S_aload_n (pc := 20) dX9_readStream_20 rfl rfl ?_
  refine S_iconst (pc := 21) dX9_readStream_21 ic1 ?_
  refine S_callV (As := [.int (nI 1)]) (mc := 0) (ms := 0) (pc := 22) dX9_readStream_22 miX9_expectWord mvX9_expectWord mlX9_144 rfl (sA_38 hs) rfl rfl rfl (RmOK.of rfl) H ?_
  rintro _ _ ⟨f6, g7, rfl, rfl, H⟩
  show WP _ _ _ _ _ _ _ 25 [some (.ref (A + 38))] [] (sh, f6, g7, (up2 fR (A + 38) 7 (some q)))
  refine S_aload_n (pc := 25) dX9_readStream_25 rfl rfl ?_
  refine S_getR (pc := 26) dX9_readStream_26 flX9_18 (sA_38 hs) rfl ((up2_ne (by simp)).trans hp) ?_
  refine S_aload_n (pc := 29) dX9_readStream_29 rfl rfl ?_
  refine S_iconst (pc := 30) dX9_readStream_30 ic1 ?_
  refine S_bipush (pc := 31) dX9_readStream_31 bp20 ?_
  refine S_callV (As := [.int (nI 1), .int (nI 20)]) (mc := 0) (ms := 0) (pc := 33) dX9_readStream_33 miX9_expectNumber mvX9_expectNumber mlX9_124 rfl (sA_38 hs) rfl rfl rfl (RmOK.of rfl) H ?_
  rintro _ _ ⟨x10, f8, g9, rfl, rfl, H⟩
  show WP _ _ _ _ _ _ _ 36 [some (.ref (A + 38))] [.int x10, .ref p] (sh, f8, g9, (up2 fR (A + 38) 7 (some q)))
  refine S_putI (pc := 36) dX9_readStream_36 flX9_148 (sL_0 hP) hP.2.2 (nf_6_2) rfl rfl (fun _ => rfl) ?_
  refine S_aload_n (pc := 39) dX9_readStream_39 rfl rfl ?_
  refine S_iconst (pc := 40) dX9_readStream_40 ic2 ?_
  refine S_callV (As := [.int (nI 2)]) (mc := 0) (ms := 0) (pc := 41) dX9_readStream_41 miX9_expectWord mvX9_expectWord mlX9_144 rfl (sA_38 hs) rfl rfl rfl (RmOK.of rfl) H ?_
  rintro _ _ ⟨f11, g12, rfl, rfl, H⟩
  show WP _ _ _ _ _ _ _ 44 [some (.ref (A + 38))] [] (sh, f11, g12, (up2 fR (A + 38) 7 (some q)))
  refine S_aload_n (pc := 44) dX9_readStream_44 rfl rfl ?_
  refine S_getR (pc := 45) dX9_readStream_45 flX9_18 (sA_38 hs) rfl ((up2_ne (by simp)).trans hp) ?_
  refine S_aload_n (pc := 48) dX9_readStream_48 rfl rfl ?_
  refine S_bipush (pc := 49) dX9_readStream_49 bp10 ?_
  refine S_bipush (pc := 51) dX9_readStream_51 bp99 ?_
  refine S_callV (As := [.int (nI 10), .int (nI 99)]) (mc := 0) (ms := 0) (pc := 53) dX9_readStream_53 miX9_expectNumber mvX9_expectNumber mlX9_124 rfl (sA_38 hs) rfl rfl rfl (RmOK.of rfl) H ?_
  rintro _ _ ⟨x15, f13, g14, rfl, rfl, H⟩
  show WP _ _ _ _ _ _ _ 56 [some (.ref (A + 38))] [.int x15, .ref p] (sh, f13, g14, (up2 fR (A + 38) 7 (some q)))
  refine S_putI (pc := 56) dX9_readStream_56 flX9_151 (sL_0 hP) hP.2.2 (nf_6_3) rfl rfl (fun _ => rfl) ?_
  refine S_aload_n (pc := 59) dX9_readStream_59 rfl rfl ?_
  refine S_iconst (pc := 60) dX9_readStream_60 ic3 ?_
  refine S_callV (As := [.int (nI 3)]) (mc := 0) (ms := 0) (pc := 61) dX9_readStream_61 miX9_expectWord mvX9_expectWord mlX9_144 rfl (sA_38 hs) rfl rfl rfl (RmOK.of rfl) H ?_
  rintro _ _ ⟨f16, g17, rfl, rfl, H⟩
  show WP _ _ _ _ _ _ _ 64 [some (.ref (A + 38))] [] (sh, f16, g17, (up2 fR (A + 38) 7 (some q)))
  refine S_aload_n (pc := 64) dX9_readStream_64 rfl rfl ?_
  refine S_getR (pc := 65) dX9_readStream_65 flX9_18 (sA_38 hs) rfl ((up2_ne (by simp)).trans hp) ?_
  refine S_aload_n (pc := 68) dX9_readStream_68 rfl rfl ?_
  refine S_iconst (pc := 69) dX9_readStream_69 ic0 ?_
  refine S_sipush (pc := 70) dX9_readStream_70 sp999 ?_
  refine S_callV (As := [.int (nI 0), .int (nI 999)]) (mc := 0) (ms := 0) (pc := 73) dX9_readStream_73 miX9_expectNumber mvX9_expectNumber mlX9_124 rfl (sA_38 hs) rfl rfl rfl (RmOK.of rfl) H ?_
  rintro _ _ ⟨x20, f18, g19, rfl, rfl, H⟩
  show WP _ _ _ _ _ _ _ 76 [some (.ref (A + 38))] [.int x20, .ref p] (sh, f18, g19, (up2 fR (A + 38) 7 (some q)))
  refine S_putI (pc := 76) dX9_readStream_76 flX9_154 (sL_0 hP) hP.2.2 (nf_6_4) rfl rfl (fun _ => rfl) ?_
  exact S_vreturn dX9_readStream_79 rfl H
abbrev LpX9_readPath_58 (l : Launch) (G : Gx) (d : Nat) (Q : Option Value → Hp → Prop) (sh : Sh) (fR : FRt) (A p q : Nat) (f : FI) (g : FL) (a1 : Int32) : Prop := WP l G (Zq G 0 0 Q) mX9_readPath (rmd (d + 4) 0 0) 0 0 58 [some (.ref (A + 38)), some (.int a1), none] [] (sh, f, g, (up2 fR (A + 38) 7 (some q)))
set_option maxHeartbeats 2000000 in
set_option maxRecDepth 4000 in
theorem VX9_readPath {l : Launch} {G : Gx} {d : Nat} {Q : Option Value → Hp → Prop} {sh : Sh} {fR : FRt} {A p q : Nat} {f : FI} {g : FL}  (hs : StA sh fR A) (hp : fR (A + 38) 6 = some p) (hP : StPl sh fR p) (hq : StF sh fR q)
    (H : (((f p 6) < (nI 4) → Cl l G (d + 3) 0 0 mX9_advance [.ref (A + 38)] (sh, f, g, (up2 fR (A + 38) 7 (some q))) (qv sh (up2 fR (A + 38) 7 (some q)) fun f2 g3 => (∀ w4 : Int32, w4 = f2 (A + 38) 13 → (∀ w6 : Int32, w6 = f2 (A + 38) 11 → Cl l G (d + 3) 0 0 mX9_expectName [.ref (A + 38)] (sh, f2, g3, (up2 fR (A + 38) 7 (some q))) (qv sh (up2 fR (A + 38) 7 (some q)) fun f8 g9 => Cl l G (d + 3) 0 0 mX6_pathNamed [.ref p, .int w4] (sh, f8, g9, (up2 fR (A + 38) 7 (some q))) (qi sh (up2 fR (A + 38) 7 (some q)) fun x12 f10 g11 => ((x12 = (-1) → LpX9_readPath_58 l G d Q sh fR A p q f10 g11 w4) ∧ (¬ x12 = (-1) → Cl l G (d + 3) 0 0 mX9_blame [.ref (A + 38), .int (nI 2), .int w6] (sh, f10, g11, (up2 fR (A + 38) 7 (some q))) (qv sh (up2 fR (A + 38) 7 (some q)) fun f14 g15 => LpX9_readPath_58 l G d Q sh fR A p q f14 g15 w4))))))))) ∧ (¬ (f p 6) < (nI 4) → Cl l G (d + 3) 0 0 mX9_blame [.ref (A + 38), .int (nI 6), .int (f (A + 38) 11)] (sh, f, g, (up2 fR (A + 38) 7 (some q))) (qv sh (up2 fR (A + 38) 7 (some q)) fun f16 g17 => Q none (sh, f16, g17, (up2 fR (A + 38) 7 (some q))))))) :
    Cl l G (d + 4) 0 0 mX9_readPath [.ref (A + 38)] (sh, f, g, (up2 fR (A + 38) 7 (some q))) Q := by
  refine Cl.of (L0 := [some (.ref (A + 38)), none, none]) miX9_readPath rfl rfl ?_
  refine S_aload_n (pc := 0) dX9_readPath_0 rfl rfl ?_
  refine S_getR (pc := 1) dX9_readPath_1 flX9_18 (sA_38 hs) rfl ((up2_ne (by simp)).trans hp) ?_
  refine S_get (pc := 4) (v := .int (f p 6)) dX9_readPath_4 flX9_157 (sL_0 hP) rfl ?_
  refine S_iconst (pc := 7) dX9_readPath_7 ic4 ?_
  refine S_icmp_lt (pc := 8) (tgt := 22) dX9_readPath_8 rfl (fun hc1 => ?_) (fun hc1 => ?_)
  · replace H := H.1 hc1
    refine S_aload_n (pc := 22) dX9_readPath_22 rfl rfl ?_
    refine S_callV (As := []) (mc := 0) (ms := 0) (pc := 23) dX9_readPath_23 miX9_advance mvX9_advance mlX9_64 rfl (sA_38 hs) rfl rfl rfl (RmOK.of rfl) H ?_
    rintro _ _ ⟨f2, g3, rfl, rfl, H⟩
    show WP _ _ _ _ _ _ _ 26 [some (.ref (A + 38)), none, none] [] (sh, f2, g3, (up2 fR (A + 38) 7 (some q)))
    refine S_aload_n (pc := 26) dX9_readPath_26 rfl rfl ?_
    refine S_get (pc := 27) (v := .int (f2 (A + 38) 13)) dX9_readPath_27 flX9_100 (sA_38 hs) rfl ?_
    refine S_namei (fun w4 e5 => ?_)
    replace H := H w4 e5
    refine S_istore_n (pc := 30) (L' := [some (.ref (A + 38)), some (.int w4), none]) dX9_readPath_30 rfl (by decide) rfl ?_
    refine S_aload_n (pc := 31) dX9_readPath_31 rfl rfl ?_
    refine S_get (pc := 32) (v := .int (f2 (A + 38) 11)) dX9_readPath_32 flX9_80 (sA_38 hs) rfl ?_
    refine S_namei (fun w6 e7 => ?_)
    replace H := H w6 e7
    refine S_istore_n (pc := 35) (L' := [some (.ref (A + 38)), some (.int w4), some (.int w6)]) dX9_readPath_35 rfl (by decide) rfl ?_
    refine S_aload_n (pc := 36) dX9_readPath_36 rfl rfl ?_
    refine S_callV (As := []) (mc := 0) (ms := 0) (pc := 37) dX9_readPath_37 miX9_expectName mvX9_expectName mlX9_160 rfl (sA_38 hs) rfl rfl rfl (RmOK.of rfl) H ?_
    rintro _ _ ⟨f8, g9, rfl, rfl, H⟩
    show WP _ _ _ _ _ _ _ 40 [some (.ref (A + 38)), some (.int w4), some (.int w6)] [] (sh, f8, g9, (up2 fR (A + 38) 7 (some q)))
    refine S_aload_n (pc := 40) dX9_readPath_40 rfl rfl ?_
    refine S_getR (pc := 41) dX9_readPath_41 flX9_18 (sA_38 hs) rfl ((up2_ne (by simp)).trans hp) ?_
    refine S_iload_n (pc := 44) dX9_readPath_44 rfl rfl ?_
    refine S_callV (As := [.int w4]) (mc := 0) (ms := 0) (pc := 45) dX9_readPath_45 miX6_pathNamed mvX6_pathNamed mlX9_163 rfl (sL_0 hP) rfl rfl rfl (RmOK.of rfl) H ?_
    rintro _ _ ⟨x12, f10, g11, rfl, rfl, H⟩
    show WP _ _ _ _ _ _ _ 48 [some (.ref (A + 38)), some (.int w4), some (.int w6)] [.int x12] (sh, f10, g11, (up2 fR (A + 38) 7 (some q)))
    refine S_iconst (pc := 48) dX9_readPath_48 icm1 ?_
    refine S_icmp_eq (pc := 49) (tgt := 58) dX9_readPath_49 rfl (fun hc13 => ?_) (fun hc13 => ?_)
    · replace H := H.1 hc13
      exact S_weak (L' := [some (.ref (A + 38)), some (.int w4), none]) (ls_e (ls_e (ls_n ls_0))) H
    · replace H := H.2 hc13
      refine S_aload_n (pc := 52) dX9_readPath_52 rfl rfl ?_
      refine S_iconst (pc := 53) dX9_readPath_53 ic2 ?_
      refine S_iload_n (pc := 54) dX9_readPath_54 rfl rfl ?_
      refine S_callV (As := [.int (nI 2), .int w6]) (mc := 0) (ms := 0) (pc := 55) dX9_readPath_55 miX9_blame mvX9_blame mlX9_83 rfl (sA_38 hs) rfl rfl rfl (RmOK.of rfl) H ?_
      rintro _ _ ⟨f14, g15, rfl, rfl, H⟩
      show WP _ _ _ _ _ _ _ 58 [some (.ref (A + 38)), some (.int w4), some (.int w6)] [] (sh, f14, g15, (up2 fR (A + 38) 7 (some q)))
      exact S_weak (L' := [some (.ref (A + 38)), some (.int w4), none]) (ls_e (ls_e (ls_n ls_0))) H
  · replace H := H.2 hc1
    refine S_aload_n (pc := 11) dX9_readPath_11 rfl rfl ?_
    refine S_bipush (pc := 12) dX9_readPath_12 bp6 ?_
    refine S_aload_n (pc := 14) dX9_readPath_14 rfl rfl ?_
    refine S_get (pc := 15) (v := .int (f (A + 38) 11)) dX9_readPath_15 flX9_80 (sA_38 hs) rfl ?_
    refine S_callV (As := [.int (nI 6), .int (f (A + 38) 11)]) (mc := 0) (ms := 0) (pc := 18) dX9_readPath_18 miX9_blame mvX9_blame mlX9_83 rfl (sA_38 hs) rfl rfl rfl (RmOK.of rfl) H ?_
    rintro _ _ ⟨f16, g17, rfl, rfl, H⟩
    show WP _ _ _ _ _ _ _ 21 [some (.ref (A + 38)), none, none] [] (sh, f16, g17, (up2 fR (A + 38) 7 (some q)))
    exact S_vreturn dX9_readPath_21 rfl H
set_option maxHeartbeats 2000000 in
set_option maxRecDepth 4000 in
theorem VX9_readPath_58 {l : Launch} {G : Gx} {d : Nat} {Q : Option Value → Hp → Prop} {sh : Sh} {fR : FRt} {A p q : Nat} {f : FI} {g : FL} {a1 : Int32} (hs : StA sh fR A) (hp : fR (A + 38) 6 = some p) (hP : StPl sh fR p) (hq : StF sh fR q)
    (H : Cl l G (d + 3) 0 0 mX9_expectWord [.ref (A + 38), .int (nI 5)] (sh, f, g, (up2 fR (A + 38) 7 (some q))) (qv sh (up2 fR (A + 38) 7 (some q)) fun f18 g19 => inb (f18 p 6) 4 ∧ Cl l G (d + 3) 0 0 mX9_expectNumber [.ref (A + 38), .int (nI 1), .int (nI 9)] (sh, (up2 f18 (p + 1) (f18 p 6).toNatClampNeg a1), g19, (up2 fR (A + 38) 7 (some q))) (qi sh (up2 fR (A + 38) 7 (some q)) fun x23 f21 g22 => inb (f18 p 6) 4 ∧ Q none (sh, (up2 (up2 f21 (p + 2) (f18 p 6).toNatClampNeg x23) p 6 ((f21 p 6) + (nI 1))), g22, (up2 fR (A + 38) 7 (some q)))))) :
    LpX9_readPath_58 l G d Q sh fR A p q f g a1 := by
  refine S_aload_n (pc := 58) dX9_readPath_58 rfl rfl ?_
  refine S_iconst (pc := 59) dX9_readPath_59 ic5 ?_
  refine S_callV (As := [.int (nI 5)]) (mc := 0) (ms := 0) (pc := 60) dX9_readPath_60 miX9_expectWord mvX9_expectWord mlX9_144 rfl (sA_38 hs) rfl rfl rfl (RmOK.of rfl) H ?_
  rintro _ _ ⟨f18, g19, rfl, rfl, H⟩
  show WP _ _ _ _ _ _ _ 63 [some (.ref (A + 38)), some (.int a1), none] [] (sh, f18, g19, (up2 fR (A + 38) 7 (some q)))
  refine S_aload_n (pc := 63) dX9_readPath_63 rfl rfl ?_
  refine S_getR (pc := 64) dX9_readPath_64 flX9_18 (sA_38 hs) rfl ((up2_ne (by simp)).trans hp) ?_
  refine S_getR (pc := 67) dX9_readPath_67 flX9_167 (sL_0 hP) rfl ((up2_ne (fun z => ne_sh (sL_0 hP) (sA_38 hs) (by decide) z.1)).trans (rL_0_7 hP)) ?_
  refine S_aload_n (pc := 70) dX9_readPath_70 rfl rfl ?_
  refine S_getR (pc := 71) dX9_readPath_71 flX9_18 (sA_38 hs) rfl ((up2_ne (by simp)).trans hp) ?_
  refine S_get (pc := 74) (v := .int (f18 p 6)) dX9_readPath_74 flX9_157 (sL_0 hP) rfl ?_
  refine S_iload_n (pc := 77) dX9_readPath_77 rfl rfl ?_
  obtain ⟨hb20, H⟩ := H
  refine S_iast (pc := 78) dX9_readPath_78 (sL_1 hP) (Nat.succ_pos _) hb20 ?_
  refine S_aload_n (pc := 79) dX9_readPath_79 rfl rfl ?_
  refine S_getR (pc := 80) dX9_readPath_80 flX9_18 (sA_38 hs) rfl ((up2_ne (by simp)).trans hp) ?_
  refine S_getR (pc := 83) dX9_readPath_83 flX9_170 (sL_0 hP) rfl ((up2_ne (by simp)).trans (rL_0_8 hP)) ?_
  refine S_aload_n (pc := 86) dX9_readPath_86 rfl rfl ?_
  refine S_getR (pc := 87) dX9_readPath_87 flX9_18 (sA_38 hs) rfl ((up2_ne (by simp)).trans hp) ?_
  refine S_get (pc := 90) (v := .int ((up2 f18 (p + 1) (f18 p 6).toNatClampNeg a1) p 6)) dX9_readPath_90 flX9_157 (sL_0 hP) rfl ?_
  refine S_eqi (x := f18 p 6) ((up2_r (by omega)).trans rfl) ?_
  refine S_aload_n (pc := 93) dX9_readPath_93 rfl rfl ?_
  refine S_iconst (pc := 94) dX9_readPath_94 ic1 ?_
  refine S_bipush (pc := 95) dX9_readPath_95 bp9 ?_
  refine S_callV (As := [.int (nI 1), .int (nI 9)]) (mc := 0) (ms := 0) (pc := 97) dX9_readPath_97 miX9_expectNumber mvX9_expectNumber mlX9_124 rfl (sA_38 hs) rfl rfl rfl (RmOK.of rfl) H ?_
  rintro _ _ ⟨x23, f21, g22, rfl, rfl, H⟩
  show WP _ _ _ _ _ _ _ 100 [some (.ref (A + 38)), some (.int a1), none] [.int x23, .int (f18 p 6), .ref (p + 2)] (sh, f21, g22, (up2 fR (A + 38) 7 (some q)))
  obtain ⟨hb24, H⟩ := H
  refine S_iast (pc := 100) dX9_readPath_100 (sL_2 hP) (Nat.succ_pos _) hb24 ?_
  refine S_aload_n (pc := 101) dX9_readPath_101 rfl rfl ?_
  refine S_getR (pc := 102) dX9_readPath_102 flX9_18 (sA_38 hs) rfl ((up2_ne (by simp)).trans hp) ?_
  refine S_dup (pc := 105) dX9_readPath_105 rfl ?_
  refine S_get (pc := 106) (v := .int ((up2 f21 (p + 2) (f18 p 6).toNatClampNeg x23) p 6)) dX9_readPath_106 flX9_157 (sL_0 hP) rfl ?_
  refine S_eqi (x := f21 p 6) ((up2_r (by omega)).trans rfl) ?_
  refine S_iconst (pc := 109) dX9_readPath_109 ic1 ?_
  refine S_iadd (pc := 110) dX9_readPath_110 ?_
  refine S_putI (pc := 111) dX9_readPath_111 flX9_157 (sL_0 hP) hP.2.2 (nf_6_6) rfl rfl (fun _ => rfl) ?_
  exact S_vreturn dX9_readPath_114 rfl H
set_option maxHeartbeats 2000000 in
set_option maxRecDepth 4000 in
theorem VX9_expectName {l : Launch} {G : Gx} {d : Nat} {Q : Option Value → Hp → Prop} {sh : Sh} {fR : FRt} {A p q : Nat} {f : FI} {g : FL}  (hs : StA sh fR A) (hp : fR (A + 38) 6 = some p) (hP : StPl sh fR p) (hq : StF sh fR q)
    (H : Cl l G (d + 2) 0 0 mX9_isWord [.ref (A + 38), .int (-1)] (sh, f, g, (up2 fR (A + 38) 7 (some q))) (qi sh (up2 fR (A + 38) 7 (some q)) fun x3 f1 g2 => ((x3 = 0 → Cl l G (d + 2) 0 0 mX9_blameHere [.ref (A + 38)] (sh, f1, g2, (up2 fR (A + 38) 7 (some q))) (qv sh (up2 fR (A + 38) 7 (some q)) fun f5 g6 => Q none (sh, f5, g6, (up2 fR (A + 38) 7 (some q))))) ∧ (¬ x3 = 0 → Cl l G (d + 2) 0 0 mX9_advance [.ref (A + 38)] (sh, f1, g2, (up2 fR (A + 38) 7 (some q))) (qv sh (up2 fR (A + 38) 7 (some q)) fun f7 g8 => Q none (sh, f7, g8, (up2 fR (A + 38) 7 (some q)))))))) :
    Cl l G (d + 3) 0 0 mX9_expectName [.ref (A + 38)] (sh, f, g, (up2 fR (A + 38) 7 (some q))) Q := by
  refine Cl.of (L0 := [some (.ref (A + 38))]) miX9_expectName rfl rfl ?_
  refine S_aload_n (pc := 0) dX9_expectName_0 rfl rfl ?_
  refine S_iconst (pc := 1) dX9_expectName_1 icm1 ?_
  refine S_callV (As := [.int (-1)]) (mc := 0) (ms := 0) (pc := 2) dX9_expectName_2 miX9_isWord mvX9_isWord mlX9_106 rfl (sA_38 hs) rfl rfl rfl (RmOK.of rfl) H ?_
  rintro _ _ ⟨x3, f1, g2, rfl, rfl, H⟩
  show WP _ _ _ _ _ _ _ 5 [some (.ref (A + 38))] [.int x3] (sh, f1, g2, (up2 fR (A + 38) 7 (some q)))
  refine S_if_eq (pc := 5) (tgt := 15) dX9_expectName_5 rfl (fun hc4 => ?_) (fun hc4 => ?_)
  · replace H := H.1 hc4
    refine S_aload_n (pc := 15) dX9_expectName_15 rfl rfl ?_
    refine S_callV (As := []) (mc := 0) (ms := 0) (pc := 16) dX9_expectName_16 miX9_blameHere mvX9_blameHere mlX9_109 rfl (sA_38 hs) rfl rfl rfl (RmOK.of rfl) H ?_
    rintro _ _ ⟨f5, g6, rfl, rfl, H⟩
    show WP _ _ _ _ _ _ _ 19 [some (.ref (A + 38))] [] (sh, f5, g6, (up2 fR (A + 38) 7 (some q)))
    exact S_vreturn dX9_expectName_19 rfl H
  · replace H := H.2 hc4
    refine S_aload_n (pc := 8) dX9_expectName_8 rfl rfl ?_
    refine S_callV (As := []) (mc := 0) (ms := 0) (pc := 9) dX9_expectName_9 miX9_advance mvX9_advance mlX9_64 rfl (sA_38 hs) rfl rfl rfl (RmOK.of rfl) H ?_
    rintro _ _ ⟨f7, g8, rfl, rfl, H⟩
    show WP _ _ _ _ _ _ _ 12 [some (.ref (A + 38))] [] (sh, f7, g8, (up2 fR (A + 38) 7 (some q)))
    refine S_goto (pc := 12) (tgt := 19) dX9_expectName_12 rfl ?_
    exact S_vreturn dX9_expectName_19 rfl H
set_option maxHeartbeats 2000000 in
set_option maxRecDepth 4000 in
theorem VX9_readJoin {l : Launch} {G : Gx} {d : Nat} {Q : Option Value → Hp → Prop} {sh : Sh} {fR : FRt} {A p q : Nat} {f : FI} {g : FL}  (hs : StA sh fR A) (hp : fR (A + 38) 6 = some p) (hP : StPl sh fR p) (hq : StF sh fR q)
    (H : Cl l G (d + 3) 0 0 mX9_advance [.ref (A + 38)] (sh, f, g, (up2 fR (A + 38) 7 (some q))) (qv sh (up2 fR (A + 38) 7 (some q)) fun f1 g2 => Cl l G (d + 3) 0 0 mX6_pathNamed [.ref p, .int (f1 (A + 38) 13)] (sh, f1, g2, (up2 fR (A + 38) 7 (some q))) (qi sh (up2 fR (A + 38) 7 (some q)) fun x5 f3 g4 => (∀ w6 : Int32, w6 = f3 (A + 38) 11 → Cl l G (d + 3) 0 0 mX9_expectName [.ref (A + 38)] (sh, f3, g4, (up2 fR (A + 38) 7 (some q))) (qv sh (up2 fR (A + 38) 7 (some q)) fun f8 g9 => ((x5 ≤ 0 → Cl l G (d + 3) 0 0 mX9_blame [.ref (A + 38), .int (nI 3), .int w6] (sh, f8, g9, (up2 fR (A + 38) 7 (some q))) (qv sh (up2 fR (A + 38) 7 (some q)) fun f11 g12 => Q none (sh, f11, g12, (up2 fR (A + 38) 7 (some q))))) ∧ (¬ x5 ≤ 0 → inb x5 4 ∧ (((f8 (p + 3) x5.toNatClampNeg) = (-1) → Cl l G (d + 3) 0 0 mX9_expectWord [.ref (A + 38), .int (nI 7)] (sh, f8, g9, (up2 fR (A + 38) 7 (some q))) (qv sh (up2 fR (A + 38) 7 (some q)) fun f15 g16 => Cl l G (d + 3) 0 0 mX9_expectNumber [.ref (A + 38), .int (nI 0), .int (nI 99)] (sh, f15, g16, (up2 fR (A + 38) 7 (some q))) (qi sh (up2 fR (A + 38) 7 (some q)) fun x19 f17 g18 => inb x5 4 ∧ Cl l G (d + 3) 0 0 mX9_expectWord [.ref (A + 38), .int (nI 8)] (sh, (up2 f17 (p + 3) x5.toNatClampNeg x19), g18, (up2 fR (A + 38) 7 (some q))) (qv sh (up2 fR (A + 38) 7 (some q)) fun f21 g22 => Cl l G (d + 3) 0 0 mX9_expectNumber [.ref (A + 38), .int (nI 0), .int (nI 999)] (sh, f21, g22, (up2 fR (A + 38) 7 (some q))) (qi sh (up2 fR (A + 38) 7 (some q)) fun x25 f23 g24 => inb x5 4 ∧ Q none (sh, (up2 f23 (p + 4) x5.toNatClampNeg x25), g24, (up2 fR (A + 38) 7 (some q)))))))) ∧ (¬ (f8 (p + 3) x5.toNatClampNeg) = (-1) → Cl l G (d + 3) 0 0 mX9_blame [.ref (A + 38), .int (nI 3), .int w6] (sh, f8, g9, (up2 fR (A + 38) 7 (some q))) (qv sh (up2 fR (A + 38) 7 (some q)) fun f27 g28 => Q none (sh, f27, g28, (up2 fR (A + 38) 7 (some q))))))))))))) :
    Cl l G (d + 4) 0 0 mX9_readJoin [.ref (A + 38)] (sh, f, g, (up2 fR (A + 38) 7 (some q))) Q := by
  refine Cl.of (L0 := [some (.ref (A + 38)), none, none]) miX9_readJoin rfl rfl ?_
  refine S_aload_n (pc := 0) dX9_readJoin_0 rfl rfl ?_
  refine S_callV (As := []) (mc := 0) (ms := 0) (pc := 1) dX9_readJoin_1 miX9_advance mvX9_advance mlX9_64 rfl (sA_38 hs) rfl rfl rfl (RmOK.of rfl) H ?_
  rintro _ _ ⟨f1, g2, rfl, rfl, H⟩
  show WP _ _ _ _ _ _ _ 4 [some (.ref (A + 38)), none, none] [] (sh, f1, g2, (up2 fR (A + 38) 7 (some q)))
  refine S_aload_n (pc := 4) dX9_readJoin_4 rfl rfl ?_
  refine S_getR (pc := 5) dX9_readJoin_5 flX9_18 (sA_38 hs) rfl ((up2_ne (by simp)).trans hp) ?_
  refine S_aload_n (pc := 8) dX9_readJoin_8 rfl rfl ?_
  refine S_get (pc := 9) (v := .int (f1 (A + 38) 13)) dX9_readJoin_9 flX9_100 (sA_38 hs) rfl ?_
  refine S_callV (As := [.int (f1 (A + 38) 13)]) (mc := 0) (ms := 0) (pc := 12) dX9_readJoin_12 miX6_pathNamed mvX6_pathNamed mlX9_163 rfl (sL_0 hP) rfl rfl rfl (RmOK.of rfl) H ?_
  rintro _ _ ⟨x5, f3, g4, rfl, rfl, H⟩
  show WP _ _ _ _ _ _ _ 15 [some (.ref (A + 38)), none, none] [.int x5] (sh, f3, g4, (up2 fR (A + 38) 7 (some q)))
  refine S_istore_n (pc := 15) (L' := [some (.ref (A + 38)), some (.int x5), none]) dX9_readJoin_15 rfl (by decide) rfl ?_
  refine S_aload_n (pc := 16) dX9_readJoin_16 rfl rfl ?_
  refine S_get (pc := 17) (v := .int (f3 (A + 38) 11)) dX9_readJoin_17 flX9_80 (sA_38 hs) rfl ?_
  refine S_namei (fun w6 e7 => ?_)
  replace H := H w6 e7
  refine S_istore_n (pc := 20) (L' := [some (.ref (A + 38)), some (.int x5), some (.int w6)]) dX9_readJoin_20 rfl (by decide) rfl ?_
  refine S_aload_n (pc := 21) dX9_readJoin_21 rfl rfl ?_
  refine S_callV (As := []) (mc := 0) (ms := 0) (pc := 22) dX9_readJoin_22 miX9_expectName mvX9_expectName mlX9_160 rfl (sA_38 hs) rfl rfl rfl (RmOK.of rfl) H ?_
  rintro _ _ ⟨f8, g9, rfl, rfl, H⟩
  show WP _ _ _ _ _ _ _ 25 [some (.ref (A + 38)), some (.int x5), some (.int w6)] [] (sh, f8, g9, (up2 fR (A + 38) 7 (some q)))
  refine S_iload_n (pc := 25) dX9_readJoin_25 rfl rfl ?_
  refine S_if_le (pc := 26) (tgt := 42) dX9_readJoin_26 rfl (fun hc10 => ?_) (fun hc10 => ?_)
  · replace H := H.1 hc10
    refine S_aload_n (pc := 42) dX9_readJoin_42 rfl rfl ?_
    refine S_iconst (pc := 43) dX9_readJoin_43 ic3 ?_
    refine S_iload_n (pc := 44) dX9_readJoin_44 rfl rfl ?_
    refine S_callV (As := [.int (nI 3), .int w6]) (mc := 0) (ms := 0) (pc := 45) dX9_readJoin_45 miX9_blame mvX9_blame mlX9_83 rfl (sA_38 hs) rfl rfl rfl (RmOK.of rfl) H ?_
    rintro _ _ ⟨f11, g12, rfl, rfl, H⟩
    show WP _ _ _ _ _ _ _ 48 [some (.ref (A + 38)), some (.int x5), some (.int w6)] [] (sh, f11, g12, (up2 fR (A + 38) 7 (some q)))
    exact S_vreturn dX9_readJoin_48 rfl H
  · replace H := H.2 hc10
    refine S_aload_n (pc := 29) dX9_readJoin_29 rfl rfl ?_
    refine S_getR (pc := 30) dX9_readJoin_30 flX9_18 (sA_38 hs) rfl ((up2_ne (by simp)).trans hp) ?_
    refine S_getR (pc := 33) dX9_readJoin_33 flX9_173 (sL_0 hP) rfl ((up2_ne (by simp)).trans (rL_0_9 hP)) ?_
    refine S_iload_n (pc := 36) dX9_readJoin_36 rfl rfl ?_
    obtain ⟨hb13, H⟩ := H
    refine S_iald (pc := 37) dX9_readJoin_37 (sL_3 hP) hb13 ?_
    refine S_iconst (pc := 38) dX9_readJoin_38 icm1 ?_
    refine S_icmp_eq (pc := 39) (tgt := 49) dX9_readJoin_39 rfl (fun hc14 => ?_) (fun hc14 => ?_)
    · replace H := H.1 hc14
      refine S_aload_n (pc := 49) dX9_readJoin_49 rfl rfl ?_
      refine S_bipush (pc := 50) dX9_readJoin_50 bp7 ?_
      refine S_callV (As := [.int (nI 7)]) (mc := 0) (ms := 0) (pc := 52) dX9_readJoin_52 miX9_expectWord mvX9_expectWord mlX9_144 rfl (sA_38 hs) rfl rfl rfl (RmOK.of rfl) H ?_
      rintro _ _ ⟨f15, g16, rfl, rfl, H⟩
      show WP _ _ _ _ _ _ _ 55 [some (.ref (A + 38)), some (.int x5), some (.int w6)] [] (sh, f15, g16, (up2 fR (A + 38) 7 (some q)))
      refine S_aload_n (pc := 55) dX9_readJoin_55 rfl rfl ?_
      refine S_getR (pc := 56) dX9_readJoin_56 flX9_18 (sA_38 hs) rfl ((up2_ne (by simp)).trans hp) ?_
      refine S_getR (pc := 59) dX9_readJoin_59 flX9_173 (sL_0 hP) rfl ((up2_ne (by simp)).trans (rL_0_9 hP)) ?_
      refine S_iload_n (pc := 62) dX9_readJoin_62 rfl rfl ?_
      refine S_aload_n (pc := 63) dX9_readJoin_63 rfl rfl ?_
      refine S_iconst (pc := 64) dX9_readJoin_64 ic0 ?_
      refine S_bipush (pc := 65) dX9_readJoin_65 bp99 ?_
      refine S_callV (As := [.int (nI 0), .int (nI 99)]) (mc := 0) (ms := 0) (pc := 67) dX9_readJoin_67 miX9_expectNumber mvX9_expectNumber mlX9_124 rfl (sA_38 hs) rfl rfl rfl (RmOK.of rfl) H ?_
      rintro _ _ ⟨x19, f17, g18, rfl, rfl, H⟩
      show WP _ _ _ _ _ _ _ 70 [some (.ref (A + 38)), some (.int x5), some (.int w6)] [.int x19, .int x5, .ref (p + 3)] (sh, f17, g18, (up2 fR (A + 38) 7 (some q)))
      obtain ⟨hb20, H⟩ := H
      refine S_iast (pc := 70) dX9_readJoin_70 (sL_3 hP) (Nat.succ_pos _) hb20 ?_
      refine S_aload_n (pc := 71) dX9_readJoin_71 rfl rfl ?_
      refine S_bipush (pc := 72) dX9_readJoin_72 bp8 ?_
      refine S_callV (As := [.int (nI 8)]) (mc := 0) (ms := 0) (pc := 74) dX9_readJoin_74 miX9_expectWord mvX9_expectWord mlX9_144 rfl (sA_38 hs) rfl rfl rfl (RmOK.of rfl) H ?_
      rintro _ _ ⟨f21, g22, rfl, rfl, H⟩
      show WP _ _ _ _ _ _ _ 77 [some (.ref (A + 38)), some (.int x5), some (.int w6)] [] (sh, f21, g22, (up2 fR (A + 38) 7 (some q)))
      refine S_aload_n (pc := 77) dX9_readJoin_77 rfl rfl ?_
      refine S_getR (pc := 78) dX9_readJoin_78 flX9_18 (sA_38 hs) rfl ((up2_ne (by simp)).trans hp) ?_
      refine S_getR (pc := 81) dX9_readJoin_81 flX9_176 (sL_0 hP) rfl ((up2_ne (by simp)).trans (rL_0_10 hP)) ?_
      refine S_iload_n (pc := 84) dX9_readJoin_84 rfl rfl ?_
      refine S_aload_n (pc := 85) dX9_readJoin_85 rfl rfl ?_
      refine S_iconst (pc := 86) dX9_readJoin_86 ic0 ?_
      refine S_sipush (pc := 87) dX9_readJoin_87 sp999 ?_
      refine S_callV (As := [.int (nI 0), .int (nI 999)]) (mc := 0) (ms := 0) (pc := 90) dX9_readJoin_90 miX9_expectNumber mvX9_expectNumber mlX9_124 rfl (sA_38 hs) rfl rfl rfl (RmOK.of rfl) H ?_
      rintro _ _ ⟨x25, f23, g24, rfl, rfl, H⟩
      show WP _ _ _ _ _ _ _ 93 [some (.ref (A + 38)), some (.int x5), some (.int w6)] [.int x25, .int x5, .ref (p + 4)] (sh, f23, g24, (up2 fR (A + 38) 7 (some q)))
      obtain ⟨hb26, H⟩ := H
      refine S_iast (pc := 93) dX9_readJoin_93 (sL_4 hP) (Nat.succ_pos _) hb26 ?_
      exact S_vreturn dX9_readJoin_94 rfl H
    · replace H := H.2 hc14
      refine S_aload_n (pc := 42) dX9_readJoin_42 rfl rfl ?_
      refine S_iconst (pc := 43) dX9_readJoin_43 ic3 ?_
      refine S_iload_n (pc := 44) dX9_readJoin_44 rfl rfl ?_
      refine S_callV (As := [.int (nI 3), .int w6]) (mc := 0) (ms := 0) (pc := 45) dX9_readJoin_45 miX9_blame mvX9_blame mlX9_83 rfl (sA_38 hs) rfl rfl rfl (RmOK.of rfl) H ?_
      rintro _ _ ⟨f27, g28, rfl, rfl, H⟩
      show WP _ _ _ _ _ _ _ 48 [some (.ref (A + 38)), some (.int x5), some (.int w6)] [] (sh, f27, g28, (up2 fR (A + 38) 7 (some q)))
      exact S_vreturn dX9_readJoin_48 rfl H
set_option maxHeartbeats 2000000 in
set_option maxRecDepth 4000 in
theorem VX9_readFormula {l : Launch} {G : Gx} {d : Nat} {Q : Option Value → Hp → Prop} {sh : Sh} {fR : FRt} {A p q e : Nat} {f : FI} {g : FL}  (hs : StA sh fR A) (hp : fR (A + 38) 6 = some p) (hP : StPl sh fR p) (hq : StF sh fR q) (he : StF sh fR e)
    (H : Cl l G (d + 10) 0 0 mX3_isTold [.ref e] (sh, f, g, (up2 fR (A + 38) 7 (some q))) (qi sh (up2 fR (A + 38) 7 (some q)) fun x3 f1 g2 => ((x3 = 0 → Cl l G (d + 10) 0 0 mX9_advance [.ref (A + 38)] (sh, (up2 f1 (A + 38) 8 (f1 (A + 38) 14)), g2, (up2 (up2 fR (A + 38) 7 (some q)) (A + 38) 7 (some e))) (qv sh (up2 (up2 fR (A + 38) 7 (some q)) (A + 38) 7 (some e)) fun f5 g6 => ((¬ (f5 (A + 38) 8) = (nI 10) → Cl l G (d + 10) 0 0 mX9_readSum [.ref (A + 38)] (sh, f5, g6, (up2 (up2 fR (A + 38) 7 (some q)) (A + 38) 7 (some e))) (qv sh (up2 (up2 fR (A + 38) 7 (some q)) (A + 38) 7 (some e)) fun f8 g9 => Q none (sh, f8, g9, (up2 (up2 fR (A + 38) 7 (some q)) (A + 38) 7 (some e))))) ∧ ((f5 (A + 38) 8) = (nI 10) → Cl l G (d + 10) 0 0 mX9_readTest [.ref (A + 38)] (sh, f5, g6, (up2 (up2 fR (A + 38) 7 (some q)) (A + 38) 7 (some e))) (qv sh (up2 (up2 fR (A + 38) 7 (some q)) (A + 38) 7 (some e)) fun f10 g11 => Q none (sh, f10, g11, (up2 (up2 fR (A + 38) 7 (some q)) (A + 38) 7 (some e)))))))) ∧ (¬ x3 = 0 → Cl l G (d + 10) 0 0 mX9_blame [.ref (A + 38), .int (nI 6), .int (f1 (A + 38) 11)] (sh, f1, g2, (up2 fR (A + 38) 7 (some q))) (qv sh (up2 fR (A + 38) 7 (some q)) fun f12 g13 => Q none (sh, f12, g13, (up2 fR (A + 38) 7 (some q)))))))) :
    Cl l G (d + 11) 0 0 mX9_readFormula [.ref (A + 38), .ref e] (sh, f, g, (up2 fR (A + 38) 7 (some q))) Q := by
  refine Cl.of (L0 := [some (.ref (A + 38)), some (.ref e)]) miX9_readFormula rfl rfl ?_
  refine S_aload_n (pc := 0) dX9_readFormula_0 rfl rfl ?_
  refine S_callV (As := []) (mc := 0) (ms := 0) (pc := 1) dX9_readFormula_1 miX3_isTold mvX3_isTold mlX9_179 rfl (sF_0 he) rfl rfl rfl (RmOK.of rfl) H ?_
  rintro _ _ ⟨x3, f1, g2, rfl, rfl, H⟩
  show WP _ _ _ _ _ _ _ 4 [some (.ref (A + 38)), some (.ref e)] [.int x3] (sh, f1, g2, (up2 fR (A + 38) 7 (some q)))
  refine S_if_eq (pc := 4) (tgt := 18) dX9_readFormula_4 rfl (fun hc4 => ?_) (fun hc4 => ?_)
  · replace H := H.1 hc4
    refine S_aload_n (pc := 18) dX9_readFormula_18 rfl rfl ?_
    refine S_aload_n (pc := 19) dX9_readFormula_19 rfl rfl ?_
    refine S_putR (pc := 20) dX9_readFormula_20 flX9_28 (sA_38 hs) (Nat.succ_pos _) (nf_9_7) (fun _ => rfl) (fun _ => rfl) (fun _ => rfl) ?_
    refine S_aload_n (pc := 23) dX9_readFormula_23 rfl rfl ?_
    refine S_aload_n (pc := 24) dX9_readFormula_24 rfl rfl ?_
    refine S_get (pc := 25) (v := .int (f1 (A + 38) 14)) dX9_readFormula_25 flX9_103 (sA_38 hs) rfl ?_
    refine S_putI (pc := 28) dX9_readFormula_28 flX9_185 (sA_38 hs) (Nat.succ_pos _) (nf_9_8) rfl rfl (fun _ => rfl) ?_
    refine S_aload_n (pc := 31) dX9_readFormula_31 rfl rfl ?_
    refine S_callV (As := []) (mc := 0) (ms := 0) (pc := 32) dX9_readFormula_32 miX9_advance mvX9_advance mlX9_64 rfl (sA_38 hs) rfl rfl rfl (RmOK.of rfl) H ?_
    rintro _ _ ⟨f5, g6, rfl, rfl, H⟩
    show WP _ _ _ _ _ _ _ 35 [some (.ref (A + 38)), some (.ref e)] [] (sh, f5, g6, (up2 (up2 fR (A + 38) 7 (some q)) (A + 38) 7 (some e)))
    refine S_aload_n (pc := 35) dX9_readFormula_35 rfl rfl ?_
    refine S_get (pc := 36) (v := .int (f5 (A + 38) 8)) dX9_readFormula_36 flX9_185 (sA_38 hs) rfl ?_
    refine S_bipush (pc := 39) dX9_readFormula_39 bp10 ?_
    refine S_icmp_ne (pc := 41) (tgt := 51) dX9_readFormula_41 rfl (fun hc7 => ?_) (fun hc7 => ?_)
    · replace H := H.1 hc7
      refine S_aload_n (pc := 51) dX9_readFormula_51 rfl rfl ?_
      refine S_callV (As := []) (mc := 0) (ms := 0) (pc := 52) dX9_readFormula_52 miX9_readSum mvX9_readSum mlX9_191 rfl (sA_38 hs) rfl rfl rfl (RmOK.of rfl) H ?_
      rintro _ _ ⟨f8, g9, rfl, rfl, H⟩
      show WP _ _ _ _ _ _ _ 55 [some (.ref (A + 38)), some (.ref e)] [] (sh, f8, g9, (up2 (up2 fR (A + 38) 7 (some q)) (A + 38) 7 (some e)))
      exact S_vreturn dX9_readFormula_55 rfl H
    · replace H := H.2 hc7
      refine S_aload_n (pc := 44) dX9_readFormula_44 rfl rfl ?_
      refine S_callV (As := []) (mc := 0) (ms := 0) (pc := 45) dX9_readFormula_45 miX9_readTest mvX9_readTest mlX9_188 rfl (sA_38 hs) rfl rfl rfl (RmOK.of rfl) H ?_
      rintro _ _ ⟨f10, g11, rfl, rfl, H⟩
      show WP _ _ _ _ _ _ _ 48 [some (.ref (A + 38)), some (.ref e)] [] (sh, f10, g11, (up2 (up2 fR (A + 38) 7 (some q)) (A + 38) 7 (some e)))
      refine S_goto (pc := 48) (tgt := 55) dX9_readFormula_48 rfl ?_
      exact S_vreturn dX9_readFormula_55 rfl H
  · replace H := H.2 hc4
    refine S_aload_n (pc := 7) dX9_readFormula_7 rfl rfl ?_
    refine S_bipush (pc := 8) dX9_readFormula_8 bp6 ?_
    refine S_aload_n (pc := 10) dX9_readFormula_10 rfl rfl ?_
    refine S_get (pc := 11) (v := .int (f1 (A + 38) 11)) dX9_readFormula_11 flX9_80 (sA_38 hs) rfl ?_
    refine S_callV (As := [.int (nI 6), .int (f1 (A + 38) 11)]) (mc := 0) (ms := 0) (pc := 14) dX9_readFormula_14 miX9_blame mvX9_blame mlX9_83 rfl (sA_38 hs) rfl rfl rfl (RmOK.of rfl) H ?_
    rintro _ _ ⟨f12, g13, rfl, rfl, H⟩
    show WP _ _ _ _ _ _ _ 17 [some (.ref (A + 38)), some (.ref e)] [] (sh, f12, g13, (up2 fR (A + 38) 7 (some q)))
    exact S_vreturn dX9_readFormula_17 rfl H
set_option maxHeartbeats 2000000 in
set_option maxRecDepth 4000 in
theorem VX9_openSign {l : Launch} {G : Gx} {d : Nat} {Q : Option Value → Hp → Prop} {sh : Sh} {fR : FRt} {A p q : Nat} {f : FI} {g : FL}  (hs : StA sh fR A) (hp : fR (A + 38) 6 = some p) (hP : StPl sh fR p) (hq : StF sh fR q)
    (H : (((f (A + 38) 9) < (nI 7) → Cl l G (d + 2) 0 0 mX9_advance [.ref (A + 38)] (sh, (up2 f (A + 38) 9 ((f (A + 38) 9) + (nI 1))), g, (up2 fR (A + 38) 7 (some q))) (qv sh (up2 fR (A + 38) 7 (some q)) fun f2 g3 => Q none (sh, f2, g3, (up2 fR (A + 38) 7 (some q))))) ∧ (¬ (f (A + 38) 9) < (nI 7) → Cl l G (d + 2) 0 0 mX9_blame [.ref (A + 38), .int (nI 5), .int (f (A + 38) 11)] (sh, f, g, (up2 fR (A + 38) 7 (some q))) (qv sh (up2 fR (A + 38) 7 (some q)) fun f4 g5 => Q none (sh, f4, g5, (up2 fR (A + 38) 7 (some q))))))) :
    Cl l G (d + 3) 0 0 mX9_openSign [.ref (A + 38)] (sh, f, g, (up2 fR (A + 38) 7 (some q))) Q := by
  refine Cl.of (L0 := [some (.ref (A + 38))]) miX9_openSign rfl rfl ?_
  refine S_aload_n (pc := 0) dX9_openSign_0 rfl rfl ?_
  refine S_get (pc := 1) (v := .int (f (A + 38) 9)) dX9_openSign_1 flX9_49 (sA_38 hs) rfl ?_
  refine S_bipush (pc := 4) dX9_openSign_4 bp7 ?_
  refine S_icmp_lt (pc := 6) (tgt := 21) dX9_openSign_6 rfl (fun hc1 => ?_) (fun hc1 => ?_)
  · replace H := H.1 hc1
    refine S_aload_n (pc := 21) dX9_openSign_21 rfl rfl ?_
    refine S_dup (pc := 22) dX9_openSign_22 rfl ?_
    refine S_get (pc := 23) (v := .int (f (A + 38) 9)) dX9_openSign_23 flX9_49 (sA_38 hs) rfl ?_
    refine S_iconst (pc := 26) dX9_openSign_26 ic1 ?_
    refine S_iadd (pc := 27) dX9_openSign_27 ?_
    refine S_putI (pc := 28) dX9_openSign_28 flX9_49 (sA_38 hs) (Nat.succ_pos _) (nf_9_9) rfl rfl (fun _ => rfl) ?_
    refine S_aload_n (pc := 31) dX9_openSign_31 rfl rfl ?_
    refine S_callV (As := []) (mc := 0) (ms := 0) (pc := 32) dX9_openSign_32 miX9_advance mvX9_advance mlX9_64 rfl (sA_38 hs) rfl rfl rfl (RmOK.of rfl) H ?_
    rintro _ _ ⟨f2, g3, rfl, rfl, H⟩
    show WP _ _ _ _ _ _ _ 35 [some (.ref (A + 38))] [] (sh, f2, g3, (up2 fR (A + 38) 7 (some q)))
    exact S_vreturn dX9_openSign_35 rfl H
  · replace H := H.2 hc1
    refine S_aload_n (pc := 9) dX9_openSign_9 rfl rfl ?_
    refine S_iconst (pc := 10) dX9_openSign_10 ic5 ?_
    refine S_aload_n (pc := 11) dX9_openSign_11 rfl rfl ?_
    refine S_get (pc := 12) (v := .int (f (A + 38) 11)) dX9_openSign_12 flX9_80 (sA_38 hs) rfl ?_
    refine S_callV (As := [.int (nI 5), .int (f (A + 38) 11)]) (mc := 0) (ms := 0) (pc := 15) dX9_openSign_15 miX9_blame mvX9_blame mlX9_83 rfl (sA_38 hs) rfl rfl rfl (RmOK.of rfl) H ?_
    rintro _ _ ⟨f4, g5, rfl, rfl, H⟩
    show WP _ _ _ _ _ _ _ 18 [some (.ref (A + 38))] [] (sh, f4, g5, (up2 fR (A + 38) 7 (some q)))
    refine S_goto (pc := 18) (tgt := 35) dX9_openSign_18 rfl ?_
    exact S_vreturn dX9_openSign_35 rfl H
abbrev LpX9_readTest_6 (l : Launch) (G : Gx) (d : Nat) (Q : Option Value → Hp → Prop) (sh : Sh) (fR : FRt) (A p q : Nat) (f : FI) (g : FL) (a1 : Int32) : Prop := WP l G (Zq G 0 0 Q) mX9_readTest (rmd (d + 10) 0 0) 0 0 6 [some (.ref (A + 38)), some (.int a1)] [] (sh, f, g, (up2 fR (A + 38) 7 (some q)))
set_option maxHeartbeats 2000000 in
set_option maxRecDepth 4000 in
theorem VX9_readTest {l : Launch} {G : Gx} {d : Nat} {Q : Option Value → Hp → Prop} {sh : Sh} {fR : FRt} {A p q : Nat} {f : FI} {g : FL}  (hs : StA sh fR A) (hp : fR (A + 38) 6 = some p) (hP : StPl sh fR p) (hq : StF sh fR q)
    (H : Cl l G (d + 9) 0 0 mX9_readBoth [.ref (A + 38)] (sh, f, g, (up2 fR (A + 38) 7 (some q))) (qv sh (up2 fR (A + 38) 7 (some q)) fun f1 g2 => LpX9_readTest_6 l G d Q sh fR A p q f1 g2 (nI 0))) :
    Cl l G (d + 10) 0 0 mX9_readTest [.ref (A + 38)] (sh, f, g, (up2 fR (A + 38) 7 (some q))) Q := by
  refine Cl.of (L0 := [some (.ref (A + 38)), none]) miX9_readTest rfl rfl ?_
  refine S_aload_n (pc := 0) dX9_readTest_0 rfl rfl ?_
  refine S_callV (As := []) (mc := 0) (ms := 0) (pc := 1) dX9_readTest_1 miX9_readBoth mvX9_readBoth mlX9_194 rfl (sA_38 hs) rfl rfl rfl (RmOK.of rfl) H ?_
  rintro _ _ ⟨f1, g2, rfl, rfl, H⟩
  show WP _ _ _ _ _ _ _ 4 [some (.ref (A + 38)), none] [] (sh, f1, g2, (up2 fR (A + 38) 7 (some q)))
  refine S_iconst (pc := 4) dX9_readTest_4 ic0 ?_
  refine S_istore_n (pc := 5) (L' := [some (.ref (A + 38)), some (.int (nI 0))]) dX9_readTest_5 rfl (by decide) rfl ?_
  exact H
set_option maxHeartbeats 2000000 in
set_option maxRecDepth 4000 in
theorem VX9_readTest_6 {l : Launch} {G : Gx} {d : Nat} {Q : Option Value → Hp → Prop} {sh : Sh} {fR : FRt} {A p q : Nat} {f : FI} {g : FL} {a1 : Int32} (hs : StA sh fR A) (hp : fR (A + 38) 6 = some p) (hP : StPl sh fR p) (hq : StF sh fR q)
    (H : (((nI 1600) ≤ a1 → Q none (sh, f, g, (up2 fR (A + 38) 7 (some q)))) ∧ (¬ (nI 1600) ≤ a1 → Cl l G (d + 9) 0 0 mX9_isWord [.ref (A + 38), .int (nI 23)] (sh, f, g, (up2 fR (A + 38) 7 (some q))) (qi sh (up2 fR (A + 38) 7 (some q)) fun x6 f4 g5 => ((x6 = 0 → Q none (sh, f4, g5, (up2 fR (A + 38) 7 (some q)))) ∧ (¬ x6 = 0 → Cl l G (d + 9) 0 0 mX9_advance [.ref (A + 38)] (sh, f4, g5, (up2 fR (A + 38) 7 (some q))) (qv sh (up2 fR (A + 38) 7 (some q)) fun f8 g9 => Cl l G (d + 9) 0 0 mX9_readBoth [.ref (A + 38)] (sh, f8, g9, (up2 fR (A + 38) 7 (some q))) (qv sh (up2 fR (A + 38) 7 (some q)) fun f10 g11 => Cl l G (d + 9) 0 0 mX3_put [.ref q, .int (nI 15), .int (nI 0)] (sh, f10, g11, (up2 fR (A + 38) 7 (some q))) (qv sh (up2 fR (A + 38) 7 (some q)) fun f12 g13 => LpX9_readTest_6 l G d Q sh fR A p q f12 g13 (a1 + nI 1)))))))))) :
    LpX9_readTest_6 l G d Q sh fR A p q f g a1 := by
  refine S_iload_n (pc := 6) dX9_readTest_6 rfl rfl ?_
  refine S_sipush (pc := 7) dX9_readTest_7 sp1600 ?_
  refine S_icmp_ge (pc := 10) (tgt := 46) dX9_readTest_10 rfl (fun hc3 => ?_) (fun hc3 => ?_)
  · replace H := H.1 hc3
    exact S_vreturn dX9_readTest_46 rfl H
  · replace H := H.2 hc3
    refine S_aload_n (pc := 13) dX9_readTest_13 rfl rfl ?_
    refine S_bipush (pc := 14) dX9_readTest_14 bp23 ?_
    refine S_callV (As := [.int (nI 23)]) (mc := 0) (ms := 0) (pc := 16) dX9_readTest_16 miX9_isWord mvX9_isWord mlX9_106 rfl (sA_38 hs) rfl rfl rfl (RmOK.of rfl) H ?_
    rintro _ _ ⟨x6, f4, g5, rfl, rfl, H⟩
    show WP _ _ _ _ _ _ _ 19 [some (.ref (A + 38)), some (.int a1)] [.int x6] (sh, f4, g5, (up2 fR (A + 38) 7 (some q)))
    refine S_if_eq (pc := 19) (tgt := 46) dX9_readTest_19 rfl (fun hc7 => ?_) (fun hc7 => ?_)
    · replace H := H.1 hc7
      exact S_vreturn dX9_readTest_46 rfl H
    · replace H := H.2 hc7
      refine S_aload_n (pc := 22) dX9_readTest_22 rfl rfl ?_
      refine S_callV (As := []) (mc := 0) (ms := 0) (pc := 23) dX9_readTest_23 miX9_advance mvX9_advance mlX9_64 rfl (sA_38 hs) rfl rfl rfl (RmOK.of rfl) H ?_
      rintro _ _ ⟨f8, g9, rfl, rfl, H⟩
      show WP _ _ _ _ _ _ _ 26 [some (.ref (A + 38)), some (.int a1)] [] (sh, f8, g9, (up2 fR (A + 38) 7 (some q)))
      refine S_aload_n (pc := 26) dX9_readTest_26 rfl rfl ?_
      refine S_callV (As := []) (mc := 0) (ms := 0) (pc := 27) dX9_readTest_27 miX9_readBoth mvX9_readBoth mlX9_194 rfl (sA_38 hs) rfl rfl rfl (RmOK.of rfl) H ?_
      rintro _ _ ⟨f10, g11, rfl, rfl, H⟩
      show WP _ _ _ _ _ _ _ 30 [some (.ref (A + 38)), some (.int a1)] [] (sh, f10, g11, (up2 fR (A + 38) 7 (some q)))
      refine S_aload_n (pc := 30) dX9_readTest_30 rfl rfl ?_
      refine S_getR (pc := 31) dX9_readTest_31 flX9_28 (sA_38 hs) rfl up2_eq ?_
      refine S_bipush (pc := 34) dX9_readTest_34 bp15 ?_
      refine S_iconst (pc := 36) dX9_readTest_36 ic0 ?_
      refine S_callV (As := [.int (nI 15), .int (nI 0)]) (mc := 0) (ms := 0) (pc := 37) dX9_readTest_37 miX3_put mvX3_put mlX9_197 rfl (sF_0 hq) rfl rfl rfl (RmOK.of rfl) H ?_
      rintro _ _ ⟨f12, g13, rfl, rfl, H⟩
      show WP _ _ _ _ _ _ _ 40 [some (.ref (A + 38)), some (.int a1)] [] (sh, f12, g13, (up2 fR (A + 38) 7 (some q)))
      refine S_iinc (pc := 40) (v := nI 1) (L' := [some (.ref (A + 38)), some (.int (a1 + nI 1))]) dX9_readTest_40 rfl ic1 rfl ?_
      refine S_goto (pc := 43) (tgt := 6) dX9_readTest_43 rfl ?_
      exact H
abbrev LpX9_readBoth_6 (l : Launch) (G : Gx) (d : Nat) (Q : Option Value → Hp → Prop) (sh : Sh) (fR : FRt) (A p q : Nat) (f : FI) (g : FL) (a1 : Int32) : Prop := WP l G (Zq G 0 0 Q) mX9_readBoth (rmd (d + 9) 0 0) 0 0 6 [some (.ref (A + 38)), some (.int a1)] [] (sh, f, g, (up2 fR (A + 38) 7 (some q)))
set_option maxHeartbeats 2000000 in
set_option maxRecDepth 4000 in
theorem VX9_readBoth {l : Launch} {G : Gx} {d : Nat} {Q : Option Value → Hp → Prop} {sh : Sh} {fR : FRt} {A p q : Nat} {f : FI} {g : FL}  (hs : StA sh fR A) (hp : fR (A + 38) 6 = some p) (hP : StPl sh fR p) (hq : StF sh fR q)
    (H : Cl l G (d + 8) 0 0 mX9_readFact [.ref (A + 38)] (sh, f, g, (up2 fR (A + 38) 7 (some q))) (qv sh (up2 fR (A + 38) 7 (some q)) fun f1 g2 => LpX9_readBoth_6 l G d Q sh fR A p q f1 g2 (nI 0))) :
    Cl l G (d + 9) 0 0 mX9_readBoth [.ref (A + 38)] (sh, f, g, (up2 fR (A + 38) 7 (some q))) Q := by
  refine Cl.of (L0 := [some (.ref (A + 38)), none]) miX9_readBoth rfl rfl ?_
  refine S_aload_n (pc := 0) dX9_readBoth_0 rfl rfl ?_
  refine S_callV (As := []) (mc := 0) (ms := 0) (pc := 1) dX9_readBoth_1 miX9_readFact mvX9_readFact mlX9_200 rfl (sA_38 hs) rfl rfl rfl (RmOK.of rfl) H ?_
  rintro _ _ ⟨f1, g2, rfl, rfl, H⟩
  show WP _ _ _ _ _ _ _ 4 [some (.ref (A + 38)), none] [] (sh, f1, g2, (up2 fR (A + 38) 7 (some q)))
  refine S_iconst (pc := 4) dX9_readBoth_4 ic0 ?_
  refine S_istore_n (pc := 5) (L' := [some (.ref (A + 38)), some (.int (nI 0))]) dX9_readBoth_5 rfl (by decide) rfl ?_
  exact H
set_option maxHeartbeats 2000000 in
set_option maxRecDepth 4000 in
theorem VX9_readBoth_6 {l : Launch} {G : Gx} {d : Nat} {Q : Option Value → Hp → Prop} {sh : Sh} {fR : FRt} {A p q : Nat} {f : FI} {g : FL} {a1 : Int32} (hs : StA sh fR A) (hp : fR (A + 38) 6 = some p) (hP : StPl sh fR p) (hq : StF sh fR q)
    (H : (((nI 1600) ≤ a1 → Q none (sh, f, g, (up2 fR (A + 38) 7 (some q)))) ∧ (¬ (nI 1600) ≤ a1 → Cl l G (d + 8) 0 0 mX9_isWord [.ref (A + 38), .int (nI 24)] (sh, f, g, (up2 fR (A + 38) 7 (some q))) (qi sh (up2 fR (A + 38) 7 (some q)) fun x6 f4 g5 => ((x6 = 0 → Q none (sh, f4, g5, (up2 fR (A + 38) 7 (some q)))) ∧ (¬ x6 = 0 → Cl l G (d + 8) 0 0 mX9_advance [.ref (A + 38)] (sh, f4, g5, (up2 fR (A + 38) 7 (some q))) (qv sh (up2 fR (A + 38) 7 (some q)) fun f8 g9 => Cl l G (d + 8) 0 0 mX9_readFact [.ref (A + 38)] (sh, f8, g9, (up2 fR (A + 38) 7 (some q))) (qv sh (up2 fR (A + 38) 7 (some q)) fun f10 g11 => Cl l G (d + 8) 0 0 mX3_put [.ref q, .int (nI 14), .int (nI 0)] (sh, f10, g11, (up2 fR (A + 38) 7 (some q))) (qv sh (up2 fR (A + 38) 7 (some q)) fun f12 g13 => LpX9_readBoth_6 l G d Q sh fR A p q f12 g13 (a1 + nI 1)))))))))) :
    LpX9_readBoth_6 l G d Q sh fR A p q f g a1 := by
  refine S_iload_n (pc := 6) dX9_readBoth_6 rfl rfl ?_
  refine S_sipush (pc := 7) dX9_readBoth_7 sp1600 ?_
  refine S_icmp_ge (pc := 10) (tgt := 46) dX9_readBoth_10 rfl (fun hc3 => ?_) (fun hc3 => ?_)
  · replace H := H.1 hc3
    exact S_vreturn dX9_readBoth_46 rfl H
  · replace H := H.2 hc3
    refine S_aload_n (pc := 13) dX9_readBoth_13 rfl rfl ?_
    refine S_bipush (pc := 14) dX9_readBoth_14 bp24 ?_
    refine S_callV (As := [.int (nI 24)]) (mc := 0) (ms := 0) (pc := 16) dX9_readBoth_16 miX9_isWord mvX9_isWord mlX9_106 rfl (sA_38 hs) rfl rfl rfl (RmOK.of rfl) H ?_
    rintro _ _ ⟨x6, f4, g5, rfl, rfl, H⟩
    show WP _ _ _ _ _ _ _ 19 [some (.ref (A + 38)), some (.int a1)] [.int x6] (sh, f4, g5, (up2 fR (A + 38) 7 (some q)))
    refine S_if_eq (pc := 19) (tgt := 46) dX9_readBoth_19 rfl (fun hc7 => ?_) (fun hc7 => ?_)
    · replace H := H.1 hc7
      exact S_vreturn dX9_readBoth_46 rfl H
    · replace H := H.2 hc7
      refine S_aload_n (pc := 22) dX9_readBoth_22 rfl rfl ?_
      refine S_callV (As := []) (mc := 0) (ms := 0) (pc := 23) dX9_readBoth_23 miX9_advance mvX9_advance mlX9_64 rfl (sA_38 hs) rfl rfl rfl (RmOK.of rfl) H ?_
      rintro _ _ ⟨f8, g9, rfl, rfl, H⟩
      show WP _ _ _ _ _ _ _ 26 [some (.ref (A + 38)), some (.int a1)] [] (sh, f8, g9, (up2 fR (A + 38) 7 (some q)))
      refine S_aload_n (pc := 26) dX9_readBoth_26 rfl rfl ?_
      refine S_callV (As := []) (mc := 0) (ms := 0) (pc := 27) dX9_readBoth_27 miX9_readFact mvX9_readFact mlX9_200 rfl (sA_38 hs) rfl rfl rfl (RmOK.of rfl) H ?_
      rintro _ _ ⟨f10, g11, rfl, rfl, H⟩
      show WP _ _ _ _ _ _ _ 30 [some (.ref (A + 38)), some (.int a1)] [] (sh, f10, g11, (up2 fR (A + 38) 7 (some q)))
      refine S_aload_n (pc := 30) dX9_readBoth_30 rfl rfl ?_
      refine S_getR (pc := 31) dX9_readBoth_31 flX9_28 (sA_38 hs) rfl up2_eq ?_
      refine S_bipush (pc := 34) dX9_readBoth_34 bp14 ?_
      refine S_iconst (pc := 36) dX9_readBoth_36 ic0 ?_
      refine S_callV (As := [.int (nI 14), .int (nI 0)]) (mc := 0) (ms := 0) (pc := 37) dX9_readBoth_37 miX3_put mvX3_put mlX9_197 rfl (sF_0 hq) rfl rfl rfl (RmOK.of rfl) H ?_
      rintro _ _ ⟨f12, g13, rfl, rfl, H⟩
      show WP _ _ _ _ _ _ _ 40 [some (.ref (A + 38)), some (.int a1)] [] (sh, f12, g13, (up2 fR (A + 38) 7 (some q)))
      refine S_iinc (pc := 40) (v := nI 1) (L' := [some (.ref (A + 38)), some (.int (a1 + nI 1))]) dX9_readBoth_40 rfl ic1 rfl ?_
      refine S_goto (pc := 43) (tgt := 6) dX9_readBoth_43 rfl ?_
      exact H
set_option maxHeartbeats 2000000 in
set_option maxRecDepth 4000 in
theorem VX9_readFact {l : Launch} {G : Gx} {d : Nat} {Q : Option Value → Hp → Prop} {sh : Sh} {fR : FRt} {A p q : Nat} {f : FI} {g : FL}  (hs : StA sh fR A) (hp : fR (A + 38) 6 = some p) (hP : StPl sh fR p) (hq : StF sh fR q)
    (H : Cl l G (d + 7) 0 0 mX9_isWord [.ref (A + 38), .int (nI 25)] (sh, f, g, (up2 fR (A + 38) 7 (some q))) (qi sh (up2 fR (A + 38) 7 (some q)) fun x3 f1 g2 => ((x3 = 0 → Cl l G (d + 7) 0 0 mX9_isSign [.ref (A + 38), .int (nI 91)] (sh, f1, g2, (up2 fR (A + 38) 7 (some q))) (qi sh (up2 fR (A + 38) 7 (some q)) fun x7 f5 g6 => ((x7 = 0 → Cl l G (d + 7) 0 0 mX9_isWord [.ref (A + 38), .int (nI 26)] (sh, f5, g6, (up2 fR (A + 38) 7 (some q))) (qi sh (up2 fR (A + 38) 7 (some q)) fun x11 f9 g10 => ((x11 = 0 → Cl l G (d + 7) 0 0 mX9_readSum [.ref (A + 38)] (sh, f9, g10, (up2 fR (A + 38) 7 (some q))) (qv sh (up2 fR (A + 38) 7 (some q)) fun f13 g14 => Cl l G (d + 7) 0 0 mX9_isSign [.ref (A + 38), .int (nI 60)] (sh, f13, g14, (up2 fR (A + 38) 7 (some q))) (qi sh (up2 fR (A + 38) 7 (some q)) fun x17 f15 g16 => ((x17 = 0 → Cl l G (d + 7) 0 0 mX9_isSign [.ref (A + 38), .int (nI 62)] (sh, f15, g16, (up2 fR (A + 38) 7 (some q))) (qi sh (up2 fR (A + 38) 7 (some q)) fun x21 f19 g20 => ((x21 = 0 → Cl l G (d + 7) 0 0 mX9_expectSign [.ref (A + 38), .int (nI 61)] (sh, f19, g20, (up2 fR (A + 38) 7 (some q))) (qv sh (up2 fR (A + 38) 7 (some q)) fun f24 g25 => Cl l G (d + 7) 0 0 mX9_readSum [.ref (A + 38)] (sh, f24, g25, (up2 fR (A + 38) 7 (some q))) (qv sh (up2 fR (A + 38) 7 (some q)) fun f26 g27 => Cl l G (d + 7) 0 0 mX3_put [.ref q, .int (nI 13), .int (nI 0)] (sh, f26, g27, (up2 fR (A + 38) 7 (some q))) (qv sh (up2 fR (A + 38) 7 (some q)) fun f28 g29 => Q none (sh, f28, g29, (up2 fR (A + 38) 7 (some q))))))) ∧ (¬ x21 = 0 → Cl l G (d + 7) 0 0 mX9_advance [.ref (A + 38)] (sh, f19, g20, (up2 fR (A + 38) 7 (some q))) (qv sh (up2 fR (A + 38) 7 (some q)) fun f31 g32 => Cl l G (d + 7) 0 0 mX9_readSum [.ref (A + 38)] (sh, f31, g32, (up2 fR (A + 38) 7 (some q))) (qv sh (up2 fR (A + 38) 7 (some q)) fun f33 g34 => Cl l G (d + 7) 0 0 mX3_put [.ref q, .int (nI 12), .int (nI 0)] (sh, f33, g34, (up2 fR (A + 38) 7 (some q))) (qv sh (up2 fR (A + 38) 7 (some q)) fun f35 g36 => Q none (sh, f35, g36, (up2 fR (A + 38) 7 (some q)))))))))) ∧ (¬ x17 = 0 → Cl l G (d + 7) 0 0 mX9_advance [.ref (A + 38)] (sh, f15, g16, (up2 fR (A + 38) 7 (some q))) (qv sh (up2 fR (A + 38) 7 (some q)) fun f38 g39 => Cl l G (d + 7) 0 0 mX9_readSum [.ref (A + 38)] (sh, f38, g39, (up2 fR (A + 38) 7 (some q))) (qv sh (up2 fR (A + 38) 7 (some q)) fun f40 g41 => Cl l G (d + 7) 0 0 mX3_put [.ref q, .int (nI 11), .int (nI 0)] (sh, f40, g41, (up2 fR (A + 38) 7 (some q))) (qv sh (up2 fR (A + 38) 7 (some q)) fun f42 g43 => Q none (sh, f42, g43, (up2 fR (A + 38) 7 (some q))))))))))) ∧ (¬ x11 = 0 → Cl l G (d + 7) 0 0 mX9_advance [.ref (A + 38)] (sh, f9, g10, (up2 fR (A + 38) 7 (some q))) (qv sh (up2 fR (A + 38) 7 (some q)) fun f44 g45 => Cl l G (d + 7) 0 0 mX3_put [.ref q, .int (nI 0), .int (nI 1)] (sh, f44, g45, (up2 fR (A + 38) 7 (some q))) (qv sh (up2 fR (A + 38) 7 (some q)) fun f46 g47 => Q none (sh, f46, g47, (up2 fR (A + 38) 7 (some q))))))))) ∧ (¬ x7 = 0 → Cl l G (d + 7) 0 0 mX9_openSign [.ref (A + 38)] (sh, f5, g6, (up2 fR (A + 38) 7 (some q))) (qv sh (up2 fR (A + 38) 7 (some q)) fun f48 g49 => Cl l G (d + 7) 0 0 mX9_readTest [.ref (A + 38)] (sh, f48, g49, (up2 fR (A + 38) 7 (some q))) (qv sh (up2 fR (A + 38) 7 (some q)) fun f50 g51 => Cl l G (d + 7) 0 0 mX9_expectSign [.ref (A + 38), .int (nI 93)] (sh, f50, g51, (up2 fR (A + 38) 7 (some q))) (qv sh (up2 fR (A + 38) 7 (some q)) fun f52 g53 => Q none (sh, (up2 f52 (A + 38) 9 ((f52 (A + 38) 9) - (nI 1))), g53, (up2 fR (A + 38) 7 (some q)))))))))) ∧ (¬ x3 = 0 → Cl l G (d + 7) 0 0 mX9_openSign [.ref (A + 38)] (sh, f1, g2, (up2 fR (A + 38) 7 (some q))) (qv sh (up2 fR (A + 38) 7 (some q)) fun f54 g55 => Cl l G (d + 7) 0 0 mX9_readFact [.ref (A + 38)] (sh, f54, g55, (up2 fR (A + 38) 7 (some q))) (qv sh (up2 fR (A + 38) 7 (some q)) fun f56 g57 => Cl l G (d + 7) 0 0 mX3_put [.ref q, .int (nI 2), .int (nI 0)] (sh, (up2 f56 (A + 38) 9 ((f56 (A + 38) 9) - (nI 1))), g57, (up2 fR (A + 38) 7 (some q))) (qv sh (up2 fR (A + 38) 7 (some q)) fun f58 g59 => Q none (sh, f58, g59, (up2 fR (A + 38) 7 (some q)))))))))) :
    Cl l G (d + 8) 0 0 mX9_readFact [.ref (A + 38)] (sh, f, g, (up2 fR (A + 38) 7 (some q))) Q := by
  refine Cl.of (L0 := [some (.ref (A + 38)), none]) miX9_readFact rfl rfl ?_
  refine S_aload_n (pc := 0) dX9_readFact_0 rfl rfl ?_
  refine S_bipush (pc := 1) dX9_readFact_1 bp25 ?_
  refine S_callV (As := [.int (nI 25)]) (mc := 0) (ms := 0) (pc := 3) dX9_readFact_3 miX9_isWord mvX9_isWord mlX9_106 rfl (sA_38 hs) rfl rfl rfl (RmOK.of rfl) H ?_
  rintro _ _ ⟨x3, f1, g2, rfl, rfl, H⟩
  show WP _ _ _ _ _ _ _ 6 [some (.ref (A + 38)), none] [.int x3] (sh, f1, g2, (up2 fR (A + 38) 7 (some q)))
  refine S_if_eq (pc := 6) (tgt := 39) dX9_readFact_6 rfl (fun hc4 => ?_) (fun hc4 => ?_)
  · replace H := H.1 hc4
    refine S_aload_n (pc := 39) dX9_readFact_39 rfl rfl ?_
    refine S_bipush (pc := 40) dX9_readFact_40 bp91 ?_
    refine S_callV (As := [.int (nI 91)]) (mc := 0) (ms := 0) (pc := 42) dX9_readFact_42 miX9_isSign mvX9_isSign mlX9_112 rfl (sA_38 hs) rfl rfl rfl (RmOK.of rfl) H ?_
    rintro _ _ ⟨x7, f5, g6, rfl, rfl, H⟩
    show WP _ _ _ _ _ _ _ 45 [some (.ref (A + 38)), none] [.int x7] (sh, f5, g6, (up2 fR (A + 38) 7 (some q)))
    refine S_if_eq (pc := 45) (tgt := 75) dX9_readFact_45 rfl (fun hc8 => ?_) (fun hc8 => ?_)
    · replace H := H.1 hc8
      refine S_aload_n (pc := 75) dX9_readFact_75 rfl rfl ?_
      refine S_bipush (pc := 76) dX9_readFact_76 bp26 ?_
      refine S_callV (As := [.int (nI 26)]) (mc := 0) (ms := 0) (pc := 78) dX9_readFact_78 miX9_isWord mvX9_isWord mlX9_106 rfl (sA_38 hs) rfl rfl rfl (RmOK.of rfl) H ?_
      rintro _ _ ⟨x11, f9, g10, rfl, rfl, H⟩
      show WP _ _ _ _ _ _ _ 81 [some (.ref (A + 38)), none] [.int x11] (sh, f9, g10, (up2 fR (A + 38) 7 (some q)))
      refine S_if_eq (pc := 81) (tgt := 100) dX9_readFact_81 rfl (fun hc12 => ?_) (fun hc12 => ?_)
      · replace H := H.1 hc12
        refine S_aload_n (pc := 100) dX9_readFact_100 rfl rfl ?_
        refine S_callV (As := []) (mc := 0) (ms := 0) (pc := 101) dX9_readFact_101 miX9_readSum mvX9_readSum mlX9_191 rfl (sA_38 hs) rfl rfl rfl (RmOK.of rfl) H ?_
        rintro _ _ ⟨f13, g14, rfl, rfl, H⟩
        show WP _ _ _ _ _ _ _ 104 [some (.ref (A + 38)), none] [] (sh, f13, g14, (up2 fR (A + 38) 7 (some q)))
        refine S_aload_n (pc := 104) dX9_readFact_104 rfl rfl ?_
        refine S_bipush (pc := 105) dX9_readFact_105 bp60 ?_
        refine S_callV (As := [.int (nI 60)]) (mc := 0) (ms := 0) (pc := 107) dX9_readFact_107 miX9_isSign mvX9_isSign mlX9_112 rfl (sA_38 hs) rfl rfl rfl (RmOK.of rfl) H ?_
        rintro _ _ ⟨x17, f15, g16, rfl, rfl, H⟩
        show WP _ _ _ _ _ _ _ 110 [some (.ref (A + 38)), none] [.int x17] (sh, f15, g16, (up2 fR (A + 38) 7 (some q)))
        refine S_if_eq (pc := 110) (tgt := 118) dX9_readFact_110 rfl (fun hc18 => ?_) (fun hc18 => ?_)
        · replace H := H.1 hc18
          refine S_aload_n (pc := 118) dX9_readFact_118 rfl rfl ?_
          refine S_bipush (pc := 119) dX9_readFact_119 bp62 ?_
          refine S_callV (As := [.int (nI 62)]) (mc := 0) (ms := 0) (pc := 121) dX9_readFact_121 miX9_isSign mvX9_isSign mlX9_112 rfl (sA_38 hs) rfl rfl rfl (RmOK.of rfl) H ?_
          rintro _ _ ⟨x21, f19, g20, rfl, rfl, H⟩
          show WP _ _ _ _ _ _ _ 124 [some (.ref (A + 38)), none] [.int x21] (sh, f19, g20, (up2 fR (A + 38) 7 (some q)))
          refine S_if_eq (pc := 124) (tgt := 132) dX9_readFact_124 rfl (fun hc22 => ?_) (fun hc22 => ?_)
          · replace H := H.1 hc22
            refine S_bipush (pc := 132) dX9_readFact_132 bp13 ?_
            refine S_istore_n (pc := 134) (L' := [some (.ref (A + 38)), some (.int (nI 13))]) dX9_readFact_134 rfl (by decide) rfl ?_
            refine S_iload_n (pc := 135) dX9_readFact_135 rfl rfl ?_
            refine S_bipush (pc := 136) dX9_readFact_136 bp13 ?_
            refine S_icmp_ne (pc := 138) (tgt := 150) dX9_readFact_138 rfl (fun hc23 => by first | exact absurd hc23 (by decide) | exact absurd (by decide) hc23) (fun _ => ?_)
            refine S_aload_n (pc := 141) dX9_readFact_141 rfl rfl ?_
            refine S_bipush (pc := 142) dX9_readFact_142 bp61 ?_
            refine S_callV (As := [.int (nI 61)]) (mc := 0) (ms := 0) (pc := 144) dX9_readFact_144 miX9_expectSign mvX9_expectSign mlX9_71 rfl (sA_38 hs) rfl rfl rfl (RmOK.of rfl) H ?_
            rintro _ _ ⟨f24, g25, rfl, rfl, H⟩
            show WP _ _ _ _ _ _ _ 147 [some (.ref (A + 38)), some (.int (nI 13))] [] (sh, f24, g25, (up2 fR (A + 38) 7 (some q)))
            refine S_goto (pc := 147) (tgt := 154) dX9_readFact_147 rfl ?_
            refine S_aload_n (pc := 154) dX9_readFact_154 rfl rfl ?_
            refine S_callV (As := []) (mc := 0) (ms := 0) (pc := 155) dX9_readFact_155 miX9_readSum mvX9_readSum mlX9_191 rfl (sA_38 hs) rfl rfl rfl (RmOK.of rfl) H ?_
            rintro _ _ ⟨f26, g27, rfl, rfl, H⟩
            show WP _ _ _ _ _ _ _ 158 [some (.ref (A + 38)), some (.int (nI 13))] [] (sh, f26, g27, (up2 fR (A + 38) 7 (some q)))
            refine S_aload_n (pc := 158) dX9_readFact_158 rfl rfl ?_
            refine S_getR (pc := 159) dX9_readFact_159 flX9_28 (sA_38 hs) rfl up2_eq ?_
            refine S_iload_n (pc := 162) dX9_readFact_162 rfl rfl ?_
            refine S_iconst (pc := 163) dX9_readFact_163 ic0 ?_
            refine S_callV (As := [.int (nI 13), .int (nI 0)]) (mc := 0) (ms := 0) (pc := 164) dX9_readFact_164 miX3_put mvX3_put mlX9_197 rfl (sF_0 hq) rfl rfl rfl (RmOK.of rfl) H ?_
            rintro _ _ ⟨f28, g29, rfl, rfl, H⟩
            show WP _ _ _ _ _ _ _ 167 [some (.ref (A + 38)), some (.int (nI 13))] [] (sh, f28, g29, (up2 fR (A + 38) 7 (some q)))
            exact S_vreturn dX9_readFact_167 rfl H
          · replace H := H.2 hc22
            refine S_bipush (pc := 127) dX9_readFact_127 bp12 ?_
            refine S_goto (pc := 129) (tgt := 134) dX9_readFact_129 rfl ?_
            refine S_istore_n (pc := 134) (L' := [some (.ref (A + 38)), some (.int (nI 12))]) dX9_readFact_134 rfl (by decide) rfl ?_
            refine S_iload_n (pc := 135) dX9_readFact_135 rfl rfl ?_
            refine S_bipush (pc := 136) dX9_readFact_136 bp13 ?_
            refine S_icmp_ne (pc := 138) (tgt := 150) dX9_readFact_138 rfl (fun _ => ?_) (fun hc30 => by first | exact absurd (by decide) hc30 | exact absurd hc30 (by decide))
            refine S_aload_n (pc := 150) dX9_readFact_150 rfl rfl ?_
            refine S_callV (As := []) (mc := 0) (ms := 0) (pc := 151) dX9_readFact_151 miX9_advance mvX9_advance mlX9_64 rfl (sA_38 hs) rfl rfl rfl (RmOK.of rfl) H ?_
            rintro _ _ ⟨f31, g32, rfl, rfl, H⟩
            show WP _ _ _ _ _ _ _ 154 [some (.ref (A + 38)), some (.int (nI 12))] [] (sh, f31, g32, (up2 fR (A + 38) 7 (some q)))
            refine S_aload_n (pc := 154) dX9_readFact_154 rfl rfl ?_
            refine S_callV (As := []) (mc := 0) (ms := 0) (pc := 155) dX9_readFact_155 miX9_readSum mvX9_readSum mlX9_191 rfl (sA_38 hs) rfl rfl rfl (RmOK.of rfl) H ?_
            rintro _ _ ⟨f33, g34, rfl, rfl, H⟩
            show WP _ _ _ _ _ _ _ 158 [some (.ref (A + 38)), some (.int (nI 12))] [] (sh, f33, g34, (up2 fR (A + 38) 7 (some q)))
            refine S_aload_n (pc := 158) dX9_readFact_158 rfl rfl ?_
            refine S_getR (pc := 159) dX9_readFact_159 flX9_28 (sA_38 hs) rfl up2_eq ?_
            refine S_iload_n (pc := 162) dX9_readFact_162 rfl rfl ?_
            refine S_iconst (pc := 163) dX9_readFact_163 ic0 ?_
            refine S_callV (As := [.int (nI 12), .int (nI 0)]) (mc := 0) (ms := 0) (pc := 164) dX9_readFact_164 miX3_put mvX3_put mlX9_197 rfl (sF_0 hq) rfl rfl rfl (RmOK.of rfl) H ?_
            rintro _ _ ⟨f35, g36, rfl, rfl, H⟩
            show WP _ _ _ _ _ _ _ 167 [some (.ref (A + 38)), some (.int (nI 12))] [] (sh, f35, g36, (up2 fR (A + 38) 7 (some q)))
            exact S_vreturn dX9_readFact_167 rfl H
        · replace H := H.2 hc18
          refine S_bipush (pc := 113) dX9_readFact_113 bp11 ?_
          refine S_goto (pc := 115) (tgt := 134) dX9_readFact_115 rfl ?_
          refine S_istore_n (pc := 134) (L' := [some (.ref (A + 38)), some (.int (nI 11))]) dX9_readFact_134 rfl (by decide) rfl ?_
          refine S_iload_n (pc := 135) dX9_readFact_135 rfl rfl ?_
          refine S_bipush (pc := 136) dX9_readFact_136 bp13 ?_
          refine S_icmp_ne (pc := 138) (tgt := 150) dX9_readFact_138 rfl (fun _ => ?_) (fun hc37 => by first | exact absurd (by decide) hc37 | exact absurd hc37 (by decide))
          refine S_aload_n (pc := 150) dX9_readFact_150 rfl rfl ?_
          refine S_callV (As := []) (mc := 0) (ms := 0) (pc := 151) dX9_readFact_151 miX9_advance mvX9_advance mlX9_64 rfl (sA_38 hs) rfl rfl rfl (RmOK.of rfl) H ?_
          rintro _ _ ⟨f38, g39, rfl, rfl, H⟩
          show WP _ _ _ _ _ _ _ 154 [some (.ref (A + 38)), some (.int (nI 11))] [] (sh, f38, g39, (up2 fR (A + 38) 7 (some q)))
          refine S_aload_n (pc := 154) dX9_readFact_154 rfl rfl ?_
          refine S_callV (As := []) (mc := 0) (ms := 0) (pc := 155) dX9_readFact_155 miX9_readSum mvX9_readSum mlX9_191 rfl (sA_38 hs) rfl rfl rfl (RmOK.of rfl) H ?_
          rintro _ _ ⟨f40, g41, rfl, rfl, H⟩
          show WP _ _ _ _ _ _ _ 158 [some (.ref (A + 38)), some (.int (nI 11))] [] (sh, f40, g41, (up2 fR (A + 38) 7 (some q)))
          refine S_aload_n (pc := 158) dX9_readFact_158 rfl rfl ?_
          refine S_getR (pc := 159) dX9_readFact_159 flX9_28 (sA_38 hs) rfl up2_eq ?_
          refine S_iload_n (pc := 162) dX9_readFact_162 rfl rfl ?_
          refine S_iconst (pc := 163) dX9_readFact_163 ic0 ?_
          refine S_callV (As := [.int (nI 11), .int (nI 0)]) (mc := 0) (ms := 0) (pc := 164) dX9_readFact_164 miX3_put mvX3_put mlX9_197 rfl (sF_0 hq) rfl rfl rfl (RmOK.of rfl) H ?_
          rintro _ _ ⟨f42, g43, rfl, rfl, H⟩
          show WP _ _ _ _ _ _ _ 167 [some (.ref (A + 38)), some (.int (nI 11))] [] (sh, f42, g43, (up2 fR (A + 38) 7 (some q)))
          exact S_vreturn dX9_readFact_167 rfl H
      · replace H := H.2 hc12
        refine S_aload_n (pc := 84) dX9_readFact_84 rfl rfl ?_
        refine S_callV (As := []) (mc := 0) (ms := 0) (pc := 85) dX9_readFact_85 miX9_advance mvX9_advance mlX9_64 rfl (sA_38 hs) rfl rfl rfl (RmOK.of rfl) H ?_
        rintro _ _ ⟨f44, g45, rfl, rfl, H⟩
        show WP _ _ _ _ _ _ _ 88 [some (.ref (A + 38)), none] [] (sh, f44, g45, (up2 fR (A + 38) 7 (some q)))
        refine S_aload_n (pc := 88) dX9_readFact_88 rfl rfl ?_
        refine S_getR (pc := 89) dX9_readFact_89 flX9_28 (sA_38 hs) rfl up2_eq ?_
        refine S_iconst (pc := 92) dX9_readFact_92 ic0 ?_
        refine S_iconst (pc := 93) dX9_readFact_93 ic1 ?_
        refine S_callV (As := [.int (nI 0), .int (nI 1)]) (mc := 0) (ms := 0) (pc := 94) dX9_readFact_94 miX3_put mvX3_put mlX9_197 rfl (sF_0 hq) rfl rfl rfl (RmOK.of rfl) H ?_
        rintro _ _ ⟨f46, g47, rfl, rfl, H⟩
        show WP _ _ _ _ _ _ _ 97 [some (.ref (A + 38)), none] [] (sh, f46, g47, (up2 fR (A + 38) 7 (some q)))
        refine S_goto (pc := 97) (tgt := 167) dX9_readFact_97 rfl ?_
        exact S_vreturn dX9_readFact_167 rfl H
    · replace H := H.2 hc8
      refine S_aload_n (pc := 48) dX9_readFact_48 rfl rfl ?_
      refine S_callV (As := []) (mc := 0) (ms := 0) (pc := 49) dX9_readFact_49 miX9_openSign mvX9_openSign mlX9_203 rfl (sA_38 hs) rfl rfl rfl (RmOK.of rfl) H ?_
      rintro _ _ ⟨f48, g49, rfl, rfl, H⟩
      show WP _ _ _ _ _ _ _ 52 [some (.ref (A + 38)), none] [] (sh, f48, g49, (up2 fR (A + 38) 7 (some q)))
      refine S_aload_n (pc := 52) dX9_readFact_52 rfl rfl ?_
      refine S_callV (As := []) (mc := 0) (ms := 0) (pc := 53) dX9_readFact_53 miX9_readTest mvX9_readTest mlX9_188 rfl (sA_38 hs) rfl rfl rfl (RmOK.of rfl) H ?_
      rintro _ _ ⟨f50, g51, rfl, rfl, H⟩
      show WP _ _ _ _ _ _ _ 56 [some (.ref (A + 38)), none] [] (sh, f50, g51, (up2 fR (A + 38) 7 (some q)))
      refine S_aload_n (pc := 56) dX9_readFact_56 rfl rfl ?_
      refine S_bipush (pc := 57) dX9_readFact_57 bp93 ?_
      refine S_callV (As := [.int (nI 93)]) (mc := 0) (ms := 0) (pc := 59) dX9_readFact_59 miX9_expectSign mvX9_expectSign mlX9_71 rfl (sA_38 hs) rfl rfl rfl (RmOK.of rfl) H ?_
      rintro _ _ ⟨f52, g53, rfl, rfl, H⟩
      show WP _ _ _ _ _ _ _ 62 [some (.ref (A + 38)), none] [] (sh, f52, g53, (up2 fR (A + 38) 7 (some q)))
      refine S_aload_n (pc := 62) dX9_readFact_62 rfl rfl ?_
      refine S_dup (pc := 63) dX9_readFact_63 rfl ?_
      refine S_get (pc := 64) (v := .int (f52 (A + 38) 9)) dX9_readFact_64 flX9_49 (sA_38 hs) rfl ?_
      refine S_iconst (pc := 67) dX9_readFact_67 ic1 ?_
      refine S_isub (pc := 68) dX9_readFact_68 ?_
      refine S_putI (pc := 69) dX9_readFact_69 flX9_49 (sA_38 hs) (Nat.succ_pos _) (nf_9_9) rfl rfl (fun _ => rfl) ?_
      refine S_goto (pc := 72) (tgt := 167) dX9_readFact_72 rfl ?_
      exact S_vreturn dX9_readFact_167 rfl H
  · replace H := H.2 hc4
    refine S_aload_n (pc := 9) dX9_readFact_9 rfl rfl ?_
    refine S_callV (As := []) (mc := 0) (ms := 0) (pc := 10) dX9_readFact_10 miX9_openSign mvX9_openSign mlX9_203 rfl (sA_38 hs) rfl rfl rfl (RmOK.of rfl) H ?_
    rintro _ _ ⟨f54, g55, rfl, rfl, H⟩
    show WP _ _ _ _ _ _ _ 13 [some (.ref (A + 38)), none] [] (sh, f54, g55, (up2 fR (A + 38) 7 (some q)))
    refine S_aload_n (pc := 13) dX9_readFact_13 rfl rfl ?_
    refine S_callV (As := []) (mc := 0) (ms := 0) (pc := 14) dX9_readFact_14 miX9_readFact mvX9_readFact mlX9_200 rfl (sA_38 hs) rfl rfl rfl (RmOK.of rfl) H ?_
    rintro _ _ ⟨f56, g57, rfl, rfl, H⟩
    show WP _ _ _ _ _ _ _ 17 [some (.ref (A + 38)), none] [] (sh, f56, g57, (up2 fR (A + 38) 7 (some q)))
    refine S_aload_n (pc := 17) dX9_readFact_17 rfl rfl ?_
    refine S_dup (pc := 18) dX9_readFact_18 rfl ?_
    refine S_get (pc := 19) (v := .int (f56 (A + 38) 9)) dX9_readFact_19 flX9_49 (sA_38 hs) rfl ?_
    refine S_iconst (pc := 22) dX9_readFact_22 ic1 ?_
    refine S_isub (pc := 23) dX9_readFact_23 ?_
    refine S_putI (pc := 24) dX9_readFact_24 flX9_49 (sA_38 hs) (Nat.succ_pos _) (nf_9_9) rfl rfl (fun _ => rfl) ?_
    refine S_aload_n (pc := 27) dX9_readFact_27 rfl rfl ?_
    refine S_getR (pc := 28) dX9_readFact_28 flX9_28 (sA_38 hs) rfl up2_eq ?_
    refine S_iconst (pc := 31) dX9_readFact_31 ic2 ?_
    refine S_iconst (pc := 32) dX9_readFact_32 ic0 ?_
    refine S_callV (As := [.int (nI 2), .int (nI 0)]) (mc := 0) (ms := 0) (pc := 33) dX9_readFact_33 miX3_put mvX3_put mlX9_197 rfl (sF_0 hq) rfl rfl rfl (RmOK.of rfl) H ?_
    rintro _ _ ⟨f58, g59, rfl, rfl, H⟩
    show WP _ _ _ _ _ _ _ 36 [some (.ref (A + 38)), none] [] (sh, f58, g59, (up2 fR (A + 38) 7 (some q)))
    refine S_goto (pc := 36) (tgt := 167) dX9_readFact_36 rfl ?_
    exact S_vreturn dX9_readFact_167 rfl H
abbrev LpX9_readSum_6 (l : Launch) (G : Gx) (d : Nat) (Q : Option Value → Hp → Prop) (sh : Sh) (fR : FRt) (A p q : Nat) (f : FI) (g : FL) (a1 : Int32) : Prop := WP l G (Zq G 0 0 Q) mX9_readSum (rmd (d + 7) 0 0) 0 0 6 [some (.ref (A + 38)), some (.int a1), none] [] (sh, f, g, (up2 fR (A + 38) 7 (some q)))
abbrev LpX9_readSum_31 (l : Launch) (G : Gx) (d : Nat) (Q : Option Value → Hp → Prop) (sh : Sh) (fR : FRt) (A p q : Nat) (f : FI) (g : FL) (a1 : Int32) : Prop := WP l G (Zq G 0 0 Q) mX9_readSum (rmd (d + 7) 0 0) 0 0 31 [some (.ref (A + 38)), some (.int a1), none] [] (sh, f, g, (up2 fR (A + 38) 7 (some q)))
set_option maxHeartbeats 2000000 in
set_option maxRecDepth 4000 in
theorem VX9_readSum {l : Launch} {G : Gx} {d : Nat} {Q : Option Value → Hp → Prop} {sh : Sh} {fR : FRt} {A p q : Nat} {f : FI} {g : FL}  (hs : StA sh fR A) (hp : fR (A + 38) 6 = some p) (hP : StPl sh fR p) (hq : StF sh fR q)
    (H : Cl l G (d + 6) 0 0 mX9_readProduct [.ref (A + 38)] (sh, f, g, (up2 fR (A + 38) 7 (some q))) (qv sh (up2 fR (A + 38) 7 (some q)) fun f1 g2 => LpX9_readSum_6 l G d Q sh fR A p q f1 g2 (nI 0))) :
    Cl l G (d + 7) 0 0 mX9_readSum [.ref (A + 38)] (sh, f, g, (up2 fR (A + 38) 7 (some q))) Q := by
  refine Cl.of (L0 := [some (.ref (A + 38)), none, none]) miX9_readSum rfl rfl ?_
  refine S_aload_n (pc := 0) dX9_readSum_0 rfl rfl ?_
  refine S_callV (As := []) (mc := 0) (ms := 0) (pc := 1) dX9_readSum_1 miX9_readProduct mvX9_readProduct mlX9_206 rfl (sA_38 hs) rfl rfl rfl (RmOK.of rfl) H ?_
  rintro _ _ ⟨f1, g2, rfl, rfl, H⟩
  show WP _ _ _ _ _ _ _ 4 [some (.ref (A + 38)), none, none] [] (sh, f1, g2, (up2 fR (A + 38) 7 (some q)))
  refine S_iconst (pc := 4) dX9_readSum_4 ic0 ?_
  refine S_istore_n (pc := 5) (L' := [some (.ref (A + 38)), some (.int (nI 0)), none]) dX9_readSum_5 rfl (by decide) rfl ?_
  exact H
set_option maxHeartbeats 2000000 in
set_option maxRecDepth 4000 in
theorem VX9_readSum_6 {l : Launch} {G : Gx} {d : Nat} {Q : Option Value → Hp → Prop} {sh : Sh} {fR : FRt} {A p q : Nat} {f : FI} {g : FL} {a1 : Int32} (hs : StA sh fR A) (hp : fR (A + 38) 6 = some p) (hP : StPl sh fR p) (hq : StF sh fR q)
    (H : (((nI 1600) ≤ a1 → Q none (sh, f, g, (up2 fR (A + 38) 7 (some q)))) ∧ (¬ (nI 1600) ≤ a1 → Cl l G (d + 6) 0 0 mX9_isSign [.ref (A + 38), .int (nI 43)] (sh, f, g, (up2 fR (A + 38) 7 (some q))) (qi sh (up2 fR (A + 38) 7 (some q)) fun x6 f4 g5 => ((¬ x6 = 0 → LpX9_readSum_31 l G d Q sh fR A p q f4 g5 a1) ∧ (x6 = 0 → Cl l G (d + 6) 0 0 mX9_isSign [.ref (A + 38), .int (nI 45)] (sh, f4, g5, (up2 fR (A + 38) 7 (some q))) (qi sh (up2 fR (A + 38) 7 (some q)) fun x10 f8 g9 => ((x10 = 0 → Q none (sh, f8, g9, (up2 fR (A + 38) 7 (some q)))) ∧ (¬ x10 = 0 → LpX9_readSum_31 l G d Q sh fR A p q f8 g9 a1))))))))) :
    LpX9_readSum_6 l G d Q sh fR A p q f g a1 := by
  refine S_iload_n (pc := 6) dX9_readSum_6 rfl rfl ?_
  refine S_sipush (pc := 7) dX9_readSum_7 sp1600 ?_
  refine S_icmp_ge (pc := 10) (tgt := 69) dX9_readSum_10 rfl (fun hc3 => ?_) (fun hc3 => ?_)
  · replace H := H.1 hc3
    exact S_vreturn dX9_readSum_69 rfl H
  · replace H := H.2 hc3
    refine S_aload_n (pc := 13) dX9_readSum_13 rfl rfl ?_
    refine S_bipush (pc := 14) dX9_readSum_14 bp43 ?_
    refine S_callV (As := [.int (nI 43)]) (mc := 0) (ms := 0) (pc := 16) dX9_readSum_16 miX9_isSign mvX9_isSign mlX9_112 rfl (sA_38 hs) rfl rfl rfl (RmOK.of rfl) H ?_
    rintro _ _ ⟨x6, f4, g5, rfl, rfl, H⟩
    show WP _ _ _ _ _ _ _ 19 [some (.ref (A + 38)), some (.int a1), none] [.int x6] (sh, f4, g5, (up2 fR (A + 38) 7 (some q)))
    refine S_if_ne (pc := 19) (tgt := 31) dX9_readSum_19 rfl (fun hc7 => ?_) (fun hc7 => ?_)
    · replace H := H.1 hc7
      exact H
    · replace H := H.2 hc7
      refine S_aload_n (pc := 22) dX9_readSum_22 rfl rfl ?_
      refine S_bipush (pc := 23) dX9_readSum_23 bp45 ?_
      refine S_callV (As := [.int (nI 45)]) (mc := 0) (ms := 0) (pc := 25) dX9_readSum_25 miX9_isSign mvX9_isSign mlX9_112 rfl (sA_38 hs) rfl rfl rfl (RmOK.of rfl) H ?_
      rintro _ _ ⟨x10, f8, g9, rfl, rfl, H⟩
      show WP _ _ _ _ _ _ _ 28 [some (.ref (A + 38)), some (.int a1), none] [.int x10] (sh, f8, g9, (up2 fR (A + 38) 7 (some q)))
      refine S_if_eq (pc := 28) (tgt := 69) dX9_readSum_28 rfl (fun hc11 => ?_) (fun hc11 => ?_)
      · replace H := H.1 hc11
        exact S_vreturn dX9_readSum_69 rfl H
      · replace H := H.2 hc11
        exact H
set_option maxHeartbeats 2000000 in
set_option maxRecDepth 4000 in
theorem VX9_readSum_31 {l : Launch} {G : Gx} {d : Nat} {Q : Option Value → Hp → Prop} {sh : Sh} {fR : FRt} {A p q : Nat} {f : FI} {g : FL} {a1 : Int32} (hs : StA sh fR A) (hp : fR (A + 38) 6 = some p) (hP : StPl sh fR p) (hq : StF sh fR q)
    (H : Cl l G (d + 6) 0 0 mX9_isSign [.ref (A + 38), .int (nI 43)] (sh, f, g, (up2 fR (A + 38) 7 (some q))) (qi sh (up2 fR (A + 38) 7 (some q)) fun x14 f12 g13 => ((x14 = 0 → Cl l G (d + 6) 0 0 mX9_advance [.ref (A + 38)] (sh, f12, g13, (up2 fR (A + 38) 7 (some q))) (qv sh (up2 fR (A + 38) 7 (some q)) fun f16 g17 => Cl l G (d + 6) 0 0 mX9_readProduct [.ref (A + 38)] (sh, f16, g17, (up2 fR (A + 38) 7 (some q))) (qv sh (up2 fR (A + 38) 7 (some q)) fun f18 g19 => Cl l G (d + 6) 0 0 mX3_put [.ref q, .int (nI 5), .int (nI 0)] (sh, f18, g19, (up2 fR (A + 38) 7 (some q))) (qv sh (up2 fR (A + 38) 7 (some q)) fun f20 g21 => LpX9_readSum_6 l G d Q sh fR A p q f20 g21 (a1 + nI 1))))) ∧ (¬ x14 = 0 → Cl l G (d + 6) 0 0 mX9_advance [.ref (A + 38)] (sh, f12, g13, (up2 fR (A + 38) 7 (some q))) (qv sh (up2 fR (A + 38) 7 (some q)) fun f22 g23 => Cl l G (d + 6) 0 0 mX9_readProduct [.ref (A + 38)] (sh, f22, g23, (up2 fR (A + 38) 7 (some q))) (qv sh (up2 fR (A + 38) 7 (some q)) fun f24 g25 => Cl l G (d + 6) 0 0 mX3_put [.ref q, .int (nI 4), .int (nI 0)] (sh, f24, g25, (up2 fR (A + 38) 7 (some q))) (qv sh (up2 fR (A + 38) 7 (some q)) fun f26 g27 => LpX9_readSum_6 l G d Q sh fR A p q f26 g27 (a1 + nI 1)))))))) :
    LpX9_readSum_31 l G d Q sh fR A p q f g a1 := by
  refine S_aload_n (pc := 31) dX9_readSum_31 rfl rfl ?_
  refine S_bipush (pc := 32) dX9_readSum_32 bp43 ?_
  refine S_callV (As := [.int (nI 43)]) (mc := 0) (ms := 0) (pc := 34) dX9_readSum_34 miX9_isSign mvX9_isSign mlX9_112 rfl (sA_38 hs) rfl rfl rfl (RmOK.of rfl) H ?_
  rintro _ _ ⟨x14, f12, g13, rfl, rfl, H⟩
  show WP _ _ _ _ _ _ _ 37 [some (.ref (A + 38)), some (.int a1), none] [.int x14] (sh, f12, g13, (up2 fR (A + 38) 7 (some q)))
  refine S_if_eq (pc := 37) (tgt := 44) dX9_readSum_37 rfl (fun hc15 => ?_) (fun hc15 => ?_)
  · replace H := H.1 hc15
    refine S_iconst (pc := 44) dX9_readSum_44 ic5 ?_
    refine S_istore_n (pc := 45) (L' := [some (.ref (A + 38)), some (.int a1), some (.int (nI 5))]) dX9_readSum_45 rfl (by decide) rfl ?_
    refine S_aload_n (pc := 46) dX9_readSum_46 rfl rfl ?_
    refine S_callV (As := []) (mc := 0) (ms := 0) (pc := 47) dX9_readSum_47 miX9_advance mvX9_advance mlX9_64 rfl (sA_38 hs) rfl rfl rfl (RmOK.of rfl) H ?_
    rintro _ _ ⟨f16, g17, rfl, rfl, H⟩
    show WP _ _ _ _ _ _ _ 50 [some (.ref (A + 38)), some (.int a1), some (.int (nI 5))] [] (sh, f16, g17, (up2 fR (A + 38) 7 (some q)))
    refine S_aload_n (pc := 50) dX9_readSum_50 rfl rfl ?_
    refine S_callV (As := []) (mc := 0) (ms := 0) (pc := 51) dX9_readSum_51 miX9_readProduct mvX9_readProduct mlX9_206 rfl (sA_38 hs) rfl rfl rfl (RmOK.of rfl) H ?_
    rintro _ _ ⟨f18, g19, rfl, rfl, H⟩
    show WP _ _ _ _ _ _ _ 54 [some (.ref (A + 38)), some (.int a1), some (.int (nI 5))] [] (sh, f18, g19, (up2 fR (A + 38) 7 (some q)))
    refine S_aload_n (pc := 54) dX9_readSum_54 rfl rfl ?_
    refine S_getR (pc := 55) dX9_readSum_55 flX9_28 (sA_38 hs) rfl up2_eq ?_
    refine S_iload_n (pc := 58) dX9_readSum_58 rfl rfl ?_
    refine S_iconst (pc := 59) dX9_readSum_59 ic0 ?_
    refine S_callV (As := [.int (nI 5), .int (nI 0)]) (mc := 0) (ms := 0) (pc := 60) dX9_readSum_60 miX3_put mvX3_put mlX9_197 rfl (sF_0 hq) rfl rfl rfl (RmOK.of rfl) H ?_
    rintro _ _ ⟨f20, g21, rfl, rfl, H⟩
    show WP _ _ _ _ _ _ _ 63 [some (.ref (A + 38)), some (.int a1), some (.int (nI 5))] [] (sh, f20, g21, (up2 fR (A + 38) 7 (some q)))
    refine S_iinc (pc := 63) (v := nI 1) (L' := [some (.ref (A + 38)), some (.int (a1 + nI 1)), some (.int (nI 5))]) dX9_readSum_63 rfl ic1 rfl ?_
    refine S_goto (pc := 66) (tgt := 6) dX9_readSum_66 rfl ?_
    exact S_weak (L' := [some (.ref (A + 38)), some (.int (a1 + nI 1)), none]) (ls_e (ls_e (ls_n ls_0))) H
  · replace H := H.2 hc15
    refine S_iconst (pc := 40) dX9_readSum_40 ic4 ?_
    refine S_goto (pc := 41) (tgt := 45) dX9_readSum_41 rfl ?_
    refine S_istore_n (pc := 45) (L' := [some (.ref (A + 38)), some (.int a1), some (.int (nI 4))]) dX9_readSum_45 rfl (by decide) rfl ?_
    refine S_aload_n (pc := 46) dX9_readSum_46 rfl rfl ?_
    refine S_callV (As := []) (mc := 0) (ms := 0) (pc := 47) dX9_readSum_47 miX9_advance mvX9_advance mlX9_64 rfl (sA_38 hs) rfl rfl rfl (RmOK.of rfl) H ?_
    rintro _ _ ⟨f22, g23, rfl, rfl, H⟩
    show WP _ _ _ _ _ _ _ 50 [some (.ref (A + 38)), some (.int a1), some (.int (nI 4))] [] (sh, f22, g23, (up2 fR (A + 38) 7 (some q)))
    refine S_aload_n (pc := 50) dX9_readSum_50 rfl rfl ?_
    refine S_callV (As := []) (mc := 0) (ms := 0) (pc := 51) dX9_readSum_51 miX9_readProduct mvX9_readProduct mlX9_206 rfl (sA_38 hs) rfl rfl rfl (RmOK.of rfl) H ?_
    rintro _ _ ⟨f24, g25, rfl, rfl, H⟩
    show WP _ _ _ _ _ _ _ 54 [some (.ref (A + 38)), some (.int a1), some (.int (nI 4))] [] (sh, f24, g25, (up2 fR (A + 38) 7 (some q)))
    refine S_aload_n (pc := 54) dX9_readSum_54 rfl rfl ?_
    refine S_getR (pc := 55) dX9_readSum_55 flX9_28 (sA_38 hs) rfl up2_eq ?_
    refine S_iload_n (pc := 58) dX9_readSum_58 rfl rfl ?_
    refine S_iconst (pc := 59) dX9_readSum_59 ic0 ?_
    refine S_callV (As := [.int (nI 4), .int (nI 0)]) (mc := 0) (ms := 0) (pc := 60) dX9_readSum_60 miX3_put mvX3_put mlX9_197 rfl (sF_0 hq) rfl rfl rfl (RmOK.of rfl) H ?_
    rintro _ _ ⟨f26, g27, rfl, rfl, H⟩
    show WP _ _ _ _ _ _ _ 63 [some (.ref (A + 38)), some (.int a1), some (.int (nI 4))] [] (sh, f26, g27, (up2 fR (A + 38) 7 (some q)))
    refine S_iinc (pc := 63) (v := nI 1) (L' := [some (.ref (A + 38)), some (.int (a1 + nI 1)), some (.int (nI 4))]) dX9_readSum_63 rfl ic1 rfl ?_
    refine S_goto (pc := 66) (tgt := 6) dX9_readSum_66 rfl ?_
    exact S_weak (L' := [some (.ref (A + 38)), some (.int (a1 + nI 1)), none]) (ls_e (ls_e (ls_n ls_0))) H
abbrev LpX9_readProduct_6 (l : Launch) (G : Gx) (d : Nat) (Q : Option Value → Hp → Prop) (sh : Sh) (fR : FRt) (A p q : Nat) (f : FI) (g : FL) (a1 : Int32) : Prop := WP l G (Zq G 0 0 Q) mX9_readProduct (rmd (d + 6) 0 0) 0 0 6 [some (.ref (A + 38)), some (.int a1), none] [] (sh, f, g, (up2 fR (A + 38) 7 (some q)))
abbrev LpX9_readProduct_40 (l : Launch) (G : Gx) (d : Nat) (Q : Option Value → Hp → Prop) (sh : Sh) (fR : FRt) (A p q : Nat) (f : FI) (g : FL) (a1 : Int32) : Prop := WP l G (Zq G 0 0 Q) mX9_readProduct (rmd (d + 6) 0 0) 0 0 40 [some (.ref (A + 38)), some (.int a1), none] [] (sh, f, g, (up2 fR (A + 38) 7 (some q)))
set_option maxHeartbeats 2000000 in
set_option maxRecDepth 4000 in
theorem VX9_readProduct {l : Launch} {G : Gx} {d : Nat} {Q : Option Value → Hp → Prop} {sh : Sh} {fR : FRt} {A p q : Nat} {f : FI} {g : FL}  (hs : StA sh fR A) (hp : fR (A + 38) 6 = some p) (hP : StPl sh fR p) (hq : StF sh fR q)
    (H : Cl l G (d + 5) 0 0 mX9_readPart [.ref (A + 38)] (sh, f, g, (up2 fR (A + 38) 7 (some q))) (qv sh (up2 fR (A + 38) 7 (some q)) fun f1 g2 => LpX9_readProduct_6 l G d Q sh fR A p q f1 g2 (nI 0))) :
    Cl l G (d + 6) 0 0 mX9_readProduct [.ref (A + 38)] (sh, f, g, (up2 fR (A + 38) 7 (some q))) Q := by
  refine Cl.of (L0 := [some (.ref (A + 38)), none, none]) miX9_readProduct rfl rfl ?_
  refine S_aload_n (pc := 0) dX9_readProduct_0 rfl rfl ?_
  refine S_callV (As := []) (mc := 0) (ms := 0) (pc := 1) dX9_readProduct_1 miX9_readPart mvX9_readPart mlX9_209 rfl (sA_38 hs) rfl rfl rfl (RmOK.of rfl) H ?_
  rintro _ _ ⟨f1, g2, rfl, rfl, H⟩
  show WP _ _ _ _ _ _ _ 4 [some (.ref (A + 38)), none, none] [] (sh, f1, g2, (up2 fR (A + 38) 7 (some q)))
  refine S_iconst (pc := 4) dX9_readProduct_4 ic0 ?_
  refine S_istore_n (pc := 5) (L' := [some (.ref (A + 38)), some (.int (nI 0)), none]) dX9_readProduct_5 rfl (by decide) rfl ?_
  exact H
set_option maxHeartbeats 2000000 in
set_option maxRecDepth 4000 in
theorem VX9_readProduct_6 {l : Launch} {G : Gx} {d : Nat} {Q : Option Value → Hp → Prop} {sh : Sh} {fR : FRt} {A p q : Nat} {f : FI} {g : FL} {a1 : Int32} (hs : StA sh fR A) (hp : fR (A + 38) 6 = some p) (hP : StPl sh fR p) (hq : StF sh fR q)
    (H : (((nI 1600) ≤ a1 → Q none (sh, f, g, (up2 fR (A + 38) 7 (some q)))) ∧ (¬ (nI 1600) ≤ a1 → Cl l G (d + 5) 0 0 mX9_isSign [.ref (A + 38), .int (nI 42)] (sh, f, g, (up2 fR (A + 38) 7 (some q))) (qi sh (up2 fR (A + 38) 7 (some q)) fun x6 f4 g5 => ((¬ x6 = 0 → LpX9_readProduct_40 l G d Q sh fR A p q f4 g5 a1) ∧ (x6 = 0 → Cl l G (d + 5) 0 0 mX9_isSign [.ref (A + 38), .int (nI 47)] (sh, f4, g5, (up2 fR (A + 38) 7 (some q))) (qi sh (up2 fR (A + 38) 7 (some q)) fun x10 f8 g9 => ((¬ x10 = 0 → LpX9_readProduct_40 l G d Q sh fR A p q f8 g9 a1) ∧ (x10 = 0 → Cl l G (d + 5) 0 0 mX9_isSign [.ref (A + 38), .int (nI 37)] (sh, f8, g9, (up2 fR (A + 38) 7 (some q))) (qi sh (up2 fR (A + 38) 7 (some q)) fun x14 f12 g13 => ((x14 = 0 → Q none (sh, f12, g13, (up2 fR (A + 38) 7 (some q)))) ∧ (¬ x14 = 0 → LpX9_readProduct_40 l G d Q sh fR A p q f12 g13 a1)))))))))))) :
    LpX9_readProduct_6 l G d Q sh fR A p q f g a1 := by
  refine S_iload_n (pc := 6) dX9_readProduct_6 rfl rfl ?_
  refine S_sipush (pc := 7) dX9_readProduct_7 sp1600 ?_
  refine S_icmp_ge (pc := 10) (tgt := 94) dX9_readProduct_10 rfl (fun hc3 => ?_) (fun hc3 => ?_)
  · replace H := H.1 hc3
    exact S_vreturn dX9_readProduct_94 rfl H
  · replace H := H.2 hc3
    refine S_aload_n (pc := 13) dX9_readProduct_13 rfl rfl ?_
    refine S_bipush (pc := 14) dX9_readProduct_14 bp42 ?_
    refine S_callV (As := [.int (nI 42)]) (mc := 0) (ms := 0) (pc := 16) dX9_readProduct_16 miX9_isSign mvX9_isSign mlX9_112 rfl (sA_38 hs) rfl rfl rfl (RmOK.of rfl) H ?_
    rintro _ _ ⟨x6, f4, g5, rfl, rfl, H⟩
    show WP _ _ _ _ _ _ _ 19 [some (.ref (A + 38)), some (.int a1), none] [.int x6] (sh, f4, g5, (up2 fR (A + 38) 7 (some q)))
    refine S_if_ne (pc := 19) (tgt := 40) dX9_readProduct_19 rfl (fun hc7 => ?_) (fun hc7 => ?_)
    · replace H := H.1 hc7
      exact H
    · replace H := H.2 hc7
      refine S_aload_n (pc := 22) dX9_readProduct_22 rfl rfl ?_
      refine S_bipush (pc := 23) dX9_readProduct_23 bp47 ?_
      refine S_callV (As := [.int (nI 47)]) (mc := 0) (ms := 0) (pc := 25) dX9_readProduct_25 miX9_isSign mvX9_isSign mlX9_112 rfl (sA_38 hs) rfl rfl rfl (RmOK.of rfl) H ?_
      rintro _ _ ⟨x10, f8, g9, rfl, rfl, H⟩
      show WP _ _ _ _ _ _ _ 28 [some (.ref (A + 38)), some (.int a1), none] [.int x10] (sh, f8, g9, (up2 fR (A + 38) 7 (some q)))
      refine S_if_ne (pc := 28) (tgt := 40) dX9_readProduct_28 rfl (fun hc11 => ?_) (fun hc11 => ?_)
      · replace H := H.1 hc11
        exact H
      · replace H := H.2 hc11
        refine S_aload_n (pc := 31) dX9_readProduct_31 rfl rfl ?_
        refine S_bipush (pc := 32) dX9_readProduct_32 bp37 ?_
        refine S_callV (As := [.int (nI 37)]) (mc := 0) (ms := 0) (pc := 34) dX9_readProduct_34 miX9_isSign mvX9_isSign mlX9_112 rfl (sA_38 hs) rfl rfl rfl (RmOK.of rfl) H ?_
        rintro _ _ ⟨x14, f12, g13, rfl, rfl, H⟩
        show WP _ _ _ _ _ _ _ 37 [some (.ref (A + 38)), some (.int a1), none] [.int x14] (sh, f12, g13, (up2 fR (A + 38) 7 (some q)))
        refine S_if_eq (pc := 37) (tgt := 94) dX9_readProduct_37 rfl (fun hc15 => ?_) (fun hc15 => ?_)
        · replace H := H.1 hc15
          exact S_vreturn dX9_readProduct_94 rfl H
        · replace H := H.2 hc15
          exact H
set_option maxHeartbeats 2000000 in
set_option maxRecDepth 4000 in
theorem VX9_readProduct_40 {l : Launch} {G : Gx} {d : Nat} {Q : Option Value → Hp → Prop} {sh : Sh} {fR : FRt} {A p q : Nat} {f : FI} {g : FL} {a1 : Int32} (hs : StA sh fR A) (hp : fR (A + 38) 6 = some p) (hP : StPl sh fR p) (hq : StF sh fR q)
    (H : Cl l G (d + 5) 0 0 mX9_isSign [.ref (A + 38), .int (nI 42)] (sh, f, g, (up2 fR (A + 38) 7 (some q))) (qi sh (up2 fR (A + 38) 7 (some q)) fun x18 f16 g17 => ((x18 = 0 → Cl l G (d + 5) 0 0 mX9_isSign [.ref (A + 38), .int (nI 47)] (sh, f16, g17, (up2 fR (A + 38) 7 (some q))) (qi sh (up2 fR (A + 38) 7 (some q)) fun x22 f20 g21 => ((x22 = 0 → Cl l G (d + 5) 0 0 mX9_advance [.ref (A + 38)] (sh, f20, g21, (up2 fR (A + 38) 7 (some q))) (qv sh (up2 fR (A + 38) 7 (some q)) fun f24 g25 => Cl l G (d + 5) 0 0 mX9_readPart [.ref (A + 38)] (sh, f24, g25, (up2 fR (A + 38) 7 (some q))) (qv sh (up2 fR (A + 38) 7 (some q)) fun f26 g27 => Cl l G (d + 5) 0 0 mX3_put [.ref q, .int (nI 8), .int (nI 0)] (sh, f26, g27, (up2 fR (A + 38) 7 (some q))) (qv sh (up2 fR (A + 38) 7 (some q)) fun f28 g29 => LpX9_readProduct_6 l G d Q sh fR A p q f28 g29 (a1 + nI 1))))) ∧ (¬ x22 = 0 → Cl l G (d + 5) 0 0 mX9_advance [.ref (A + 38)] (sh, f20, g21, (up2 fR (A + 38) 7 (some q))) (qv sh (up2 fR (A + 38) 7 (some q)) fun f30 g31 => Cl l G (d + 5) 0 0 mX9_readPart [.ref (A + 38)] (sh, f30, g31, (up2 fR (A + 38) 7 (some q))) (qv sh (up2 fR (A + 38) 7 (some q)) fun f32 g33 => Cl l G (d + 5) 0 0 mX3_put [.ref q, .int (nI 7), .int (nI 0)] (sh, f32, g33, (up2 fR (A + 38) 7 (some q))) (qv sh (up2 fR (A + 38) 7 (some q)) fun f34 g35 => LpX9_readProduct_6 l G d Q sh fR A p q f34 g35 (a1 + nI 1)))))))) ∧ (¬ x18 = 0 → Cl l G (d + 5) 0 0 mX9_advance [.ref (A + 38)] (sh, f16, g17, (up2 fR (A + 38) 7 (some q))) (qv sh (up2 fR (A + 38) 7 (some q)) fun f36 g37 => Cl l G (d + 5) 0 0 mX9_readPart [.ref (A + 38)] (sh, f36, g37, (up2 fR (A + 38) 7 (some q))) (qv sh (up2 fR (A + 38) 7 (some q)) fun f38 g39 => Cl l G (d + 5) 0 0 mX3_put [.ref q, .int (nI 6), .int (nI 0)] (sh, f38, g39, (up2 fR (A + 38) 7 (some q))) (qv sh (up2 fR (A + 38) 7 (some q)) fun f40 g41 => LpX9_readProduct_6 l G d Q sh fR A p q f40 g41 (a1 + nI 1)))))))) :
    LpX9_readProduct_40 l G d Q sh fR A p q f g a1 := by
  refine S_aload_n (pc := 40) dX9_readProduct_40 rfl rfl ?_
  refine S_bipush (pc := 41) dX9_readProduct_41 bp42 ?_
  refine S_callV (As := [.int (nI 42)]) (mc := 0) (ms := 0) (pc := 43) dX9_readProduct_43 miX9_isSign mvX9_isSign mlX9_112 rfl (sA_38 hs) rfl rfl rfl (RmOK.of rfl) H ?_
  rintro _ _ ⟨x18, f16, g17, rfl, rfl, H⟩
  show WP _ _ _ _ _ _ _ 46 [some (.ref (A + 38)), some (.int a1), none] [.int x18] (sh, f16, g17, (up2 fR (A + 38) 7 (some q)))
  refine S_if_eq (pc := 46) (tgt := 54) dX9_readProduct_46 rfl (fun hc19 => ?_) (fun hc19 => ?_)
  · replace H := H.1 hc19
    refine S_aload_n (pc := 54) dX9_readProduct_54 rfl rfl ?_
    refine S_bipush (pc := 55) dX9_readProduct_55 bp47 ?_
    refine S_callV (As := [.int (nI 47)]) (mc := 0) (ms := 0) (pc := 57) dX9_readProduct_57 miX9_isSign mvX9_isSign mlX9_112 rfl (sA_38 hs) rfl rfl rfl (RmOK.of rfl) H ?_
    rintro _ _ ⟨x22, f20, g21, rfl, rfl, H⟩
    show WP _ _ _ _ _ _ _ 60 [some (.ref (A + 38)), some (.int a1), none] [.int x22] (sh, f20, g21, (up2 fR (A + 38) 7 (some q)))
    refine S_if_eq (pc := 60) (tgt := 68) dX9_readProduct_60 rfl (fun hc23 => ?_) (fun hc23 => ?_)
    · replace H := H.1 hc23
      refine S_bipush (pc := 68) dX9_readProduct_68 bp8 ?_
      refine S_istore_n (pc := 70) (L' := [some (.ref (A + 38)), some (.int a1), some (.int (nI 8))]) dX9_readProduct_70 rfl (by decide) rfl ?_
      refine S_aload_n (pc := 71) dX9_readProduct_71 rfl rfl ?_
      refine S_callV (As := []) (mc := 0) (ms := 0) (pc := 72) dX9_readProduct_72 miX9_advance mvX9_advance mlX9_64 rfl (sA_38 hs) rfl rfl rfl (RmOK.of rfl) H ?_
      rintro _ _ ⟨f24, g25, rfl, rfl, H⟩
      show WP _ _ _ _ _ _ _ 75 [some (.ref (A + 38)), some (.int a1), some (.int (nI 8))] [] (sh, f24, g25, (up2 fR (A + 38) 7 (some q)))
      refine S_aload_n (pc := 75) dX9_readProduct_75 rfl rfl ?_
      refine S_callV (As := []) (mc := 0) (ms := 0) (pc := 76) dX9_readProduct_76 miX9_readPart mvX9_readPart mlX9_209 rfl (sA_38 hs) rfl rfl rfl (RmOK.of rfl) H ?_
      rintro _ _ ⟨f26, g27, rfl, rfl, H⟩
      show WP _ _ _ _ _ _ _ 79 [some (.ref (A + 38)), some (.int a1), some (.int (nI 8))] [] (sh, f26, g27, (up2 fR (A + 38) 7 (some q)))
      refine S_aload_n (pc := 79) dX9_readProduct_79 rfl rfl ?_
      refine S_getR (pc := 80) dX9_readProduct_80 flX9_28 (sA_38 hs) rfl up2_eq ?_
      refine S_iload_n (pc := 83) dX9_readProduct_83 rfl rfl ?_
      refine S_iconst (pc := 84) dX9_readProduct_84 ic0 ?_
      refine S_callV (As := [.int (nI 8), .int (nI 0)]) (mc := 0) (ms := 0) (pc := 85) dX9_readProduct_85 miX3_put mvX3_put mlX9_197 rfl (sF_0 hq) rfl rfl rfl (RmOK.of rfl) H ?_
      rintro _ _ ⟨f28, g29, rfl, rfl, H⟩
      show WP _ _ _ _ _ _ _ 88 [some (.ref (A + 38)), some (.int a1), some (.int (nI 8))] [] (sh, f28, g29, (up2 fR (A + 38) 7 (some q)))
      refine S_iinc (pc := 88) (v := nI 1) (L' := [some (.ref (A + 38)), some (.int (a1 + nI 1)), some (.int (nI 8))]) dX9_readProduct_88 rfl ic1 rfl ?_
      refine S_goto (pc := 91) (tgt := 6) dX9_readProduct_91 rfl ?_
      exact S_weak (L' := [some (.ref (A + 38)), some (.int (a1 + nI 1)), none]) (ls_e (ls_e (ls_n ls_0))) H
    · replace H := H.2 hc23
      refine S_bipush (pc := 63) dX9_readProduct_63 bp7 ?_
      refine S_goto (pc := 65) (tgt := 70) dX9_readProduct_65 rfl ?_
      refine S_istore_n (pc := 70) (L' := [some (.ref (A + 38)), some (.int a1), some (.int (nI 7))]) dX9_readProduct_70 rfl (by decide) rfl ?_
      refine S_aload_n (pc := 71) dX9_readProduct_71 rfl rfl ?_
      refine S_callV (As := []) (mc := 0) (ms := 0) (pc := 72) dX9_readProduct_72 miX9_advance mvX9_advance mlX9_64 rfl (sA_38 hs) rfl rfl rfl (RmOK.of rfl) H ?_
      rintro _ _ ⟨f30, g31, rfl, rfl, H⟩
      show WP _ _ _ _ _ _ _ 75 [some (.ref (A + 38)), some (.int a1), some (.int (nI 7))] [] (sh, f30, g31, (up2 fR (A + 38) 7 (some q)))
      refine S_aload_n (pc := 75) dX9_readProduct_75 rfl rfl ?_
      refine S_callV (As := []) (mc := 0) (ms := 0) (pc := 76) dX9_readProduct_76 miX9_readPart mvX9_readPart mlX9_209 rfl (sA_38 hs) rfl rfl rfl (RmOK.of rfl) H ?_
      rintro _ _ ⟨f32, g33, rfl, rfl, H⟩
      show WP _ _ _ _ _ _ _ 79 [some (.ref (A + 38)), some (.int a1), some (.int (nI 7))] [] (sh, f32, g33, (up2 fR (A + 38) 7 (some q)))
      refine S_aload_n (pc := 79) dX9_readProduct_79 rfl rfl ?_
      refine S_getR (pc := 80) dX9_readProduct_80 flX9_28 (sA_38 hs) rfl up2_eq ?_
      refine S_iload_n (pc := 83) dX9_readProduct_83 rfl rfl ?_
      refine S_iconst (pc := 84) dX9_readProduct_84 ic0 ?_
      refine S_callV (As := [.int (nI 7), .int (nI 0)]) (mc := 0) (ms := 0) (pc := 85) dX9_readProduct_85 miX3_put mvX3_put mlX9_197 rfl (sF_0 hq) rfl rfl rfl (RmOK.of rfl) H ?_
      rintro _ _ ⟨f34, g35, rfl, rfl, H⟩
      show WP _ _ _ _ _ _ _ 88 [some (.ref (A + 38)), some (.int a1), some (.int (nI 7))] [] (sh, f34, g35, (up2 fR (A + 38) 7 (some q)))
      refine S_iinc (pc := 88) (v := nI 1) (L' := [some (.ref (A + 38)), some (.int (a1 + nI 1)), some (.int (nI 7))]) dX9_readProduct_88 rfl ic1 rfl ?_
      refine S_goto (pc := 91) (tgt := 6) dX9_readProduct_91 rfl ?_
      exact S_weak (L' := [some (.ref (A + 38)), some (.int (a1 + nI 1)), none]) (ls_e (ls_e (ls_n ls_0))) H
  · replace H := H.2 hc19
    refine S_bipush (pc := 49) dX9_readProduct_49 bp6 ?_
    refine S_goto (pc := 51) (tgt := 70) dX9_readProduct_51 rfl ?_
    refine S_istore_n (pc := 70) (L' := [some (.ref (A + 38)), some (.int a1), some (.int (nI 6))]) dX9_readProduct_70 rfl (by decide) rfl ?_
    refine S_aload_n (pc := 71) dX9_readProduct_71 rfl rfl ?_
    refine S_callV (As := []) (mc := 0) (ms := 0) (pc := 72) dX9_readProduct_72 miX9_advance mvX9_advance mlX9_64 rfl (sA_38 hs) rfl rfl rfl (RmOK.of rfl) H ?_
    rintro _ _ ⟨f36, g37, rfl, rfl, H⟩
    show WP _ _ _ _ _ _ _ 75 [some (.ref (A + 38)), some (.int a1), some (.int (nI 6))] [] (sh, f36, g37, (up2 fR (A + 38) 7 (some q)))
    refine S_aload_n (pc := 75) dX9_readProduct_75 rfl rfl ?_
    refine S_callV (As := []) (mc := 0) (ms := 0) (pc := 76) dX9_readProduct_76 miX9_readPart mvX9_readPart mlX9_209 rfl (sA_38 hs) rfl rfl rfl (RmOK.of rfl) H ?_
    rintro _ _ ⟨f38, g39, rfl, rfl, H⟩
    show WP _ _ _ _ _ _ _ 79 [some (.ref (A + 38)), some (.int a1), some (.int (nI 6))] [] (sh, f38, g39, (up2 fR (A + 38) 7 (some q)))
    refine S_aload_n (pc := 79) dX9_readProduct_79 rfl rfl ?_
    refine S_getR (pc := 80) dX9_readProduct_80 flX9_28 (sA_38 hs) rfl up2_eq ?_
    refine S_iload_n (pc := 83) dX9_readProduct_83 rfl rfl ?_
    refine S_iconst (pc := 84) dX9_readProduct_84 ic0 ?_
    refine S_callV (As := [.int (nI 6), .int (nI 0)]) (mc := 0) (ms := 0) (pc := 85) dX9_readProduct_85 miX3_put mvX3_put mlX9_197 rfl (sF_0 hq) rfl rfl rfl (RmOK.of rfl) H ?_
    rintro _ _ ⟨f40, g41, rfl, rfl, H⟩
    show WP _ _ _ _ _ _ _ 88 [some (.ref (A + 38)), some (.int a1), some (.int (nI 6))] [] (sh, f40, g41, (up2 fR (A + 38) 7 (some q)))
    refine S_iinc (pc := 88) (v := nI 1) (L' := [some (.ref (A + 38)), some (.int (a1 + nI 1)), some (.int (nI 6))]) dX9_readProduct_88 rfl ic1 rfl ?_
    refine S_goto (pc := 91) (tgt := 6) dX9_readProduct_91 rfl ?_
    exact S_weak (L' := [some (.ref (A + 38)), some (.int (a1 + nI 1)), none]) (ls_e (ls_e (ls_n ls_0))) H
abbrev LpX9_readPart_74 (l : Launch) (G : Gx) (d : Nat) (Q : Option Value → Hp → Prop) (sh : Sh) (fR : FRt) (A p q : Nat) (f : FI) (g : FL)  : Prop := WP l G (Zq G 0 0 Q) mX9_readPart (rmd (d + 5) 0 0) 0 0 74 [some (.ref (A + 38)), none] [] (sh, f, g, (up2 fR (A + 38) 7 (some q)))
set_option maxHeartbeats 2000000 in
set_option maxRecDepth 4000 in
theorem VX9_readPart {l : Launch} {G : Gx} {d : Nat} {Q : Option Value → Hp → Prop} {sh : Sh} {fR : FRt} {A p q : Nat} {f : FI} {g : FL}  (hs : StA sh fR A) (hp : fR (A + 38) 6 = some p) (hP : StPl sh fR p) (hq : StF sh fR q)
    (H : Cl l G (d + 4) 0 0 mX9_isSign [.ref (A + 38), .int (nI 40)] (sh, f, g, (up2 fR (A + 38) 7 (some q))) (qi sh (up2 fR (A + 38) 7 (some q)) fun x3 f1 g2 => ((x3 = 0 → Cl l G (d + 4) 0 0 mX9_isWord [.ref (A + 38), .int (nI 22)] (sh, f1, g2, (up2 fR (A + 38) 7 (some q))) (qi sh (up2 fR (A + 38) 7 (some q)) fun x7 f5 g6 => ((x7 = 0 → Cl l G (d + 4) 0 0 mX9_isWord [.ref (A + 38), .int (nI 27)] (sh, f5, g6, (up2 fR (A + 38) 7 (some q))) (qi sh (up2 fR (A + 38) 7 (some q)) fun x11 f9 g10 => ((¬ x11 = 0 → LpX9_readPart_74 l G d Q sh fR A p q f9 g10) ∧ (x11 = 0 → Cl l G (d + 4) 0 0 mX9_isWord [.ref (A + 38), .int (nI 28)] (sh, f9, g10, (up2 fR (A + 38) 7 (some q))) (qi sh (up2 fR (A + 38) 7 (some q)) fun x15 f13 g14 => ((x15 = 0 → ((¬ (f13 (A + 38) 10) = (nI 1) → Cl l G (d + 4) 0 0 mX9_expectNumber [.ref (A + 38), .int (nI 0), .int (nI 9999)] (sh, f13, g14, (up2 fR (A + 38) 7 (some q))) (qi sh (up2 fR (A + 38) 7 (some q)) fun x20 f18 g19 => Cl l G (d + 4) 0 0 mX3_put [.ref q, .int (nI 0), .int x20] (sh, f18, g19, (up2 fR (A + 38) 7 (some q))) (qv sh (up2 fR (A + 38) 7 (some q)) fun f21 g22 => Q none (sh, f21, g22, (up2 fR (A + 38) 7 (some q)))))) ∧ ((f13 (A + 38) 10) = (nI 1) → Cl l G (d + 4) 0 0 mX9_factOf [.ref (A + 38), .int (f13 (A + 38) 14)] (sh, f13, g14, (up2 fR (A + 38) 7 (some q))) (qi sh (up2 fR (A + 38) 7 (some q)) fun x25 f23 g24 => ((x25 = (-1) → Cl l G (d + 4) 0 0 mX9_expectNumber [.ref (A + 38), .int (nI 0), .int (nI 9999)] (sh, f23, g24, (up2 fR (A + 38) 7 (some q))) (qi sh (up2 fR (A + 38) 7 (some q)) fun x29 f27 g28 => Cl l G (d + 4) 0 0 mX3_put [.ref q, .int (nI 0), .int x29] (sh, f27, g28, (up2 fR (A + 38) 7 (some q))) (qv sh (up2 fR (A + 38) 7 (some q)) fun f30 g31 => Q none (sh, f30, g31, (up2 fR (A + 38) 7 (some q)))))) ∧ (¬ x25 = (-1) → Cl l G (d + 4) 0 0 mX9_factOf [.ref (A + 38), .int (f23 (A + 38) 14)] (sh, f23, g24, (up2 fR (A + 38) 7 (some q))) (qi sh (up2 fR (A + 38) 7 (some q)) fun x34 f32 g33 => Cl l G (d + 4) 0 0 mX3_put [.ref q, .int (nI 1), .int x34] (sh, f32, g33, (up2 fR (A + 38) 7 (some q))) (qv sh (up2 fR (A + 38) 7 (some q)) fun f35 g36 => Cl l G (d + 4) 0 0 mX9_advance [.ref (A + 38)] (sh, f35, g36, (up2 fR (A + 38) 7 (some q))) (qv sh (up2 fR (A + 38) 7 (some q)) fun f37 g38 => Q none (sh, f37, g38, (up2 fR (A + 38) 7 (some q)))))))))))) ∧ (¬ x15 = 0 → LpX9_readPart_74 l G d Q sh fR A p q f13 g14))))))) ∧ (¬ x7 = 0 → Cl l G (d + 4) 0 0 mX9_advance [.ref (A + 38)] (sh, f5, g6, (up2 fR (A + 38) 7 (some q))) (qv sh (up2 fR (A + 38) 7 (some q)) fun f39 g40 => Cl l G (d + 4) 0 0 mX9_readChoice [.ref (A + 38)] (sh, f39, g40, (up2 fR (A + 38) 7 (some q))) (qv sh (up2 fR (A + 38) 7 (some q)) fun f41 g42 => Q none (sh, f41, g42, (up2 fR (A + 38) 7 (some q))))))))) ∧ (¬ x3 = 0 → Cl l G (d + 4) 0 0 mX9_openSign [.ref (A + 38)] (sh, f1, g2, (up2 fR (A + 38) 7 (some q))) (qv sh (up2 fR (A + 38) 7 (some q)) fun f43 g44 => Cl l G (d + 4) 0 0 mX9_readSum [.ref (A + 38)] (sh, f43, g44, (up2 fR (A + 38) 7 (some q))) (qv sh (up2 fR (A + 38) 7 (some q)) fun f45 g46 => Cl l G (d + 4) 0 0 mX9_expectSign [.ref (A + 38), .int (nI 41)] (sh, f45, g46, (up2 fR (A + 38) 7 (some q))) (qv sh (up2 fR (A + 38) 7 (some q)) fun f47 g48 => Q none (sh, (up2 f47 (A + 38) 9 ((f47 (A + 38) 9) - (nI 1))), g48, (up2 fR (A + 38) 7 (some q)))))))))) :
    Cl l G (d + 5) 0 0 mX9_readPart [.ref (A + 38)] (sh, f, g, (up2 fR (A + 38) 7 (some q))) Q := by
  refine Cl.of (L0 := [some (.ref (A + 38)), none]) miX9_readPart rfl rfl ?_
  refine S_aload_n (pc := 0) dX9_readPart_0 rfl rfl ?_
  refine S_bipush (pc := 1) dX9_readPart_1 bp40 ?_
  refine S_callV (As := [.int (nI 40)]) (mc := 0) (ms := 0) (pc := 3) dX9_readPart_3 miX9_isSign mvX9_isSign mlX9_112 rfl (sA_38 hs) rfl rfl rfl (RmOK.of rfl) H ?_
  rintro _ _ ⟨x3, f1, g2, rfl, rfl, H⟩
  show WP _ _ _ _ _ _ _ 6 [some (.ref (A + 38)), none] [.int x3] (sh, f1, g2, (up2 fR (A + 38) 7 (some q)))
  refine S_if_eq (pc := 6) (tgt := 36) dX9_readPart_6 rfl (fun hc4 => ?_) (fun hc4 => ?_)
  · replace H := H.1 hc4
    refine S_aload_n (pc := 36) dX9_readPart_36 rfl rfl ?_
    refine S_bipush (pc := 37) dX9_readPart_37 bp22 ?_
    refine S_callV (As := [.int (nI 22)]) (mc := 0) (ms := 0) (pc := 39) dX9_readPart_39 miX9_isWord mvX9_isWord mlX9_106 rfl (sA_38 hs) rfl rfl rfl (RmOK.of rfl) H ?_
    rintro _ _ ⟨x7, f5, g6, rfl, rfl, H⟩
    show WP _ _ _ _ _ _ _ 42 [some (.ref (A + 38)), none] [.int x7] (sh, f5, g6, (up2 fR (A + 38) 7 (some q)))
    refine S_if_eq (pc := 42) (tgt := 56) dX9_readPart_42 rfl (fun hc8 => ?_) (fun hc8 => ?_)
    · replace H := H.1 hc8
      refine S_aload_n (pc := 56) dX9_readPart_56 rfl rfl ?_
      refine S_bipush (pc := 57) dX9_readPart_57 bp27 ?_
      refine S_callV (As := [.int (nI 27)]) (mc := 0) (ms := 0) (pc := 59) dX9_readPart_59 miX9_isWord mvX9_isWord mlX9_106 rfl (sA_38 hs) rfl rfl rfl (RmOK.of rfl) H ?_
      rintro _ _ ⟨x11, f9, g10, rfl, rfl, H⟩
      show WP _ _ _ _ _ _ _ 62 [some (.ref (A + 38)), none] [.int x11] (sh, f9, g10, (up2 fR (A + 38) 7 (some q)))
      refine S_if_ne (pc := 62) (tgt := 74) dX9_readPart_62 rfl (fun hc12 => ?_) (fun hc12 => ?_)
      · replace H := H.1 hc12
        exact H
      · replace H := H.2 hc12
        refine S_aload_n (pc := 65) dX9_readPart_65 rfl rfl ?_
        refine S_bipush (pc := 66) dX9_readPart_66 bp28 ?_
        refine S_callV (As := [.int (nI 28)]) (mc := 0) (ms := 0) (pc := 68) dX9_readPart_68 miX9_isWord mvX9_isWord mlX9_106 rfl (sA_38 hs) rfl rfl rfl (RmOK.of rfl) H ?_
        rintro _ _ ⟨x15, f13, g14, rfl, rfl, H⟩
        show WP _ _ _ _ _ _ _ 71 [some (.ref (A + 38)), none] [.int x15] (sh, f13, g14, (up2 fR (A + 38) 7 (some q)))
        refine S_if_eq (pc := 71) (tgt := 103) dX9_readPart_71 rfl (fun hc16 => ?_) (fun hc16 => ?_)
        · replace H := H.1 hc16
          refine S_aload_n (pc := 103) dX9_readPart_103 rfl rfl ?_
          refine S_get (pc := 104) (v := .int (f13 (A + 38) 10)) dX9_readPart_104 flX9_58 (sA_38 hs) rfl ?_
          refine S_iconst (pc := 107) dX9_readPart_107 ic1 ?_
          refine S_icmp_ne (pc := 108) (tgt := 146) dX9_readPart_108 rfl (fun hc17 => ?_) (fun hc17 => ?_)
          · replace H := H.1 hc17
            refine S_aload_n (pc := 146) dX9_readPart_146 rfl rfl ?_
            refine S_getR (pc := 147) dX9_readPart_147 flX9_28 (sA_38 hs) rfl up2_eq ?_
            refine S_iconst (pc := 150) dX9_readPart_150 ic0 ?_
            refine S_aload_n (pc := 151) dX9_readPart_151 rfl rfl ?_
            refine S_iconst (pc := 152) dX9_readPart_152 ic0 ?_
            refine S_sipush (pc := 153) dX9_readPart_153 sp9999 ?_
            refine S_callV (As := [.int (nI 0), .int (nI 9999)]) (mc := 0) (ms := 0) (pc := 156) dX9_readPart_156 miX9_expectNumber mvX9_expectNumber mlX9_124 rfl (sA_38 hs) rfl rfl rfl (RmOK.of rfl) H ?_
            rintro _ _ ⟨x20, f18, g19, rfl, rfl, H⟩
            show WP _ _ _ _ _ _ _ 159 [some (.ref (A + 38)), none] [.int x20, .int (nI 0), .ref q] (sh, f18, g19, (up2 fR (A + 38) 7 (some q)))
            refine S_callV (As := [.int (nI 0), .int x20]) (mc := 0) (ms := 0) (pc := 159) dX9_readPart_159 miX3_put mvX3_put mlX9_197 rfl (sF_0 hq) rfl rfl rfl (RmOK.of rfl) H ?_
            rintro _ _ ⟨f21, g22, rfl, rfl, H⟩
            show WP _ _ _ _ _ _ _ 162 [some (.ref (A + 38)), none] [] (sh, f21, g22, (up2 fR (A + 38) 7 (some q)))
            exact S_vreturn dX9_readPart_162 rfl H
          · replace H := H.2 hc17
            refine S_aload_n (pc := 111) dX9_readPart_111 rfl rfl ?_
            refine S_aload_n (pc := 112) dX9_readPart_112 rfl rfl ?_
            refine S_get (pc := 113) (v := .int (f13 (A + 38) 14)) dX9_readPart_113 flX9_103 (sA_38 hs) rfl ?_
            refine S_callV (As := [.int (f13 (A + 38) 14)]) (mc := 0) (ms := 0) (pc := 116) dX9_readPart_116 miX9_factOf mvX9_factOf mlX9_218 rfl (sA_38 hs) rfl rfl rfl (RmOK.of rfl) H ?_
            rintro _ _ ⟨x25, f23, g24, rfl, rfl, H⟩
            show WP _ _ _ _ _ _ _ 119 [some (.ref (A + 38)), none] [.int x25] (sh, f23, g24, (up2 fR (A + 38) 7 (some q)))
            refine S_iconst (pc := 119) dX9_readPart_119 icm1 ?_
            refine S_icmp_eq (pc := 120) (tgt := 146) dX9_readPart_120 rfl (fun hc26 => ?_) (fun hc26 => ?_)
            · replace H := H.1 hc26
              refine S_aload_n (pc := 146) dX9_readPart_146 rfl rfl ?_
              refine S_getR (pc := 147) dX9_readPart_147 flX9_28 (sA_38 hs) rfl up2_eq ?_
              refine S_iconst (pc := 150) dX9_readPart_150 ic0 ?_
              refine S_aload_n (pc := 151) dX9_readPart_151 rfl rfl ?_
              refine S_iconst (pc := 152) dX9_readPart_152 ic0 ?_
              refine S_sipush (pc := 153) dX9_readPart_153 sp9999 ?_
              refine S_callV (As := [.int (nI 0), .int (nI 9999)]) (mc := 0) (ms := 0) (pc := 156) dX9_readPart_156 miX9_expectNumber mvX9_expectNumber mlX9_124 rfl (sA_38 hs) rfl rfl rfl (RmOK.of rfl) H ?_
              rintro _ _ ⟨x29, f27, g28, rfl, rfl, H⟩
              show WP _ _ _ _ _ _ _ 159 [some (.ref (A + 38)), none] [.int x29, .int (nI 0), .ref q] (sh, f27, g28, (up2 fR (A + 38) 7 (some q)))
              refine S_callV (As := [.int (nI 0), .int x29]) (mc := 0) (ms := 0) (pc := 159) dX9_readPart_159 miX3_put mvX3_put mlX9_197 rfl (sF_0 hq) rfl rfl rfl (RmOK.of rfl) H ?_
              rintro _ _ ⟨f30, g31, rfl, rfl, H⟩
              show WP _ _ _ _ _ _ _ 162 [some (.ref (A + 38)), none] [] (sh, f30, g31, (up2 fR (A + 38) 7 (some q)))
              exact S_vreturn dX9_readPart_162 rfl H
            · replace H := H.2 hc26
              refine S_aload_n (pc := 123) dX9_readPart_123 rfl rfl ?_
              refine S_getR (pc := 124) dX9_readPart_124 flX9_28 (sA_38 hs) rfl up2_eq ?_
              refine S_iconst (pc := 127) dX9_readPart_127 ic1 ?_
              refine S_aload_n (pc := 128) dX9_readPart_128 rfl rfl ?_
              refine S_aload_n (pc := 129) dX9_readPart_129 rfl rfl ?_
              refine S_get (pc := 130) (v := .int (f23 (A + 38) 14)) dX9_readPart_130 flX9_103 (sA_38 hs) rfl ?_
              refine S_callV (As := [.int (f23 (A + 38) 14)]) (mc := 0) (ms := 0) (pc := 133) dX9_readPart_133 miX9_factOf mvX9_factOf mlX9_218 rfl (sA_38 hs) rfl rfl rfl (RmOK.of rfl) H ?_
              rintro _ _ ⟨x34, f32, g33, rfl, rfl, H⟩
              show WP _ _ _ _ _ _ _ 136 [some (.ref (A + 38)), none] [.int x34, .int (nI 1), .ref q] (sh, f32, g33, (up2 fR (A + 38) 7 (some q)))
              refine S_callV (As := [.int (nI 1), .int x34]) (mc := 0) (ms := 0) (pc := 136) dX9_readPart_136 miX3_put mvX3_put mlX9_197 rfl (sF_0 hq) rfl rfl rfl (RmOK.of rfl) H ?_
              rintro _ _ ⟨f35, g36, rfl, rfl, H⟩
              show WP _ _ _ _ _ _ _ 139 [some (.ref (A + 38)), none] [] (sh, f35, g36, (up2 fR (A + 38) 7 (some q)))
              refine S_aload_n (pc := 139) dX9_readPart_139 rfl rfl ?_
              refine S_callV (As := []) (mc := 0) (ms := 0) (pc := 140) dX9_readPart_140 miX9_advance mvX9_advance mlX9_64 rfl (sA_38 hs) rfl rfl rfl (RmOK.of rfl) H ?_
              rintro _ _ ⟨f37, g38, rfl, rfl, H⟩
              show WP _ _ _ _ _ _ _ 143 [some (.ref (A + 38)), none] [] (sh, f37, g38, (up2 fR (A + 38) 7 (some q)))
              refine S_goto (pc := 143) (tgt := 162) dX9_readPart_143 rfl ?_
              exact S_vreturn dX9_readPart_162 rfl H
        · replace H := H.2 hc16
          exact H
    · replace H := H.2 hc8
      refine S_aload_n (pc := 45) dX9_readPart_45 rfl rfl ?_
      refine S_callV (As := []) (mc := 0) (ms := 0) (pc := 46) dX9_readPart_46 miX9_advance mvX9_advance mlX9_64 rfl (sA_38 hs) rfl rfl rfl (RmOK.of rfl) H ?_
      rintro _ _ ⟨f39, g40, rfl, rfl, H⟩
      show WP _ _ _ _ _ _ _ 49 [some (.ref (A + 38)), none] [] (sh, f39, g40, (up2 fR (A + 38) 7 (some q)))
      refine S_aload_n (pc := 49) dX9_readPart_49 rfl rfl ?_
      refine S_callV (As := []) (mc := 0) (ms := 0) (pc := 50) dX9_readPart_50 miX9_readChoice mvX9_readChoice mlX9_212 rfl (sA_38 hs) rfl rfl rfl (RmOK.of rfl) H ?_
      rintro _ _ ⟨f41, g42, rfl, rfl, H⟩
      show WP _ _ _ _ _ _ _ 53 [some (.ref (A + 38)), none] [] (sh, f41, g42, (up2 fR (A + 38) 7 (some q)))
      refine S_goto (pc := 53) (tgt := 162) dX9_readPart_53 rfl ?_
      exact S_vreturn dX9_readPart_162 rfl H
  · replace H := H.2 hc4
    refine S_aload_n (pc := 9) dX9_readPart_9 rfl rfl ?_
    refine S_callV (As := []) (mc := 0) (ms := 0) (pc := 10) dX9_readPart_10 miX9_openSign mvX9_openSign mlX9_203 rfl (sA_38 hs) rfl rfl rfl (RmOK.of rfl) H ?_
    rintro _ _ ⟨f43, g44, rfl, rfl, H⟩
    show WP _ _ _ _ _ _ _ 13 [some (.ref (A + 38)), none] [] (sh, f43, g44, (up2 fR (A + 38) 7 (some q)))
    refine S_aload_n (pc := 13) dX9_readPart_13 rfl rfl ?_
    refine S_callV (As := []) (mc := 0) (ms := 0) (pc := 14) dX9_readPart_14 miX9_readSum mvX9_readSum mlX9_191 rfl (sA_38 hs) rfl rfl rfl (RmOK.of rfl) H ?_
    rintro _ _ ⟨f45, g46, rfl, rfl, H⟩
    show WP _ _ _ _ _ _ _ 17 [some (.ref (A + 38)), none] [] (sh, f45, g46, (up2 fR (A + 38) 7 (some q)))
    refine S_aload_n (pc := 17) dX9_readPart_17 rfl rfl ?_
    refine S_bipush (pc := 18) dX9_readPart_18 bp41 ?_
    refine S_callV (As := [.int (nI 41)]) (mc := 0) (ms := 0) (pc := 20) dX9_readPart_20 miX9_expectSign mvX9_expectSign mlX9_71 rfl (sA_38 hs) rfl rfl rfl (RmOK.of rfl) H ?_
    rintro _ _ ⟨f47, g48, rfl, rfl, H⟩
    show WP _ _ _ _ _ _ _ 23 [some (.ref (A + 38)), none] [] (sh, f47, g48, (up2 fR (A + 38) 7 (some q)))
    refine S_aload_n (pc := 23) dX9_readPart_23 rfl rfl ?_
    refine S_dup (pc := 24) dX9_readPart_24 rfl ?_
    refine S_get (pc := 25) (v := .int (f47 (A + 38) 9)) dX9_readPart_25 flX9_49 (sA_38 hs) rfl ?_
    refine S_iconst (pc := 28) dX9_readPart_28 ic1 ?_
    refine S_isub (pc := 29) dX9_readPart_29 ?_
    refine S_putI (pc := 30) dX9_readPart_30 flX9_49 (sA_38 hs) (Nat.succ_pos _) (nf_9_9) rfl rfl (fun _ => rfl) ?_
    refine S_goto (pc := 33) (tgt := 162) dX9_readPart_33 rfl ?_
    exact S_vreturn dX9_readPart_162 rfl H
set_option maxHeartbeats 2000000 in
set_option maxRecDepth 4000 in
theorem VX9_readPart_74 {l : Launch} {G : Gx} {d : Nat} {Q : Option Value → Hp → Prop} {sh : Sh} {fR : FRt} {A p q : Nat} {f : FI} {g : FL}  (hs : StA sh fR A) (hp : fR (A + 38) 6 = some p) (hP : StPl sh fR p) (hq : StF sh fR q)
    (H : Cl l G (d + 4) 0 0 mX9_isWord [.ref (A + 38), .int (nI 27)] (sh, f, g, (up2 fR (A + 38) 7 (some q))) (qi sh (up2 fR (A + 38) 7 (some q)) fun x51 f49 g50 => ((x51 = 0 → Cl l G (d + 4) 0 0 mX9_advance [.ref (A + 38)] (sh, f49, g50, (up2 fR (A + 38) 7 (some q))) (qv sh (up2 fR (A + 38) 7 (some q)) fun f53 g54 => Cl l G (d + 4) 0 0 mX9_readPair [.ref (A + 38), .int (nI 10)] (sh, f53, g54, (up2 fR (A + 38) 7 (some q))) (qv sh (up2 fR (A + 38) 7 (some q)) fun f55 g56 => Q none (sh, f55, g56, (up2 fR (A + 38) 7 (some q)))))) ∧ (¬ x51 = 0 → Cl l G (d + 4) 0 0 mX9_advance [.ref (A + 38)] (sh, f49, g50, (up2 fR (A + 38) 7 (some q))) (qv sh (up2 fR (A + 38) 7 (some q)) fun f57 g58 => Cl l G (d + 4) 0 0 mX9_readPair [.ref (A + 38), .int (nI 9)] (sh, f57, g58, (up2 fR (A + 38) 7 (some q))) (qv sh (up2 fR (A + 38) 7 (some q)) fun f59 g60 => Q none (sh, f59, g60, (up2 fR (A + 38) 7 (some q))))))))) :
    LpX9_readPart_74 l G d Q sh fR A p q f g  := by
  refine S_aload_n (pc := 74) dX9_readPart_74 rfl rfl ?_
  refine S_bipush (pc := 75) dX9_readPart_75 bp27 ?_
  refine S_callV (As := [.int (nI 27)]) (mc := 0) (ms := 0) (pc := 77) dX9_readPart_77 miX9_isWord mvX9_isWord mlX9_106 rfl (sA_38 hs) rfl rfl rfl (RmOK.of rfl) H ?_
  rintro _ _ ⟨x51, f49, g50, rfl, rfl, H⟩
  show WP _ _ _ _ _ _ _ 80 [some (.ref (A + 38)), none] [.int x51] (sh, f49, g50, (up2 fR (A + 38) 7 (some q)))
  refine S_if_eq (pc := 80) (tgt := 88) dX9_readPart_80 rfl (fun hc52 => ?_) (fun hc52 => ?_)
  · replace H := H.1 hc52
    refine S_bipush (pc := 88) dX9_readPart_88 bp10 ?_
    refine S_istore_n (pc := 90) (L' := [some (.ref (A + 38)), some (.int (nI 10))]) dX9_readPart_90 rfl (by decide) rfl ?_
    refine S_aload_n (pc := 91) dX9_readPart_91 rfl rfl ?_
    refine S_callV (As := []) (mc := 0) (ms := 0) (pc := 92) dX9_readPart_92 miX9_advance mvX9_advance mlX9_64 rfl (sA_38 hs) rfl rfl rfl (RmOK.of rfl) H ?_
    rintro _ _ ⟨f53, g54, rfl, rfl, H⟩
    show WP _ _ _ _ _ _ _ 95 [some (.ref (A + 38)), some (.int (nI 10))] [] (sh, f53, g54, (up2 fR (A + 38) 7 (some q)))
    refine S_aload_n (pc := 95) dX9_readPart_95 rfl rfl ?_
    refine S_iload_n (pc := 96) dX9_readPart_96 rfl rfl ?_
    refine S_callV (As := [.int (nI 10)]) (mc := 0) (ms := 0) (pc := 97) dX9_readPart_97 miX9_readPair mvX9_readPair mlX9_215 rfl (sA_38 hs) rfl rfl rfl (RmOK.of rfl) H ?_
    rintro _ _ ⟨f55, g56, rfl, rfl, H⟩
    show WP _ _ _ _ _ _ _ 100 [some (.ref (A + 38)), some (.int (nI 10))] [] (sh, f55, g56, (up2 fR (A + 38) 7 (some q)))
    refine S_goto (pc := 100) (tgt := 162) dX9_readPart_100 rfl ?_
    exact S_vreturn dX9_readPart_162 rfl H
  · replace H := H.2 hc52
    refine S_bipush (pc := 83) dX9_readPart_83 bp9 ?_
    refine S_goto (pc := 85) (tgt := 90) dX9_readPart_85 rfl ?_
    refine S_istore_n (pc := 90) (L' := [some (.ref (A + 38)), some (.int (nI 9))]) dX9_readPart_90 rfl (by decide) rfl ?_
    refine S_aload_n (pc := 91) dX9_readPart_91 rfl rfl ?_
    refine S_callV (As := []) (mc := 0) (ms := 0) (pc := 92) dX9_readPart_92 miX9_advance mvX9_advance mlX9_64 rfl (sA_38 hs) rfl rfl rfl (RmOK.of rfl) H ?_
    rintro _ _ ⟨f57, g58, rfl, rfl, H⟩
    show WP _ _ _ _ _ _ _ 95 [some (.ref (A + 38)), some (.int (nI 9))] [] (sh, f57, g58, (up2 fR (A + 38) 7 (some q)))
    refine S_aload_n (pc := 95) dX9_readPart_95 rfl rfl ?_
    refine S_iload_n (pc := 96) dX9_readPart_96 rfl rfl ?_
    refine S_callV (As := [.int (nI 9)]) (mc := 0) (ms := 0) (pc := 97) dX9_readPart_97 miX9_readPair mvX9_readPair mlX9_215 rfl (sA_38 hs) rfl rfl rfl (RmOK.of rfl) H ?_
    rintro _ _ ⟨f59, g60, rfl, rfl, H⟩
    show WP _ _ _ _ _ _ _ 100 [some (.ref (A + 38)), some (.int (nI 9))] [] (sh, f59, g60, (up2 fR (A + 38) 7 (some q)))
    refine S_goto (pc := 100) (tgt := 162) dX9_readPart_100 rfl ?_
    exact S_vreturn dX9_readPart_162 rfl H
set_option maxHeartbeats 2000000 in
set_option maxRecDepth 4000 in
theorem VX9_readChoice {l : Launch} {G : Gx} {d : Nat} {Q : Option Value → Hp → Prop} {sh : Sh} {fR : FRt} {A p q : Nat} {f : FI} {g : FL}  (hs : StA sh fR A) (hp : fR (A + 38) 6 = some p) (hP : StPl sh fR p) (hq : StF sh fR q)
    (H : Cl l G (d + 3) 0 0 mX9_isSign [.ref (A + 38), .int (nI 40)] (sh, f, g, (up2 fR (A + 38) 7 (some q))) (qi sh (up2 fR (A + 38) 7 (some q)) fun x3 f1 g2 => ((¬ x3 = 0 → Cl l G (d + 3) 0 0 mX9_openSign [.ref (A + 38)] (sh, f1, g2, (up2 fR (A + 38) 7 (some q))) (qv sh (up2 fR (A + 38) 7 (some q)) fun f5 g6 => Cl l G (d + 3) 0 0 mX9_readTest [.ref (A + 38)] (sh, f5, g6, (up2 fR (A + 38) 7 (some q))) (qv sh (up2 fR (A + 38) 7 (some q)) fun f7 g8 => Cl l G (d + 3) 0 0 mX9_expectSign [.ref (A + 38), .int (nI 44)] (sh, f7, g8, (up2 fR (A + 38) 7 (some q))) (qv sh (up2 fR (A + 38) 7 (some q)) fun f9 g10 => Cl l G (d + 3) 0 0 mX9_readSum [.ref (A + 38)] (sh, f9, g10, (up2 fR (A + 38) 7 (some q))) (qv sh (up2 fR (A + 38) 7 (some q)) fun f11 g12 => Cl l G (d + 3) 0 0 mX9_expectSign [.ref (A + 38), .int (nI 44)] (sh, f11, g12, (up2 fR (A + 38) 7 (some q))) (qv sh (up2 fR (A + 38) 7 (some q)) fun f13 g14 => Cl l G (d + 3) 0 0 mX9_readSum [.ref (A + 38)] (sh, f13, g14, (up2 fR (A + 38) 7 (some q))) (qv sh (up2 fR (A + 38) 7 (some q)) fun f15 g16 => Cl l G (d + 3) 0 0 mX9_expectSign [.ref (A + 38), .int (nI 41)] (sh, f15, g16, (up2 fR (A + 38) 7 (some q))) (qv sh (up2 fR (A + 38) 7 (some q)) fun f17 g18 => Cl l G (d + 3) 0 0 mX3_put [.ref q, .int (nI 3), .int (nI 0)] (sh, (up2 f17 (A + 38) 9 ((f17 (A + 38) 9) - (nI 1))), g18, (up2 fR (A + 38) 7 (some q))) (qv sh (up2 fR (A + 38) 7 (some q)) fun f19 g20 => Q none (sh, f19, g20, (up2 fR (A + 38) 7 (some q)))))))))))) ∧ (x3 = 0 → Cl l G (d + 3) 0 0 mX9_blameHere [.ref (A + 38)] (sh, f1, g2, (up2 fR (A + 38) 7 (some q))) (qv sh (up2 fR (A + 38) 7 (some q)) fun f21 g22 => Q none (sh, f21, g22, (up2 fR (A + 38) 7 (some q)))))))) :
    Cl l G (d + 4) 0 0 mX9_readChoice [.ref (A + 38)] (sh, f, g, (up2 fR (A + 38) 7 (some q))) Q := by
  refine Cl.of (L0 := [some (.ref (A + 38))]) miX9_readChoice rfl rfl ?_
  refine S_aload_n (pc := 0) dX9_readChoice_0 rfl rfl ?_
  refine S_bipush (pc := 1) dX9_readChoice_1 bp40 ?_
  refine S_callV (As := [.int (nI 40)]) (mc := 0) (ms := 0) (pc := 3) dX9_readChoice_3 miX9_isSign mvX9_isSign mlX9_112 rfl (sA_38 hs) rfl rfl rfl (RmOK.of rfl) H ?_
  rintro _ _ ⟨x3, f1, g2, rfl, rfl, H⟩
  show WP _ _ _ _ _ _ _ 6 [some (.ref (A + 38))] [.int x3] (sh, f1, g2, (up2 fR (A + 38) 7 (some q)))
  refine S_if_ne (pc := 6) (tgt := 14) dX9_readChoice_6 rfl (fun hc4 => ?_) (fun hc4 => ?_)
  · replace H := H.1 hc4
    refine S_aload_n (pc := 14) dX9_readChoice_14 rfl rfl ?_
    refine S_callV (As := []) (mc := 0) (ms := 0) (pc := 15) dX9_readChoice_15 miX9_openSign mvX9_openSign mlX9_203 rfl (sA_38 hs) rfl rfl rfl (RmOK.of rfl) H ?_
    rintro _ _ ⟨f5, g6, rfl, rfl, H⟩
    show WP _ _ _ _ _ _ _ 18 [some (.ref (A + 38))] [] (sh, f5, g6, (up2 fR (A + 38) 7 (some q)))
    refine S_aload_n (pc := 18) dX9_readChoice_18 rfl rfl ?_
    refine S_callV (As := []) (mc := 0) (ms := 0) (pc := 19) dX9_readChoice_19 miX9_readTest mvX9_readTest mlX9_188 rfl (sA_38 hs) rfl rfl rfl (RmOK.of rfl) H ?_
    rintro _ _ ⟨f7, g8, rfl, rfl, H⟩
    show WP _ _ _ _ _ _ _ 22 [some (.ref (A + 38))] [] (sh, f7, g8, (up2 fR (A + 38) 7 (some q)))
    refine S_aload_n (pc := 22) dX9_readChoice_22 rfl rfl ?_
    refine S_bipush (pc := 23) dX9_readChoice_23 bp44 ?_
    refine S_callV (As := [.int (nI 44)]) (mc := 0) (ms := 0) (pc := 25) dX9_readChoice_25 miX9_expectSign mvX9_expectSign mlX9_71 rfl (sA_38 hs) rfl rfl rfl (RmOK.of rfl) H ?_
    rintro _ _ ⟨f9, g10, rfl, rfl, H⟩
    show WP _ _ _ _ _ _ _ 28 [some (.ref (A + 38))] [] (sh, f9, g10, (up2 fR (A + 38) 7 (some q)))
    refine S_aload_n (pc := 28) dX9_readChoice_28 rfl rfl ?_
    refine S_callV (As := []) (mc := 0) (ms := 0) (pc := 29) dX9_readChoice_29 miX9_readSum mvX9_readSum mlX9_191 rfl (sA_38 hs) rfl rfl rfl (RmOK.of rfl) H ?_
    rintro _ _ ⟨f11, g12, rfl, rfl, H⟩
    show WP _ _ _ _ _ _ _ 32 [some (.ref (A + 38))] [] (sh, f11, g12, (up2 fR (A + 38) 7 (some q)))
    refine S_aload_n (pc := 32) dX9_readChoice_32 rfl rfl ?_
    refine S_bipush (pc := 33) dX9_readChoice_33 bp44 ?_
    refine S_callV (As := [.int (nI 44)]) (mc := 0) (ms := 0) (pc := 35) dX9_readChoice_35 miX9_expectSign mvX9_expectSign mlX9_71 rfl (sA_38 hs) rfl rfl rfl (RmOK.of rfl) H ?_
    rintro _ _ ⟨f13, g14, rfl, rfl, H⟩
    show WP _ _ _ _ _ _ _ 38 [some (.ref (A + 38))] [] (sh, f13, g14, (up2 fR (A + 38) 7 (some q)))
    refine S_aload_n (pc := 38) dX9_readChoice_38 rfl rfl ?_
    refine S_callV (As := []) (mc := 0) (ms := 0) (pc := 39) dX9_readChoice_39 miX9_readSum mvX9_readSum mlX9_191 rfl (sA_38 hs) rfl rfl rfl (RmOK.of rfl) H ?_
    rintro _ _ ⟨f15, g16, rfl, rfl, H⟩
    show WP _ _ _ _ _ _ _ 42 [some (.ref (A + 38))] [] (sh, f15, g16, (up2 fR (A + 38) 7 (some q)))
    refine S_aload_n (pc := 42) dX9_readChoice_42 rfl rfl ?_
    refine S_bipush (pc := 43) dX9_readChoice_43 bp41 ?_
    refine S_callV (As := [.int (nI 41)]) (mc := 0) (ms := 0) (pc := 45) dX9_readChoice_45 miX9_expectSign mvX9_expectSign mlX9_71 rfl (sA_38 hs) rfl rfl rfl (RmOK.of rfl) H ?_
    rintro _ _ ⟨f17, g18, rfl, rfl, H⟩
    show WP _ _ _ _ _ _ _ 48 [some (.ref (A + 38))] [] (sh, f17, g18, (up2 fR (A + 38) 7 (some q)))
    refine S_aload_n (pc := 48) dX9_readChoice_48 rfl rfl ?_
    refine S_dup (pc := 49) dX9_readChoice_49 rfl ?_
    refine S_get (pc := 50) (v := .int (f17 (A + 38) 9)) dX9_readChoice_50 flX9_49 (sA_38 hs) rfl ?_
    refine S_iconst (pc := 53) dX9_readChoice_53 ic1 ?_
    refine S_isub (pc := 54) dX9_readChoice_54 ?_
    refine S_putI (pc := 55) dX9_readChoice_55 flX9_49 (sA_38 hs) (Nat.succ_pos _) (nf_9_9) rfl rfl (fun _ => rfl) ?_
    refine S_aload_n (pc := 58) dX9_readChoice_58 rfl rfl ?_
    refine S_getR (pc := 59) dX9_readChoice_59 flX9_28 (sA_38 hs) rfl up2_eq ?_
    refine S_iconst (pc := 62) dX9_readChoice_62 ic3 ?_
    refine S_iconst (pc := 63) dX9_readChoice_63 ic0 ?_
    refine S_callV (As := [.int (nI 3), .int (nI 0)]) (mc := 0) (ms := 0) (pc := 64) dX9_readChoice_64 miX3_put mvX3_put mlX9_197 rfl (sF_0 hq) rfl rfl rfl (RmOK.of rfl) H ?_
    rintro _ _ ⟨f19, g20, rfl, rfl, H⟩
    show WP _ _ _ _ _ _ _ 67 [some (.ref (A + 38))] [] (sh, f19, g20, (up2 fR (A + 38) 7 (some q)))
    exact S_vreturn dX9_readChoice_67 rfl H
  · replace H := H.2 hc4
    refine S_aload_n (pc := 9) dX9_readChoice_9 rfl rfl ?_
    refine S_callV (As := []) (mc := 0) (ms := 0) (pc := 10) dX9_readChoice_10 miX9_blameHere mvX9_blameHere mlX9_109 rfl (sA_38 hs) rfl rfl rfl (RmOK.of rfl) H ?_
    rintro _ _ ⟨f21, g22, rfl, rfl, H⟩
    show WP _ _ _ _ _ _ _ 13 [some (.ref (A + 38))] [] (sh, f21, g22, (up2 fR (A + 38) 7 (some q)))
    exact S_vreturn dX9_readChoice_13 rfl H
set_option maxHeartbeats 2000000 in
set_option maxRecDepth 4000 in
theorem VX9_readPair {l : Launch} {G : Gx} {d : Nat} {Q : Option Value → Hp → Prop} {sh : Sh} {fR : FRt} {A p q : Nat} {f : FI} {g : FL} {a1 : Int32} (hs : StA sh fR A) (hp : fR (A + 38) 6 = some p) (hP : StPl sh fR p) (hq : StF sh fR q)
    (H : Cl l G (d + 3) 0 0 mX9_isSign [.ref (A + 38), .int (nI 40)] (sh, f, g, (up2 fR (A + 38) 7 (some q))) (qi sh (up2 fR (A + 38) 7 (some q)) fun x3 f1 g2 => ((¬ x3 = 0 → Cl l G (d + 3) 0 0 mX9_openSign [.ref (A + 38)] (sh, f1, g2, (up2 fR (A + 38) 7 (some q))) (qv sh (up2 fR (A + 38) 7 (some q)) fun f5 g6 => Cl l G (d + 3) 0 0 mX9_readSum [.ref (A + 38)] (sh, f5, g6, (up2 fR (A + 38) 7 (some q))) (qv sh (up2 fR (A + 38) 7 (some q)) fun f7 g8 => Cl l G (d + 3) 0 0 mX9_expectSign [.ref (A + 38), .int (nI 44)] (sh, f7, g8, (up2 fR (A + 38) 7 (some q))) (qv sh (up2 fR (A + 38) 7 (some q)) fun f9 g10 => Cl l G (d + 3) 0 0 mX9_readSum [.ref (A + 38)] (sh, f9, g10, (up2 fR (A + 38) 7 (some q))) (qv sh (up2 fR (A + 38) 7 (some q)) fun f11 g12 => Cl l G (d + 3) 0 0 mX9_expectSign [.ref (A + 38), .int (nI 41)] (sh, f11, g12, (up2 fR (A + 38) 7 (some q))) (qv sh (up2 fR (A + 38) 7 (some q)) fun f13 g14 => Cl l G (d + 3) 0 0 mX3_put [.ref q, .int a1, .int (nI 0)] (sh, (up2 f13 (A + 38) 9 ((f13 (A + 38) 9) - (nI 1))), g14, (up2 fR (A + 38) 7 (some q))) (qv sh (up2 fR (A + 38) 7 (some q)) fun f15 g16 => Q none (sh, f15, g16, (up2 fR (A + 38) 7 (some q)))))))))) ∧ (x3 = 0 → Cl l G (d + 3) 0 0 mX9_blameHere [.ref (A + 38)] (sh, f1, g2, (up2 fR (A + 38) 7 (some q))) (qv sh (up2 fR (A + 38) 7 (some q)) fun f17 g18 => Q none (sh, f17, g18, (up2 fR (A + 38) 7 (some q)))))))) :
    Cl l G (d + 4) 0 0 mX9_readPair [.ref (A + 38), .int a1] (sh, f, g, (up2 fR (A + 38) 7 (some q))) Q := by
  refine Cl.of (L0 := [some (.ref (A + 38)), some (.int a1)]) miX9_readPair rfl rfl ?_
  refine S_aload_n (pc := 0) dX9_readPair_0 rfl rfl ?_
  refine S_bipush (pc := 1) dX9_readPair_1 bp40 ?_
  refine S_callV (As := [.int (nI 40)]) (mc := 0) (ms := 0) (pc := 3) dX9_readPair_3 miX9_isSign mvX9_isSign mlX9_112 rfl (sA_38 hs) rfl rfl rfl (RmOK.of rfl) H ?_
  rintro _ _ ⟨x3, f1, g2, rfl, rfl, H⟩
  show WP _ _ _ _ _ _ _ 6 [some (.ref (A + 38)), some (.int a1)] [.int x3] (sh, f1, g2, (up2 fR (A + 38) 7 (some q)))
  refine S_if_ne (pc := 6) (tgt := 14) dX9_readPair_6 rfl (fun hc4 => ?_) (fun hc4 => ?_)
  · replace H := H.1 hc4
    refine S_aload_n (pc := 14) dX9_readPair_14 rfl rfl ?_
    refine S_callV (As := []) (mc := 0) (ms := 0) (pc := 15) dX9_readPair_15 miX9_openSign mvX9_openSign mlX9_203 rfl (sA_38 hs) rfl rfl rfl (RmOK.of rfl) H ?_
    rintro _ _ ⟨f5, g6, rfl, rfl, H⟩
    show WP _ _ _ _ _ _ _ 18 [some (.ref (A + 38)), some (.int a1)] [] (sh, f5, g6, (up2 fR (A + 38) 7 (some q)))
    refine S_aload_n (pc := 18) dX9_readPair_18 rfl rfl ?_
    refine S_callV (As := []) (mc := 0) (ms := 0) (pc := 19) dX9_readPair_19 miX9_readSum mvX9_readSum mlX9_191 rfl (sA_38 hs) rfl rfl rfl (RmOK.of rfl) H ?_
    rintro _ _ ⟨f7, g8, rfl, rfl, H⟩
    show WP _ _ _ _ _ _ _ 22 [some (.ref (A + 38)), some (.int a1)] [] (sh, f7, g8, (up2 fR (A + 38) 7 (some q)))
    refine S_aload_n (pc := 22) dX9_readPair_22 rfl rfl ?_
    refine S_bipush (pc := 23) dX9_readPair_23 bp44 ?_
    refine S_callV (As := [.int (nI 44)]) (mc := 0) (ms := 0) (pc := 25) dX9_readPair_25 miX9_expectSign mvX9_expectSign mlX9_71 rfl (sA_38 hs) rfl rfl rfl (RmOK.of rfl) H ?_
    rintro _ _ ⟨f9, g10, rfl, rfl, H⟩
    show WP _ _ _ _ _ _ _ 28 [some (.ref (A + 38)), some (.int a1)] [] (sh, f9, g10, (up2 fR (A + 38) 7 (some q)))
    refine S_aload_n (pc := 28) dX9_readPair_28 rfl rfl ?_
    refine S_callV (As := []) (mc := 0) (ms := 0) (pc := 29) dX9_readPair_29 miX9_readSum mvX9_readSum mlX9_191 rfl (sA_38 hs) rfl rfl rfl (RmOK.of rfl) H ?_
    rintro _ _ ⟨f11, g12, rfl, rfl, H⟩
    show WP _ _ _ _ _ _ _ 32 [some (.ref (A + 38)), some (.int a1)] [] (sh, f11, g12, (up2 fR (A + 38) 7 (some q)))
    refine S_aload_n (pc := 32) dX9_readPair_32 rfl rfl ?_
    refine S_bipush (pc := 33) dX9_readPair_33 bp41 ?_
    refine S_callV (As := [.int (nI 41)]) (mc := 0) (ms := 0) (pc := 35) dX9_readPair_35 miX9_expectSign mvX9_expectSign mlX9_71 rfl (sA_38 hs) rfl rfl rfl (RmOK.of rfl) H ?_
    rintro _ _ ⟨f13, g14, rfl, rfl, H⟩
    show WP _ _ _ _ _ _ _ 38 [some (.ref (A + 38)), some (.int a1)] [] (sh, f13, g14, (up2 fR (A + 38) 7 (some q)))
    refine S_aload_n (pc := 38) dX9_readPair_38 rfl rfl ?_
    refine S_dup (pc := 39) dX9_readPair_39 rfl ?_
    refine S_get (pc := 40) (v := .int (f13 (A + 38) 9)) dX9_readPair_40 flX9_49 (sA_38 hs) rfl ?_
    refine S_iconst (pc := 43) dX9_readPair_43 ic1 ?_
    refine S_isub (pc := 44) dX9_readPair_44 ?_
    refine S_putI (pc := 45) dX9_readPair_45 flX9_49 (sA_38 hs) (Nat.succ_pos _) (nf_9_9) rfl rfl (fun _ => rfl) ?_
    refine S_aload_n (pc := 48) dX9_readPair_48 rfl rfl ?_
    refine S_getR (pc := 49) dX9_readPair_49 flX9_28 (sA_38 hs) rfl up2_eq ?_
    refine S_iload_n (pc := 52) dX9_readPair_52 rfl rfl ?_
    refine S_iconst (pc := 53) dX9_readPair_53 ic0 ?_
    refine S_callV (As := [.int a1, .int (nI 0)]) (mc := 0) (ms := 0) (pc := 54) dX9_readPair_54 miX3_put mvX3_put mlX9_197 rfl (sF_0 hq) rfl rfl rfl (RmOK.of rfl) H ?_
    rintro _ _ ⟨f15, g16, rfl, rfl, H⟩
    show WP _ _ _ _ _ _ _ 57 [some (.ref (A + 38)), some (.int a1)] [] (sh, f15, g16, (up2 fR (A + 38) 7 (some q)))
    exact S_vreturn dX9_readPair_57 rfl H
  · replace H := H.2 hc4
    refine S_aload_n (pc := 9) dX9_readPair_9 rfl rfl ?_
    refine S_callV (As := []) (mc := 0) (ms := 0) (pc := 10) dX9_readPair_10 miX9_blameHere mvX9_blameHere mlX9_109 rfl (sA_38 hs) rfl rfl rfl (RmOK.of rfl) H ?_
    rintro _ _ ⟨f17, g18, rfl, rfl, H⟩
    show WP _ _ _ _ _ _ _ 13 [some (.ref (A + 38)), some (.int a1)] [] (sh, f17, g18, (up2 fR (A + 38) 7 (some q)))
    exact S_vreturn dX9_readPair_13 rfl H
set_option maxHeartbeats 2000000 in
set_option maxRecDepth 4000 in
theorem VX9_factOf {l : Launch} {G : Gx} {d : Nat} {Q : Option Value → Hp → Prop} {sh : Sh} {fR : FRt} {A p q : Nat} {f : FI} {g : FL} {a1 : Int32} (hs : StA sh fR A) (hp : fR (A + 38) 6 = some p) (hP : StPl sh fR p) (hq : StF sh fR q)
    (H : ((a1 = nI 4 → (((f (A + 38) 8) = (nI 10) → Q (some (.int (nI 1))) (sh, f, g, (up2 fR (A + 38) 7 (some q)))) ∧ (¬ (f (A + 38) 8) = (nI 10) → ((¬ (f (A + 38) 8) = (nI 11) → Q (some (.int (-1))) (sh, f, g, (up2 fR (A + 38) 7 (some q)))) ∧ ((f (A + 38) 8) = (nI 11) → Q (some (.int (nI 1))) (sh, f, g, (up2 fR (A + 38) 7 (some q)))))))) ∧ (a1 = nI 5 → (((f (A + 38) 8) = (nI 11) → Q (some (.int (nI 4))) (sh, f, g, (up2 fR (A + 38) 7 (some q)))) ∧ (¬ (f (A + 38) 8) = (nI 11) → ((¬ (f (A + 38) 8) = (nI 13) → Q (some (.int (-1))) (sh, f, g, (up2 fR (A + 38) 7 (some q)))) ∧ ((f (A + 38) 8) = (nI 13) → Q (some (.int (nI 4))) (sh, f, g, (up2 fR (A + 38) 7 (some q)))))))) ∧ (a1 = nI 14 → Q (some (.int (nI 0))) (sh, f, g, (up2 fR (A + 38) 7 (some q)))) ∧ (a1 = nI 15 → ((¬ (f (A + 38) 8) = (nI 10) → Q (some (.int (-1))) (sh, f, g, (up2 fR (A + 38) 7 (some q)))) ∧ ((f (A + 38) 8) = (nI 10) → Q (some (.int (nI 2))) (sh, f, g, (up2 fR (A + 38) 7 (some q)))))) ∧ (a1 = nI 16 → ((¬ (f (A + 38) 8) = (nI 10) → Q (some (.int (-1))) (sh, f, g, (up2 fR (A + 38) 7 (some q)))) ∧ ((f (A + 38) 8) = (nI 10) → Q (some (.int (nI 3))) (sh, f, g, (up2 fR (A + 38) 7 (some q)))))) ∧ (a1 = nI 17 → (((f (A + 38) 8) = (nI 11) → Q (some (.int (nI 5))) (sh, f, g, (up2 fR (A + 38) 7 (some q)))) ∧ (¬ (f (A + 38) 8) = (nI 11) → ((¬ (f (A + 38) 8) = (nI 13) → Q (some (.int (-1))) (sh, f, g, (up2 fR (A + 38) 7 (some q)))) ∧ ((f (A + 38) 8) = (nI 13) → Q (some (.int (nI 5))) (sh, f, g, (up2 fR (A + 38) 7 (some q)))))))) ∧ (a1 = nI 18 → ((¬ (f (A + 38) 8) = (nI 11) → Q (some (.int (-1))) (sh, f, g, (up2 fR (A + 38) 7 (some q)))) ∧ ((f (A + 38) 8) = (nI 11) → Q (some (.int (nI 6))) (sh, f, g, (up2 fR (A + 38) 7 (some q)))))) ∧ (a1 = nI 19 → ((¬ (f (A + 38) 8) = (nI 13) → Q (some (.int (-1))) (sh, f, g, (up2 fR (A + 38) 7 (some q)))) ∧ ((f (A + 38) 8) = (nI 13) → Q (some (.int (nI 7))) (sh, f, g, (up2 fR (A + 38) 7 (some q)))))) ∧ (a1 = nI 20 → ((¬ (f (A + 38) 8) = (nI 12) → Q (some (.int (-1))) (sh, f, g, (up2 fR (A + 38) 7 (some q)))) ∧ ((f (A + 38) 8) = (nI 12) → Q (some (.int (nI 8))) (sh, f, g, (up2 fR (A + 38) 7 (some q)))))) ∧ (a1 = nI 21 → ((¬ (f (A + 38) 8) = (nI 12) → Q (some (.int (-1))) (sh, f, g, (up2 fR (A + 38) 7 (some q)))) ∧ ((f (A + 38) 8) = (nI 12) → Q (some (.int (nI 9))) (sh, f, g, (up2 fR (A + 38) 7 (some q)))))) ∧ ((¬ a1 = nI 4 ∧ ¬ a1 = nI 5 ∧ ¬ a1 = nI 14 ∧ ¬ a1 = nI 15 ∧ ¬ a1 = nI 16 ∧ ¬ a1 = nI 17 ∧ ¬ a1 = nI 18 ∧ ¬ a1 = nI 19 ∧ ¬ a1 = nI 20 ∧ ¬ a1 = nI 21) → Q (some (.int (-1))) (sh, f, g, (up2 fR (A + 38) 7 (some q)))))) :
    Cl l G d 0 0 mX9_factOf [.ref (A + 38), .int a1] (sh, f, g, (up2 fR (A + 38) 7 (some q))) Q := by
  refine Cl.of (L0 := [some (.ref (A + 38)), some (.int a1)]) miX9_factOf rfl rfl ?_
  refine S_iload_n (pc := 0) dX9_factOf_0 rfl rfl ?_
  by_cases hc1 : a1 = nI 4
  · replace H := H.1 hc1
    refine S_tsw (pc := 1) (tgt := 90) dX9_factOf_1 (Or.inr ⟨by rw [hc1]; decide, by rw [hc1]; decide, _, by rw [hc1]; rfl, rfl⟩) ?_
    refine S_aload_n (pc := 90) dX9_factOf_90 rfl rfl ?_
    refine S_get (pc := 91) (v := .int (f (A + 38) 8)) dX9_factOf_91 flX9_185 (sA_38 hs) rfl ?_
    refine S_bipush (pc := 94) dX9_factOf_94 bp10 ?_
    refine S_icmp_eq (pc := 96) (tgt := 108) dX9_factOf_96 rfl (fun hc2 => ?_) (fun hc2 => ?_)
    · replace H := H.1 hc2
      refine S_iconst (pc := 108) dX9_factOf_108 ic1 ?_
      refine S_goto (pc := 109) (tgt := 113) dX9_factOf_109 rfl ?_
      exact S_ireturn dX9_factOf_113 rfl H
    · replace H := H.2 hc2
      refine S_aload_n (pc := 99) dX9_factOf_99 rfl rfl ?_
      refine S_get (pc := 100) (v := .int (f (A + 38) 8)) dX9_factOf_100 flX9_185 (sA_38 hs) rfl ?_
      refine S_bipush (pc := 103) dX9_factOf_103 bp11 ?_
      refine S_icmp_ne (pc := 105) (tgt := 112) dX9_factOf_105 rfl (fun hc3 => ?_) (fun hc3 => ?_)
      · replace H := H.1 hc3
        refine S_iconst (pc := 112) dX9_factOf_112 icm1 ?_
        exact S_ireturn dX9_factOf_113 rfl H
      · replace H := H.2 hc3
        refine S_iconst (pc := 108) dX9_factOf_108 ic1 ?_
        refine S_goto (pc := 109) (tgt := 113) dX9_factOf_109 rfl ?_
        exact S_ireturn dX9_factOf_113 rfl H
  · by_cases hc4 : a1 = nI 5
    · replace H := H.2.1 hc4
      refine S_tsw (pc := 1) (tgt := 144) dX9_factOf_1 (Or.inr ⟨by rw [hc4]; decide, by rw [hc4]; decide, _, by rw [hc4]; rfl, rfl⟩) ?_
      refine S_aload_n (pc := 144) dX9_factOf_144 rfl rfl ?_
      refine S_get (pc := 145) (v := .int (f (A + 38) 8)) dX9_factOf_145 flX9_185 (sA_38 hs) rfl ?_
      refine S_bipush (pc := 148) dX9_factOf_148 bp11 ?_
      refine S_icmp_eq (pc := 150) (tgt := 162) dX9_factOf_150 rfl (fun hc5 => ?_) (fun hc5 => ?_)
      · replace H := H.1 hc5
        refine S_iconst (pc := 162) dX9_factOf_162 ic4 ?_
        refine S_goto (pc := 163) (tgt := 167) dX9_factOf_163 rfl ?_
        exact S_ireturn dX9_factOf_167 rfl H
      · replace H := H.2 hc5
        refine S_aload_n (pc := 153) dX9_factOf_153 rfl rfl ?_
        refine S_get (pc := 154) (v := .int (f (A + 38) 8)) dX9_factOf_154 flX9_185 (sA_38 hs) rfl ?_
        refine S_bipush (pc := 157) dX9_factOf_157 bp13 ?_
        refine S_icmp_ne (pc := 159) (tgt := 166) dX9_factOf_159 rfl (fun hc6 => ?_) (fun hc6 => ?_)
        · replace H := H.1 hc6
          refine S_iconst (pc := 166) dX9_factOf_166 icm1 ?_
          exact S_ireturn dX9_factOf_167 rfl H
        · replace H := H.2 hc6
          refine S_iconst (pc := 162) dX9_factOf_162 ic4 ?_
          refine S_goto (pc := 163) (tgt := 167) dX9_factOf_163 rfl ?_
          exact S_ireturn dX9_factOf_167 rfl H
    · by_cases hc7 : a1 = nI 14
      · replace H := H.2.2.1 hc7
        refine S_tsw (pc := 1) (tgt := 88) dX9_factOf_1 (Or.inr ⟨by rw [hc7]; decide, by rw [hc7]; decide, _, by rw [hc7]; rfl, rfl⟩) ?_
        refine S_iconst (pc := 88) dX9_factOf_88 ic0 ?_
        exact S_ireturn dX9_factOf_89 rfl H
      · by_cases hc8 : a1 = nI 15
        · replace H := H.2.2.2.1 hc8
          refine S_tsw (pc := 1) (tgt := 114) dX9_factOf_1 (Or.inr ⟨by rw [hc8]; decide, by rw [hc8]; decide, _, by rw [hc8]; rfl, rfl⟩) ?_
          refine S_aload_n (pc := 114) dX9_factOf_114 rfl rfl ?_
          refine S_get (pc := 115) (v := .int (f (A + 38) 8)) dX9_factOf_115 flX9_185 (sA_38 hs) rfl ?_
          refine S_bipush (pc := 118) dX9_factOf_118 bp10 ?_
          refine S_icmp_ne (pc := 120) (tgt := 127) dX9_factOf_120 rfl (fun hc9 => ?_) (fun hc9 => ?_)
          · replace H := H.1 hc9
            refine S_iconst (pc := 127) dX9_factOf_127 icm1 ?_
            exact S_ireturn dX9_factOf_128 rfl H
          · replace H := H.2 hc9
            refine S_iconst (pc := 123) dX9_factOf_123 ic2 ?_
            refine S_goto (pc := 124) (tgt := 128) dX9_factOf_124 rfl ?_
            exact S_ireturn dX9_factOf_128 rfl H
        · by_cases hc10 : a1 = nI 16
          · replace H := H.2.2.2.2.1 hc10
            refine S_tsw (pc := 1) (tgt := 129) dX9_factOf_1 (Or.inr ⟨by rw [hc10]; decide, by rw [hc10]; decide, _, by rw [hc10]; rfl, rfl⟩) ?_
            refine S_aload_n (pc := 129) dX9_factOf_129 rfl rfl ?_
            refine S_get (pc := 130) (v := .int (f (A + 38) 8)) dX9_factOf_130 flX9_185 (sA_38 hs) rfl ?_
            refine S_bipush (pc := 133) dX9_factOf_133 bp10 ?_
            refine S_icmp_ne (pc := 135) (tgt := 142) dX9_factOf_135 rfl (fun hc11 => ?_) (fun hc11 => ?_)
            · replace H := H.1 hc11
              refine S_iconst (pc := 142) dX9_factOf_142 icm1 ?_
              exact S_ireturn dX9_factOf_143 rfl H
            · replace H := H.2 hc11
              refine S_iconst (pc := 138) dX9_factOf_138 ic3 ?_
              refine S_goto (pc := 139) (tgt := 143) dX9_factOf_139 rfl ?_
              exact S_ireturn dX9_factOf_143 rfl H
          · by_cases hc12 : a1 = nI 17
            · replace H := H.2.2.2.2.2.1 hc12
              refine S_tsw (pc := 1) (tgt := 168) dX9_factOf_1 (Or.inr ⟨by rw [hc12]; decide, by rw [hc12]; decide, _, by rw [hc12]; rfl, rfl⟩) ?_
              refine S_aload_n (pc := 168) dX9_factOf_168 rfl rfl ?_
              refine S_get (pc := 169) (v := .int (f (A + 38) 8)) dX9_factOf_169 flX9_185 (sA_38 hs) rfl ?_
              refine S_bipush (pc := 172) dX9_factOf_172 bp11 ?_
              refine S_icmp_eq (pc := 174) (tgt := 186) dX9_factOf_174 rfl (fun hc13 => ?_) (fun hc13 => ?_)
              · replace H := H.1 hc13
                refine S_iconst (pc := 186) dX9_factOf_186 ic5 ?_
                refine S_goto (pc := 187) (tgt := 191) dX9_factOf_187 rfl ?_
                exact S_ireturn dX9_factOf_191 rfl H
              · replace H := H.2 hc13
                refine S_aload_n (pc := 177) dX9_factOf_177 rfl rfl ?_
                refine S_get (pc := 178) (v := .int (f (A + 38) 8)) dX9_factOf_178 flX9_185 (sA_38 hs) rfl ?_
                refine S_bipush (pc := 181) dX9_factOf_181 bp13 ?_
                refine S_icmp_ne (pc := 183) (tgt := 190) dX9_factOf_183 rfl (fun hc14 => ?_) (fun hc14 => ?_)
                · replace H := H.1 hc14
                  refine S_iconst (pc := 190) dX9_factOf_190 icm1 ?_
                  exact S_ireturn dX9_factOf_191 rfl H
                · replace H := H.2 hc14
                  refine S_iconst (pc := 186) dX9_factOf_186 ic5 ?_
                  refine S_goto (pc := 187) (tgt := 191) dX9_factOf_187 rfl ?_
                  exact S_ireturn dX9_factOf_191 rfl H
            · by_cases hc15 : a1 = nI 18
              · replace H := H.2.2.2.2.2.2.1 hc15
                refine S_tsw (pc := 1) (tgt := 192) dX9_factOf_1 (Or.inr ⟨by rw [hc15]; decide, by rw [hc15]; decide, _, by rw [hc15]; rfl, rfl⟩) ?_
                refine S_aload_n (pc := 192) dX9_factOf_192 rfl rfl ?_
                refine S_get (pc := 193) (v := .int (f (A + 38) 8)) dX9_factOf_193 flX9_185 (sA_38 hs) rfl ?_
                refine S_bipush (pc := 196) dX9_factOf_196 bp11 ?_
                refine S_icmp_ne (pc := 198) (tgt := 206) dX9_factOf_198 rfl (fun hc16 => ?_) (fun hc16 => ?_)
                · replace H := H.1 hc16
                  refine S_iconst (pc := 206) dX9_factOf_206 icm1 ?_
                  exact S_ireturn dX9_factOf_207 rfl H
                · replace H := H.2 hc16
                  refine S_bipush (pc := 201) dX9_factOf_201 bp6 ?_
                  refine S_goto (pc := 203) (tgt := 207) dX9_factOf_203 rfl ?_
                  exact S_ireturn dX9_factOf_207 rfl H
              · by_cases hc17 : a1 = nI 19
                · replace H := H.2.2.2.2.2.2.2.1 hc17
                  refine S_tsw (pc := 1) (tgt := 208) dX9_factOf_1 (Or.inr ⟨by rw [hc17]; decide, by rw [hc17]; decide, _, by rw [hc17]; rfl, rfl⟩) ?_
                  refine S_aload_n (pc := 208) dX9_factOf_208 rfl rfl ?_
                  refine S_get (pc := 209) (v := .int (f (A + 38) 8)) dX9_factOf_209 flX9_185 (sA_38 hs) rfl ?_
                  refine S_bipush (pc := 212) dX9_factOf_212 bp13 ?_
                  refine S_icmp_ne (pc := 214) (tgt := 222) dX9_factOf_214 rfl (fun hc18 => ?_) (fun hc18 => ?_)
                  · replace H := H.1 hc18
                    refine S_iconst (pc := 222) dX9_factOf_222 icm1 ?_
                    exact S_ireturn dX9_factOf_223 rfl H
                  · replace H := H.2 hc18
                    refine S_bipush (pc := 217) dX9_factOf_217 bp7 ?_
                    refine S_goto (pc := 219) (tgt := 223) dX9_factOf_219 rfl ?_
                    exact S_ireturn dX9_factOf_223 rfl H
                · by_cases hc19 : a1 = nI 20
                  · replace H := H.2.2.2.2.2.2.2.2.1 hc19
                    refine S_tsw (pc := 1) (tgt := 224) dX9_factOf_1 (Or.inr ⟨by rw [hc19]; decide, by rw [hc19]; decide, _, by rw [hc19]; rfl, rfl⟩) ?_
                    refine S_aload_n (pc := 224) dX9_factOf_224 rfl rfl ?_
                    refine S_get (pc := 225) (v := .int (f (A + 38) 8)) dX9_factOf_225 flX9_185 (sA_38 hs) rfl ?_
                    refine S_bipush (pc := 228) dX9_factOf_228 bp12 ?_
                    refine S_icmp_ne (pc := 230) (tgt := 238) dX9_factOf_230 rfl (fun hc20 => ?_) (fun hc20 => ?_)
                    · replace H := H.1 hc20
                      refine S_iconst (pc := 238) dX9_factOf_238 icm1 ?_
                      exact S_ireturn dX9_factOf_239 rfl H
                    · replace H := H.2 hc20
                      refine S_bipush (pc := 233) dX9_factOf_233 bp8 ?_
                      refine S_goto (pc := 235) (tgt := 239) dX9_factOf_235 rfl ?_
                      exact S_ireturn dX9_factOf_239 rfl H
                  · by_cases hc21 : a1 = nI 21
                    · replace H := H.2.2.2.2.2.2.2.2.2.1 hc21
                      refine S_tsw (pc := 1) (tgt := 240) dX9_factOf_1 (Or.inr ⟨by rw [hc21]; decide, by rw [hc21]; decide, _, by rw [hc21]; rfl, rfl⟩) ?_
                      refine S_aload_n (pc := 240) dX9_factOf_240 rfl rfl ?_
                      refine S_get (pc := 241) (v := .int (f (A + 38) 8)) dX9_factOf_241 flX9_185 (sA_38 hs) rfl ?_
                      refine S_bipush (pc := 244) dX9_factOf_244 bp12 ?_
                      refine S_icmp_ne (pc := 246) (tgt := 254) dX9_factOf_246 rfl (fun hc22 => ?_) (fun hc22 => ?_)
                      · replace H := H.1 hc22
                        refine S_iconst (pc := 254) dX9_factOf_254 icm1 ?_
                        exact S_ireturn dX9_factOf_255 rfl H
                      · replace H := H.2 hc22
                        refine S_bipush (pc := 249) dX9_factOf_249 bp9 ?_
                        refine S_goto (pc := 251) (tgt := 255) dX9_factOf_251 rfl ?_
                        exact S_ireturn dX9_factOf_255 rfl H
                    · replace H := H.2.2.2.2.2.2.2.2.2.2 ⟨hc1, hc4, hc7, hc8, hc10, hc12, hc15, hc17, hc19, hc21⟩
                      by_cases hc23 : a1 = nI 6
                      · refine S_tsw (pc := 1) (tgt := 256) dX9_factOf_1 (Or.inr ⟨by rw [hc23]; decide, by rw [hc23]; decide, _, by rw [hc23]; rfl, rfl⟩) ?_
                        refine S_iconst (pc := 256) dX9_factOf_256 icm1 ?_
                        exact S_ireturn dX9_factOf_257 rfl H
                      · by_cases hc24 : a1 = nI 7
                        · refine S_tsw (pc := 1) (tgt := 256) dX9_factOf_1 (Or.inr ⟨by rw [hc24]; decide, by rw [hc24]; decide, _, by rw [hc24]; rfl, rfl⟩) ?_
                          refine S_iconst (pc := 256) dX9_factOf_256 icm1 ?_
                          exact S_ireturn dX9_factOf_257 rfl H
                        · by_cases hc25 : a1 = nI 8
                          · refine S_tsw (pc := 1) (tgt := 256) dX9_factOf_1 (Or.inr ⟨by rw [hc25]; decide, by rw [hc25]; decide, _, by rw [hc25]; rfl, rfl⟩) ?_
                            refine S_iconst (pc := 256) dX9_factOf_256 icm1 ?_
                            exact S_ireturn dX9_factOf_257 rfl H
                          · by_cases hc26 : a1 = nI 9
                            · refine S_tsw (pc := 1) (tgt := 256) dX9_factOf_1 (Or.inr ⟨by rw [hc26]; decide, by rw [hc26]; decide, _, by rw [hc26]; rfl, rfl⟩) ?_
                              refine S_iconst (pc := 256) dX9_factOf_256 icm1 ?_
                              exact S_ireturn dX9_factOf_257 rfl H
                            · by_cases hc27 : a1 = nI 10
                              · refine S_tsw (pc := 1) (tgt := 256) dX9_factOf_1 (Or.inr ⟨by rw [hc27]; decide, by rw [hc27]; decide, _, by rw [hc27]; rfl, rfl⟩) ?_
                                refine S_iconst (pc := 256) dX9_factOf_256 icm1 ?_
                                exact S_ireturn dX9_factOf_257 rfl H
                              · by_cases hc28 : a1 = nI 11
                                · refine S_tsw (pc := 1) (tgt := 256) dX9_factOf_1 (Or.inr ⟨by rw [hc28]; decide, by rw [hc28]; decide, _, by rw [hc28]; rfl, rfl⟩) ?_
                                  refine S_iconst (pc := 256) dX9_factOf_256 icm1 ?_
                                  exact S_ireturn dX9_factOf_257 rfl H
                                · by_cases hc29 : a1 = nI 12
                                  · refine S_tsw (pc := 1) (tgt := 256) dX9_factOf_1 (Or.inr ⟨by rw [hc29]; decide, by rw [hc29]; decide, _, by rw [hc29]; rfl, rfl⟩) ?_
                                    refine S_iconst (pc := 256) dX9_factOf_256 icm1 ?_
                                    exact S_ireturn dX9_factOf_257 rfl H
                                  · by_cases hc30 : a1 = nI 13
                                    · refine S_tsw (pc := 1) (tgt := 256) dX9_factOf_1 (Or.inr ⟨by rw [hc30]; decide, by rw [hc30]; decide, _, by rw [hc30]; rfl, rfl⟩) ?_
                                      refine S_iconst (pc := 256) dX9_factOf_256 icm1 ?_
                                      exact S_ireturn dX9_factOf_257 rfl H
                                    · refine S_tsw (pc := 1) (tgt := 256) dX9_factOf_1 (Or.inl ⟨tsw_out (lo := 4) (hi := 21) (fun j h1 h2 => by rcases (show j = 4 ∨ j = 5 ∨ j = 6 ∨ j = 7 ∨ j = 8 ∨ j = 9 ∨ j = 10 ∨ j = 11 ∨ j = 12 ∨ j = 13 ∨ j = 14 ∨ j = 15 ∨ j = 16 ∨ j = 17 ∨ j = 18 ∨ j = 19 ∨ j = 20 ∨ j = 21 by omega) with rfl | rfl | rfl | rfl | rfl | rfl | rfl | rfl | rfl | rfl | rfl | rfl | rfl | rfl | rfl | rfl | rfl | rfl <;> assumption), rfl⟩) ?_
                                      refine S_iconst (pc := 256) dX9_factOf_256 icm1 ?_
                                      exact S_ireturn dX9_factOf_257 rfl H
set_option maxHeartbeats 2000000 in
set_option maxRecDepth 4000 in
theorem VX11_feed {l : Launch} {G : Gx} {d : Nat} {Q : Option Value → Hp → Prop} {sh : Sh} {fR : FRt} {A p : Nat} {f : FI} {g : FL} {a1 : Int32} {a2 : Int32} {a3 : Int32} {a4 : Int32} {a5 : Int32} (hs : StA sh fR A) (hp : fR A 5 = some p) (hn : fR (A + 40) 7 = some p) (hP : StPl sh fR p)
    (H : ((((f A 1) + (nI 20)) ≤ (nI 1600) → Cl l G d 0 0 mX11_putNumber [.ref A, .int a1] (sh, f, g, fR) (qv sh fR fun f2 g3 => Cl l G d 0 0 mX11_putNumber [.ref A, .int a2] (sh, f2, g3, fR) (qv sh fR fun f4 g5 => Cl l G d 0 0 mX11_putNumber [.ref A, .int a3] (sh, f4, g5, fR) (qv sh fR fun f6 g7 => Cl l G d 0 0 mX11_putNumber [.ref A, .int a4] (sh, f6, g7, fR) (qv sh fR fun f8 g9 => Cl l G d 0 0 mX11_putNumber [.ref A, .int a5] (sh, f8, g9, fR) (qv sh fR fun f10 g11 => Q (some (.int (f10 A 1))) (sh, f10, g11, fR))))))) ∧ (¬ ((f A 1) + (nI 20)) ≤ (nI 1600) → Q (some (.int (-1))) (sh, (up2 f (A + 2) 0 ((f (A + 2) 0) + (nI 1))), g, fR)))) :
    Cl l G (d + 1) 0 0 mX11_feed [.ref A, .int a1, .int a2, .int a3, .int a4, .int a5] (sh, f, g, fR) Q := by
  refine Cl.of (L0 := [some (.ref A), some (.int a1), some (.int a2), some (.int a3), some (.int a4), some (.int a5)]) miX11_feed rfl rfl ?_
  refine S_aload_n (pc := 0) dX11_feed_0 rfl rfl ?_
  refine S_get (pc := 1) (v := .int (f A 1)) dX11_feed_1 flX11_66 (sA_0 hs) rfl ?_
  refine S_bipush (pc := 4) dX11_feed_4 bp20 ?_
  refine S_iadd (pc := 6) dX11_feed_6 ?_
  refine S_sipush (pc := 7) dX11_feed_7 sp1600 ?_
  refine S_icmp_le (pc := 10) (tgt := 19) dX11_feed_10 rfl (fun hc1 => ?_) (fun hc1 => ?_)
  · replace H := H.1 hc1
    refine S_aload_n (pc := 19) dX11_feed_19 rfl rfl ?_
    refine S_iload_n (pc := 20) dX11_feed_20 rfl rfl ?_
    refine S_callV (As := [.int a1]) (mc := 0) (ms := 0) (pc := 21) dX11_feed_21 miX11_putNumber mvX11_putNumber mlX11_74 rfl (sA_0 hs) rfl rfl rfl (RmOK.of rfl) H ?_
    rintro _ _ ⟨f2, g3, rfl, rfl, H⟩
    show WP _ _ _ _ _ _ _ 24 [some (.ref A), some (.int a1), some (.int a2), some (.int a3), some (.int a4), some (.int a5)] [] (sh, f2, g3, fR)
    refine S_aload_n (pc := 24) dX11_feed_24 rfl rfl ?_
    refine S_iload_n (pc := 25) dX11_feed_25 rfl rfl ?_
    refine S_callV (As := [.int a2]) (mc := 0) (ms := 0) (pc := 26) dX11_feed_26 miX11_putNumber mvX11_putNumber mlX11_74 rfl (sA_0 hs) rfl rfl rfl (RmOK.of rfl) H ?_
    rintro _ _ ⟨f4, g5, rfl, rfl, H⟩
    show WP _ _ _ _ _ _ _ 29 [some (.ref A), some (.int a1), some (.int a2), some (.int a3), some (.int a4), some (.int a5)] [] (sh, f4, g5, fR)
    refine S_aload_n (pc := 29) dX11_feed_29 rfl rfl ?_
    refine S_iload_n (pc := 30) dX11_feed_30 rfl rfl ?_
    refine S_callV (As := [.int a3]) (mc := 0) (ms := 0) (pc := 31) dX11_feed_31 miX11_putNumber mvX11_putNumber mlX11_74 rfl (sA_0 hs) rfl rfl rfl (RmOK.of rfl) H ?_
    rintro _ _ ⟨f6, g7, rfl, rfl, H⟩
    show WP _ _ _ _ _ _ _ 34 [some (.ref A), some (.int a1), some (.int a2), some (.int a3), some (.int a4), some (.int a5)] [] (sh, f6, g7, fR)
    refine S_aload_n (pc := 34) dX11_feed_34 rfl rfl ?_
    refine S_iload (pc := 35) dX11_feed_35 rfl ?_
    refine S_callV (As := [.int a4]) (mc := 0) (ms := 0) (pc := 37) dX11_feed_37 miX11_putNumber mvX11_putNumber mlX11_74 rfl (sA_0 hs) rfl rfl rfl (RmOK.of rfl) H ?_
    rintro _ _ ⟨f8, g9, rfl, rfl, H⟩
    show WP _ _ _ _ _ _ _ 40 [some (.ref A), some (.int a1), some (.int a2), some (.int a3), some (.int a4), some (.int a5)] [] (sh, f8, g9, fR)
    refine S_aload_n (pc := 40) dX11_feed_40 rfl rfl ?_
    refine S_iload (pc := 41) dX11_feed_41 rfl ?_
    refine S_callV (As := [.int a5]) (mc := 0) (ms := 0) (pc := 43) dX11_feed_43 miX11_putNumber mvX11_putNumber mlX11_74 rfl (sA_0 hs) rfl rfl rfl (RmOK.of rfl) H ?_
    rintro _ _ ⟨f10, g11, rfl, rfl, H⟩
    show WP _ _ _ _ _ _ _ 46 [some (.ref A), some (.int a1), some (.int a2), some (.int a3), some (.int a4), some (.int a5)] [] (sh, f10, g11, fR)
    refine S_aload_n (pc := 46) dX11_feed_46 rfl rfl ?_
    refine S_get (pc := 47) (v := .int (f10 A 1)) dX11_feed_47 flX11_66 (sA_0 hs) rfl ?_
    exact S_ireturn dX11_feed_50 rfl H
  · replace H := H.2 hc1
    refine S_aload_n (pc := 13) dX11_feed_13 rfl rfl ?_
    refine S_iconst (pc := 14) dX11_feed_14 ic0 ?_
    refine S_callV (As := [.int (nI 0)]) (mc := 0) (ms := 0) (pc := 15) dX11_feed_15 miX11_refuse mvX11_refuse mlX11_70 rfl (sA_0 hs) rfl rfl rfl (RmOK.of rfl) (Q := fun r h => WP _ _ _ _ _ _ _ 18 [some (.ref A), some (.int a1), some (.int a2), some (.int a3), some (.int a4), some (.int a5)] (r.toList ++ []) h) (Cl.of miX11_refuse rfl rfl ?_) (fun _ _ q => q)
    refine S_aload_n (pc := 0) dX11_refuse_0 rfl rfl ?_
    refine S_getR (pc := 1) dX11_refuse_1 flX11_13 (sA_0 hs) rfl (rA_0_2 hs) ?_
    refine S_iload_n (pc := 4) dX11_refuse_4 rfl rfl ?_
    refine S_dup2 (pc := 5) dX11_refuse_5 rfl rfl ?_
    refine S_iald (pc := 6) dX11_refuse_6 (sA_2 hs) (vp_in_nI (by decide) (by decide)) ?_
    show WP _ _ _ _ _ _ _ 7 _ (.int (f (A + 2) 0) :: _) _
    refine S_iconst (pc := 7) dX11_refuse_7 ic1 ?_
    refine S_iadd (pc := 8) dX11_refuse_8 ?_
    refine S_iast (pc := 9) dX11_refuse_9 (sA_2 hs) (Nat.succ_pos _) (vp_in_nI (by decide) (by decide)) ?_
    show WP _ _ _ _ _ _ _ 10 _ _ (sh, (up2 f (A + 2) 0 ((f (A + 2) 0) + (nI 1))), g, fR)
    refine S_iconst (pc := 10) dX11_refuse_10 icm1 ?_
    refine S_ireturn dX11_refuse_11 rfl ?_
    show WP _ _ _ _ _ _ _ 18 [some (.ref A), some (.int a1), some (.int a2), some (.int a3), some (.int a4), some (.int a5)] [.int (-1)] (sh, (up2 f (A + 2) 0 ((f (A + 2) 0) + (nI 1))), g, fR)
    exact S_ireturn dX11_feed_18 rfl H
abbrev LpX11_putNumber_3 (l : Launch) (G : Gx) (d : Nat) (Q : Option Value → Hp → Prop) (sh : Sh) (fR : FRt) (A p : Nat) (f : FI) (g : FL) (a1 : Int32) (a2 : Int32) : Prop := WP l G (Zq G 0 0 Q) mX11_putNumber (rmd d 0 0) 0 0 3 [some (.ref A), some (.int a1), some (.int a2)] [] (sh, f, g, fR)
set_option maxHeartbeats 2000000 in
set_option maxRecDepth 4000 in
theorem VX11_putNumber {l : Launch} {G : Gx} {d : Nat} {Q : Option Value → Hp → Prop} {sh : Sh} {fR : FRt} {A p : Nat} {f : FI} {g : FL} {a1 : Int32} (hs : StA sh fR A) (hp : fR A 5 = some p) (hn : fR (A + 40) 7 = some p) (hP : StPl sh fR p)
    (H : LpX11_putNumber_3 l G d Q sh fR A p f g a1 (nI 24)) :
    Cl l G d 0 0 mX11_putNumber [.ref A, .int a1] (sh, f, g, fR) Q := by
  refine Cl.of (L0 := [some (.ref A), some (.int a1), none]) miX11_putNumber rfl rfl ?_
  refine S_bipush (pc := 0) dX11_putNumber_0 bp24 ?_
  refine S_istore_n (pc := 2) (L' := [some (.ref A), some (.int a1), some (.int (nI 24))]) dX11_putNumber_2 rfl (by decide) rfl ?_
  exact H
set_option maxHeartbeats 2000000 in
set_option maxRecDepth 4000 in
theorem VX11_putNumber_3 {l : Launch} {G : Gx} {d : Nat} {Q : Option Value → Hp → Prop} {sh : Sh} {fR : FRt} {A p : Nat} {f : FI} {g : FL} {a1 : Int32} {a2 : Int32} (hs : StA sh fR A) (hp : fR A 5 = some p) (hn : fR (A + 40) 7 = some p) (hP : StPl sh fR p)
    (H : ((a2 < 0 → Q none (sh, f, g, fR)) ∧ (¬ a2 < 0 → (((nI 1600) ≤ (f A 1) → Q none (sh, f, g, fR)) ∧ (¬ (nI 1600) ≤ (f A 1) → inb (f A 1) 1600 ∧ LpX11_putNumber_3 l G d Q sh fR A p (up2 (up2 f (A + 1) (f A 1).toNatClampNeg ((a1 >>> (a2 &&& 31)) &&& (nI 255))) A 1 ((f A 1) + (nI 1))) g a1 (a2 + (-8))))))) :
    LpX11_putNumber_3 l G d Q sh fR A p f g a1 a2 := by
  refine S_iload_n (pc := 3) dX11_putNumber_3 rfl rfl ?_
  refine S_if_lt (pc := 4) (tgt := 49) dX11_putNumber_4 rfl (fun hc1 => ?_) (fun hc1 => ?_)
  · replace H := H.1 hc1
    exact S_vreturn dX11_putNumber_49 rfl H
  · replace H := H.2 hc1
    refine S_aload_n (pc := 7) dX11_putNumber_7 rfl rfl ?_
    refine S_get (pc := 8) (v := .int (f A 1)) dX11_putNumber_8 flX11_66 (sA_0 hs) rfl ?_
    refine S_sipush (pc := 11) dX11_putNumber_11 sp1600 ?_
    refine S_icmp_ge (pc := 14) (tgt := 49) dX11_putNumber_14 rfl (fun hc2 => ?_) (fun hc2 => ?_)
    · replace H := H.1 hc2
      exact S_vreturn dX11_putNumber_49 rfl H
    · replace H := H.2 hc2
      refine S_aload_n (pc := 17) dX11_putNumber_17 rfl rfl ?_
      refine S_getR (pc := 18) dX11_putNumber_18 flX11_9 (sA_0 hs) rfl (rA_0_0 hs) ?_
      refine S_aload_n (pc := 21) dX11_putNumber_21 rfl rfl ?_
      refine S_get (pc := 22) (v := .int (f A 1)) dX11_putNumber_22 flX11_66 (sA_0 hs) rfl ?_
      refine S_iload_n (pc := 25) dX11_putNumber_25 rfl rfl ?_
      refine S_iload_n (pc := 26) dX11_putNumber_26 rfl rfl ?_
      refine S_ishr (pc := 27) dX11_putNumber_27 ?_
      refine S_sipush (pc := 28) dX11_putNumber_28 sp255 ?_
      refine S_iand (pc := 31) dX11_putNumber_31 ?_
      obtain ⟨hb3, H⟩ := H
      refine S_iast (pc := 32) dX11_putNumber_32 (sA_1 hs) (Nat.succ_pos _) hb3 ?_
      refine S_aload_n (pc := 33) dX11_putNumber_33 rfl rfl ?_
      refine S_dup (pc := 34) dX11_putNumber_34 rfl ?_
      refine S_get (pc := 35) (v := .int ((up2 f (A + 1) (f A 1).toNatClampNeg ((a1 >>> (a2 &&& 31)) &&& (nI 255))) A 1)) dX11_putNumber_35 flX11_66 (sA_0 hs) rfl ?_
      refine S_eqi (x := f A 1) ((up2_r (by omega)).trans rfl) ?_
      refine S_iconst (pc := 38) dX11_putNumber_38 ic1 ?_
      refine S_iadd (pc := 39) dX11_putNumber_39 ?_
      refine S_putI (pc := 40) dX11_putNumber_40 flX11_66 (sA_0 hs) hs.2.2.1 (nf_11_1) rfl rfl (fun _ => rfl) ?_
      refine S_iinc (pc := 43) (v := (-8)) (L' := [some (.ref A), some (.int a1), some (.int (a2 + (-8)))]) dX11_putNumber_43 rfl icm8 rfl ?_
      refine S_goto (pc := 46) (tgt := 3) dX11_putNumber_46 rfl ?_
      exact H
abbrev LpX11_end_12 (l : Launch) (G : Gx) (d : Nat) (Q : Option Value → Hp → Prop) (sh : Sh) (fR : FRt) (A p : Nat) (f : FI) (g : FL)  : Prop := WP l G (Zq G 0 0 Q) mX11_end (rmd d 0 0) 0 0 12 [some (.ref A), none] [] (sh, f, g, fR)
set_option maxHeartbeats 2000000 in
set_option maxRecDepth 4000 in
theorem VX11_end {l : Launch} {G : Gx} {d : Nat} {Q : Option Value → Hp → Prop} {sh : Sh} {fR : FRt} {A p : Nat} {f : FI} {g : FL} {a1 : Int32} (hs : StA sh fR A) (hp : fR A 5 = some p) (hn : fR (A + 40) 7 = some p) (hP : StPl sh fR p)
    (H : ((a1 < 0 → LpX11_end_12 l G d Q sh fR A p f g) ∧ (¬ a1 < 0 → ((a1 ≤ (f A 1) → Q (some (.int (nI 1))) (sh, (up2 f A 1 a1), g, fR)) ∧ (¬ a1 ≤ (f A 1) → LpX11_end_12 l G d Q sh fR A p f g))))) :
    Cl l G d 0 0 mX11_end [.ref A, .int a1] (sh, f, g, fR) Q := by
  refine Cl.of (L0 := [some (.ref A), some (.int a1)]) miX11_end rfl rfl ?_
  refine S_iload_n (pc := 0) dX11_end_0 rfl rfl ?_
  refine S_if_lt (pc := 1) (tgt := 12) dX11_end_1 rfl (fun hc1 => ?_) (fun hc1 => ?_)
  · replace H := H.1 hc1
    exact S_weak (L' := [some (.ref A), none]) (ls_e (ls_n ls_0)) H
  · replace H := H.2 hc1
    refine S_iload_n (pc := 4) dX11_end_4 rfl rfl ?_
    refine S_aload_n (pc := 5) dX11_end_5 rfl rfl ?_
    refine S_get (pc := 6) (v := .int (f A 1)) dX11_end_6 flX11_66 (sA_0 hs) rfl ?_
    refine S_icmp_le (pc := 9) (tgt := 24) dX11_end_9 rfl (fun hc2 => ?_) (fun hc2 => ?_)
    · replace H := H.1 hc2
      refine S_aload_n (pc := 24) dX11_end_24 rfl rfl ?_
      refine S_iload_n (pc := 25) dX11_end_25 rfl rfl ?_
      refine S_putI (pc := 26) dX11_end_26 flX11_66 (sA_0 hs) hs.2.2.1 (nf_11_1) rfl rfl (fun _ => rfl) ?_
      refine S_iconst (pc := 29) dX11_end_29 ic1 ?_
      exact S_zreturn dX11_end_30 rfl (Or.inr rfl) H
    · replace H := H.2 hc2
      exact S_weak (L' := [some (.ref A), none]) (ls_e (ls_n ls_0)) H
set_option maxHeartbeats 2000000 in
set_option maxRecDepth 4000 in
theorem VX11_end_12 {l : Launch} {G : Gx} {d : Nat} {Q : Option Value → Hp → Prop} {sh : Sh} {fR : FRt} {A p : Nat} {f : FI} {g : FL}  (hs : StA sh fR A) (hp : fR A 5 = some p) (hn : fR (A + 40) 7 = some p) (hP : StPl sh fR p)
    (H : Q (some (.int (nI 0))) (sh, (up2 f (A + 2) 0 ((f (A + 2) 0) + (nI 1))), g, fR)) :
    LpX11_end_12 l G d Q sh fR A p f g  := by
  refine S_aload_n (pc := 12) dX11_end_12 rfl rfl ?_
  refine S_getR (pc := 13) dX11_end_13 flX11_13 (sA_0 hs) rfl (rA_0_2 hs) ?_
  refine S_iconst (pc := 16) dX11_end_16 ic0 ?_
  refine S_dup2 (pc := 17) dX11_end_17 rfl rfl ?_
  refine S_iald (pc := 18) dX11_end_18 (sA_2 hs) (vp_in_nI (by decide) (by decide)) ?_
  show WP _ _ _ _ _ _ _ 19 _ (.int (f (A + 2) 0) :: _) _
  refine S_iconst (pc := 19) dX11_end_19 ic1 ?_
  refine S_iadd (pc := 20) dX11_end_20 ?_
  refine S_iast (pc := 21) dX11_end_21 (sA_2 hs) (Nat.succ_pos _) (vp_in_nI (by decide) (by decide)) ?_
  show WP _ _ _ _ _ _ _ 22 _ _ (sh, (up2 f (A + 2) 0 ((f (A + 2) 0) + (nI 1))), g, fR)
  refine S_iconst (pc := 22) dX11_end_22 ic0 ?_
  exact S_zreturn dX11_end_23 rfl (Or.inl rfl) H
set_option maxHeartbeats 2000000 in
set_option maxRecDepth 4000 in
theorem VX11_fault {l : Launch} {G : Gx} {d : Nat} {Q : Option Value → Hp → Prop} {sh : Sh} {fR : FRt} {A p : Nat} {f : FI} {g : FL} {a1 : Int32} (hs : StA sh fR A) (hp : fR A 5 = some p) (hn : fR (A + 40) 7 = some p) (hP : StPl sh fR p)
    (H : ((¬ a1 = 0 → ((¬ a1 = (nI 1) → Q (some (.int (-1))) (sh, f, g, fR)) ∧ (a1 = (nI 1) → (((f (A + 38) 1) = 0 → Q (some (.int (-1))) (sh, f, g, fR)) ∧ (¬ (f (A + 38) 1) = 0 → Q (some (.int (f (A + 38) 2))) (sh, f, g, fR)))))) ∧ (a1 = 0 → Q (some (.int (f (A + 38) 1))) (sh, f, g, fR)))) :
    Cl l G d 0 0 mX11_fault [.ref A, .int a1] (sh, f, g, fR) Q := by
  refine Cl.of (L0 := [some (.ref A), some (.int a1)]) miX11_fault rfl rfl ?_
  refine S_iload_n (pc := 0) dX11_fault_0 rfl rfl ?_
  refine S_if_ne (pc := 1) (tgt := 12) dX11_fault_1 rfl (fun hc1 => ?_) (fun hc1 => ?_)
  · replace H := H.1 hc1
    refine S_iload_n (pc := 12) dX11_fault_12 rfl rfl ?_
    refine S_iconst (pc := 13) dX11_fault_13 ic1 ?_
    refine S_icmp_ne (pc := 14) (tgt := 37) dX11_fault_14 rfl (fun hc2 => ?_) (fun hc2 => ?_)
    · replace H := H.1 hc2
      refine S_iconst (pc := 37) dX11_fault_37 icm1 ?_
      exact S_ireturn dX11_fault_38 rfl H
    · replace H := H.2 hc2
      refine S_aload_n (pc := 17) dX11_fault_17 rfl rfl ?_
      refine S_getR (pc := 18) dX11_fault_18 flX11_38 (sA_0 hs) rfl (rA_0_7 hs) ?_
      refine S_get (pc := 21) (v := .int (f (A + 38) 1)) dX11_fault_21 flX11_82 (sA_38 hs) rfl ?_
      refine S_if_eq (pc := 24) (tgt := 37) dX11_fault_24 rfl (fun hc3 => ?_) (fun hc3 => ?_)
      · replace H := H.1 hc3
        refine S_iconst (pc := 37) dX11_fault_37 icm1 ?_
        exact S_ireturn dX11_fault_38 rfl H
      · replace H := H.2 hc3
        refine S_aload_n (pc := 27) dX11_fault_27 rfl rfl ?_
        refine S_getR (pc := 28) dX11_fault_28 flX11_38 (sA_0 hs) rfl (rA_0_7 hs) ?_
        refine S_get (pc := 31) (v := .int (f (A + 38) 2)) dX11_fault_31 flX11_101 (sA_38 hs) rfl ?_
        refine S_goto (pc := 34) (tgt := 38) dX11_fault_34 rfl ?_
        exact S_ireturn dX11_fault_38 rfl H
  · replace H := H.2 hc1
    refine S_aload_n (pc := 4) dX11_fault_4 rfl rfl ?_
    refine S_getR (pc := 5) dX11_fault_5 flX11_38 (sA_0 hs) rfl (rA_0_7 hs) ?_
    refine S_get (pc := 8) (v := .int (f (A + 38) 1)) dX11_fault_8 flX11_82 (sA_38 hs) rfl ?_
    exact S_ireturn dX11_fault_11 rfl H
set_option maxHeartbeats 2000000 in
set_option maxRecDepth 4000 in
theorem VX11_has {l : Launch} {G : Gx} {d : Nat} {Q : Option Value → Hp → Prop} {sh : Sh} {fR : FRt} {A p : Nat} {f : FI} {g : FL} {a1 : Int32} (hs : StA sh fR A) (hp : fR A 5 = some p) (hn : fR (A + 40) 7 = some p) (hP : StPl sh fR p)
    (H : ((¬ a1 = (nI 16) → ((a1 < 0 → Q (some (.int (-1))) (sh, f, g, fR)) ∧ (¬ a1 < 0 → ((a1 ≤ (nI 16) → (((f A 4) = 0 → Q (some (.int (nI 0))) (sh, f, g, fR)) ∧ (¬ (f A 4) = 0 → Cl l G (d + 2) 0 0 mX11_countOf [.ref A, .int a1] (sh, f, g, fR) (qi sh fR fun x7 f5 g6 => Q (some (.int x7)) (sh, f5, g6, fR))))) ∧ (¬ a1 ≤ (nI 16) → Q (some (.int (-1))) (sh, f, g, fR)))))) ∧ (a1 = (nI 16) → Q (some (.int (f (A + 3) 0))) (sh, f, g, fR)))) :
    Cl l G (d + 3) 0 0 mX11_has [.ref A, .int a1] (sh, f, g, fR) Q := by
  refine Cl.of (L0 := [some (.ref A), some (.int a1)]) miX11_has rfl rfl ?_
  refine S_iload_n (pc := 0) dX11_has_0 rfl rfl ?_
  refine S_bipush (pc := 1) dX11_has_1 bp16 ?_
  refine S_icmp_ne (pc := 3) (tgt := 14) dX11_has_3 rfl (fun hc1 => ?_) (fun hc1 => ?_)
  · replace H := H.1 hc1
    refine S_iload_n (pc := 14) dX11_has_14 rfl rfl ?_
    refine S_if_lt (pc := 15) (tgt := 24) dX11_has_15 rfl (fun hc2 => ?_) (fun hc2 => ?_)
    · replace H := H.1 hc2
      refine S_iconst (pc := 24) dX11_has_24 icm1 ?_
      exact S_ireturn dX11_has_25 rfl H
    · replace H := H.2 hc2
      refine S_iload_n (pc := 18) dX11_has_18 rfl rfl ?_
      refine S_bipush (pc := 19) dX11_has_19 bp16 ?_
      refine S_icmp_le (pc := 21) (tgt := 26) dX11_has_21 rfl (fun hc3 => ?_) (fun hc3 => ?_)
      · replace H := H.1 hc3
        refine S_aload_n (pc := 26) dX11_has_26 rfl rfl ?_
        refine S_get (pc := 27) (v := .int (f A 4)) dX11_has_27 flX11_85 (sA_0 hs) rfl ?_
        refine S_if_eq (pc := 30) (tgt := 41) dX11_has_30 rfl (fun hc4 => ?_) (fun hc4 => ?_)
        · replace H := H.1 hc4
          refine S_iconst (pc := 41) dX11_has_41 ic0 ?_
          exact S_ireturn dX11_has_42 rfl H
        · replace H := H.2 hc4
          refine S_aload_n (pc := 33) dX11_has_33 rfl rfl ?_
          refine S_iload_n (pc := 34) dX11_has_34 rfl rfl ?_
          refine S_callV (As := [.int a1]) (mc := 0) (ms := 0) (pc := 35) dX11_has_35 miX11_countOf mvX11_countOf mlX11_107 rfl (sA_0 hs) rfl rfl rfl (RmOK.of rfl) H ?_
          rintro _ _ ⟨x7, f5, g6, rfl, rfl, H⟩
          show WP _ _ _ _ _ _ _ 38 [some (.ref A), some (.int a1)] [.int x7] (sh, f5, g6, fR)
          refine S_goto (pc := 38) (tgt := 42) dX11_has_38 rfl ?_
          exact S_ireturn dX11_has_42 rfl H
      · replace H := H.2 hc3
        refine S_iconst (pc := 24) dX11_has_24 icm1 ?_
        exact S_ireturn dX11_has_25 rfl H
  · replace H := H.2 hc1
    refine S_aload_n (pc := 6) dX11_has_6 rfl rfl ?_
    refine S_getR (pc := 7) dX11_has_7 flX11_19 (sA_0 hs) rfl (rA_0_3 hs) ?_
    refine S_get (pc := 10) (v := .int (f (A + 3) 0)) dX11_has_10 flX11_104 (sA_3 hs) rfl ?_
    exact S_ireturn dX11_has_13 rfl H
