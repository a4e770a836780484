set_option maxHeartbeats 2000000 in
set_option maxRecDepth 4000 in
theorem VX11_delaysF {l : Launch} {G : Gx} {d : Nat} {Q : Option Value → Hp → Prop} {sh : Sh} {fR : FRt} {A p : Nat} {f : FI} {g : FL} {a1 : Int32} (hs : StA sh fR A) (hp : fR A 5 = some p) (hn : fR (A + 40) 7 = some p) (hP : StPl sh fR p)
    (H : Cl l G (d + 6) 0 0 mX11_isPath [.ref A, .int a1] (sh, f, g, fR) (qi sh fR fun x3 f1 g2 => ((¬ x3 = 0 → Cl l G (d + 6) 0 0 mX11_lastMetTick [.ref A] (sh, f1, g2, fR) (qi sh fR fun x7 f5 g6 => Cl l G (d + 6) 0 0 mX11_ticksComing [.ref A, .int x7] (sh, f5, g6, fR) (qi sh fR fun x10 f8 g9 => Cl l G (d + 6) 0 0 mX11_foresee [.ref A, .int a1, .int x10] (sh, f8, g9, fR) (qv sh (up2 fR (A + 72) 7 (some p)) fun f13 g14 => Cl l G (d + 6) 0 0 mX11_delaysLeft [.ref A, .int x10] (sh, f13, g14, (up2 fR (A + 72) 7 (some p))) (qi sh (up2 fR (A + 72) 7 (some p)) fun x17 f15 g16 => Q (some (.int x17)) (sh, f15, g16, (up2 fR (A + 72) 7 (some p)))))))) ∧ (x3 = 0 → Q (some (.int (-1))) (sh, f1, g2, fR))))) :
    Cl l G (d + 7) 0 0 mX11_delays [.ref A, .int a1] (sh, f, g, fR) Q := by
  refine Cl.of (L0 := [some (.ref A), some (.int a1), none]) miX11_delays rfl rfl ?_
  refine S_aload_n (pc := 0) dX11_delays_0 rfl rfl ?_
  refine S_iload_n (pc := 1) dX11_delays_1 rfl rfl ?_
  refine S_callV (As := [.int a1]) (mc := 0) (ms := 0) (pc := 2) dX11_delays_2 miX11_isPath mvX11_isPath mlX11_175 rfl (sA_0 hs) rfl rfl rfl (RmOK.of rfl) H ?_
  rintro _ _ ⟨x3, f1, g2, rfl, rfl, H⟩
  show WP _ _ _ _ _ _ _ 5 [some (.ref A), some (.int a1), none] [.int x3] (sh, f1, g2, fR)
  refine S_if_ne (pc := 5) (tgt := 10) dX11_delays_5 rfl (fun hc4 => ?_) (fun hc4 => ?_)
  · replace H := H.1 hc4
    refine S_aload_n (pc := 10) dX11_delays_10 rfl rfl ?_
    refine S_aload_n (pc := 11) dX11_delays_11 rfl rfl ?_
    refine S_callV (As := []) (mc := 0) (ms := 0) (pc := 12) dX11_delays_12 miX11_lastMetTick mvX11_lastMetTick mlX11_293 rfl (sA_0 hs) rfl rfl rfl (RmOK.of rfl) H ?_
    rintro _ _ ⟨x7, f5, g6, rfl, rfl, H⟩
    show WP _ _ _ _ _ _ _ 15 [some (.ref A), some (.int a1), none] [.int x7, .ref A] (sh, f5, g6, fR)
    refine S_callV (As := [.int x7]) (mc := 0) (ms := 0) (pc := 15) dX11_delays_15 miX11_ticksComing mvX11_ticksComing mlX11_296 rfl (sA_0 hs) rfl rfl rfl (RmOK.of rfl) H ?_
    rintro _ _ ⟨x10, f8, g9, rfl, rfl, H⟩
    show WP _ _ _ _ _ _ _ 18 [some (.ref A), some (.int a1), none] [.int x10] (sh, f8, g9, fR)
    refine S_istore_n (pc := 18) (L' := [some (.ref A), some (.int a1), some (.int x10)]) dX11_delays_18 rfl (by decide) rfl ?_
    refine S_aload_n (pc := 19) dX11_delays_19 rfl rfl ?_
    refine S_iload_n (pc := 20) dX11_delays_20 rfl rfl ?_
    refine S_iload_n (pc := 21) dX11_delays_21 rfl rfl ?_
    refine S_callV (As := [.int a1, .int x10]) (mc := 0) (ms := 0) (pc := 22) dX11_delays_22 miX11_foresee mvX11_foresee mlX11_299 rfl (sA_0 hs) rfl rfl rfl (RmOK.of rfl) H ?_
    rintro _ _ ⟨f13, g14, rfl, rfl, H⟩
    show WP _ _ _ _ _ _ _ 25 [some (.ref A), some (.int a1), some (.int x10)] [] (sh, f13, g14, (up2 fR (A + 72) 7 (some p)))
    refine S_aload_n (pc := 25) dX11_delays_25 rfl rfl ?_
    refine S_iload_n (pc := 26) dX11_delays_26 rfl rfl ?_
    refine S_callV (As := [.int x10]) (mc := 0) (ms := 0) (pc := 27) dX11_delays_27 miX11_delaysLeft mvX11_delaysLeft mlX11_303 rfl (sA_0 hs) rfl rfl rfl (RmOK.of rfl) H ?_
    rintro _ _ ⟨x17, f15, g16, rfl, rfl, H⟩
    show WP _ _ _ _ _ _ _ 30 [some (.ref A), some (.int a1), some (.int x10)] [.int x17] (sh, f15, g16, (up2 fR (A + 72) 7 (some p)))
    exact S_ireturn dX11_delays_30 rfl H
  · replace H := H.2 hc4
    refine S_iconst (pc := 8) dX11_delays_8 icm1 ?_
    exact S_ireturn dX11_delays_9 rfl H
abbrev LpX11_tellsF_75 (l : Launch) (G : Gx) (d : Nat) (Q : Option Value → Hp → Prop) (sh : Sh) (fR : FRt) (A p : Nat) (f : FI) (g : FL) (a2 : Int32) (a3 : Int32) (a4 : Int32) (a5 : Int32) (a6 : Int32) (a7 : Int32) : Prop := WP l G (Zq G 0 0 Q) mX11_tells (rmd (d + 7) 0 0) 0 0 75 [some (.ref A), none, some (.int a2), some (.int a3), some (.int a4), some (.int a5), some (.int a6), some (.int a7), none] [] (sh, f, g, fR)
abbrev LpX11_tellsF_110 (l : Launch) (G : Gx) (d : Nat) (Q : Option Value → Hp → Prop) (sh : Sh) (fR : FRt) (A p : Nat) (f : FI) (g : FL) (a2 : Int32) (a3 : Int32) (a4 : Int32) (a5 : Int32) (a6 : Int32) (a7 : Int32) : Prop := WP l G (Zq G 0 0 Q) mX11_tells (rmd (d + 7) 0 0) 0 0 110 [some (.ref A), none, some (.int a2), some (.int a3), some (.int a4), some (.int a5), some (.int a6), some (.int a7), none] [] (sh, f, g, fR)
set_option maxHeartbeats 2000000 in
set_option maxRecDepth 4000 in
theorem VX11_tellsF {l : Launch} {G : Gx} {d : Nat} {Q : Option Value → Hp → Prop} {sh : Sh} {fR : FRt} {A p : Nat} {f : FI} {g : FL} {a1 : Int32} {a2 : Int32} (hs : StA sh fR A) (hp : fR A 5 = some p) (hn : fR (A + 40) 7 = some p) (hP : StPl sh fR p)
    (H : Cl l G (d + 6) 0 0 mX11_isPath [.ref A, .int a1] (sh, f, g, fR) (qi sh fR fun x3 f1 g2 => ((x3 = 0 → Q (some (.int (-1))) (sh, f1, g2, fR)) ∧ (¬ x3 = 0 → ((a2 < 0 → Q (some (.int (-1))) (sh, f1, g2, fR)) ∧ (¬ a2 < 0 → (((nI 2) < a2 → Q (some (.int (-1))) (sh, f1, g2, fR)) ∧ (¬ (nI 2) < a2 → (((f1 (A + 40) 8) < (nI 999) → Cl l G (d + 6) 0 0 mX11_ticksComing [.ref A, .int (nI 60)] (sh, f1, g2, fR) (qi sh fR fun x10 f8 g9 => Cl l G (d + 6) 0 0 mX11_foresee [.ref A, .int a1, .int x10] (sh, f8, g9, fR) (qv sh (up2 fR (A + 72) 7 (some p)) fun f13 g14 => Cl l G (d + 6) 0 0 mX11_delaysLeft [.ref A, .int x10] (sh, f13, g14, (up2 fR (A + 72) 7 (some p))) (qi sh (up2 fR (A + 72) 7 (some p)) fun x17 f15 g16 => ((¬ x17 = 0 → Cl l G (d + 6) 0 0 mX11_mostAlike [.ref A, .int x17, .int (nI 2)] (sh, f15, g16, (up2 fR (A + 72) 7 (some p))) (qi sh (up2 fR (A + 72) 7 (some p)) fun x21 f19 g20 => LpX11_tellsF_75 l G d Q sh (up2 fR (A + 72) 7 (some p)) A p f19 g20 a2 x10 x17 (nI 2) x21 (nI 3))) ∧ (x17 = 0 → Q (some (.int (-1))) (sh, f15, g16, (up2 fR (A + 72) 7 (some p))))))))) ∧ (¬ (f1 (A + 40) 8) < (nI 999) → Q (some (.int (-1))) (sh, f1, g2, fR))))))))))) :
    Cl l G (d + 7) 0 0 mX11_tells [.ref A, .int a1, .int a2] (sh, f, g, fR) Q := by
  refine Cl.of (L0 := [some (.ref A), some (.int a1), some (.int a2), none, none, none, none, none, none]) miX11_tells rfl rfl ?_
  refine S_aload_n (pc := 0) dX11_tells_0 rfl rfl ?_
  refine S_iload_n (pc := 1) dX11_tells_1 rfl rfl ?_
  refine S_callV (As := [.int a1]) (mc := 0) (ms := 0) (pc := 2) dX11_tells_2 miX11_isPath mvX11_isPath mlX11_175 rfl (sA_0 hs) rfl rfl rfl (RmOK.of rfl) H ?_
  rintro _ _ ⟨x3, f1, g2, rfl, rfl, H⟩
  show WP _ _ _ _ _ _ _ 5 [some (.ref A), some (.int a1), some (.int a2), none, none, none, none, none, none] [.int x3] (sh, f1, g2, fR)
  refine S_if_eq (pc := 5) (tgt := 30) dX11_tells_5 rfl (fun hc4 => ?_) (fun hc4 => ?_)
  · replace H := H.1 hc4
    refine S_iconst (pc := 30) dX11_tells_30 icm1 ?_
    exact S_ireturn dX11_tells_31 rfl H
  · replace H := H.2 hc4
    refine S_iload_n (pc := 8) dX11_tells_8 rfl rfl ?_
    refine S_if_lt (pc := 9) (tgt := 30) dX11_tells_9 rfl (fun hc5 => ?_) (fun hc5 => ?_)
    · replace H := H.1 hc5
      refine S_iconst (pc := 30) dX11_tells_30 icm1 ?_
      exact S_ireturn dX11_tells_31 rfl H
    · replace H := H.2 hc5
      refine S_iload_n (pc := 12) dX11_tells_12 rfl rfl ?_
      refine S_iconst (pc := 13) dX11_tells_13 ic2 ?_
      refine S_icmp_gt (pc := 14) (tgt := 30) dX11_tells_14 rfl (fun hc6 => ?_) (fun hc6 => ?_)
      · replace H := H.1 hc6
        refine S_iconst (pc := 30) dX11_tells_30 icm1 ?_
        exact S_ireturn dX11_tells_31 rfl H
      · replace H := H.2 hc6
        refine S_aload_n (pc := 17) dX11_tells_17 rfl rfl ?_
        refine S_getR (pc := 18) dX11_tells_18 flX11_47 (sA_0 hs) rfl (rA_0_8 hs) ?_
        refine S_get (pc := 21) (v := .int (f1 (A + 40) 8)) dX11_tells_21 flX11_120 (sW_0 hs.2.2.2.1) rfl ?_
        refine S_sipush (pc := 24) dX11_tells_24 sp999 ?_
        refine S_icmp_lt (pc := 27) (tgt := 32) dX11_tells_27 rfl (fun hc7 => ?_) (fun hc7 => ?_)
        · replace H := H.1 hc7
          refine S_aload_n (pc := 32) dX11_tells_32 rfl rfl ?_
          refine S_bipush (pc := 33) dX11_tells_33 bp60 ?_
          refine S_callV (As := [.int (nI 60)]) (mc := 0) (ms := 0) (pc := 35) dX11_tells_35 miX11_ticksComing mvX11_ticksComing mlX11_296 rfl (sA_0 hs) rfl rfl rfl (RmOK.of rfl) H ?_
          rintro _ _ ⟨x10, f8, g9, rfl, rfl, H⟩
          show WP _ _ _ _ _ _ _ 38 [some (.ref A), some (.int a1), some (.int a2), none, none, none, none, none, none] [.int x10] (sh, f8, g9, fR)
          refine S_istore_n (pc := 38) (L' := [some (.ref A), some (.int a1), some (.int a2), some (.int x10), none, none, none, none, none]) dX11_tells_38 rfl (by decide) rfl ?_
          refine S_aload_n (pc := 39) dX11_tells_39 rfl rfl ?_
          refine S_iload_n (pc := 40) dX11_tells_40 rfl rfl ?_
          refine S_iload_n (pc := 41) dX11_tells_41 rfl rfl ?_
          refine S_callV (As := [.int a1, .int x10]) (mc := 0) (ms := 0) (pc := 42) dX11_tells_42 miX11_foresee mvX11_foresee mlX11_299 rfl (sA_0 hs) rfl rfl rfl (RmOK.of rfl) H ?_
          rintro _ _ ⟨f13, g14, rfl, rfl, H⟩
          show WP _ _ _ _ _ _ _ 45 [some (.ref A), some (.int a1), some (.int a2), some (.int x10), none, none, none, none, none] [] (sh, f13, g14, (up2 fR (A + 72) 7 (some p)))
          refine S_aload_n (pc := 45) dX11_tells_45 rfl rfl ?_
          refine S_iload_n (pc := 46) dX11_tells_46 rfl rfl ?_
          refine S_callV (As := [.int x10]) (mc := 0) (ms := 0) (pc := 47) dX11_tells_47 miX11_delaysLeft mvX11_delaysLeft mlX11_303 rfl (sA_0 hs) rfl rfl rfl (RmOK.of rfl) H ?_
          rintro _ _ ⟨x17, f15, g16, rfl, rfl, H⟩
          show WP _ _ _ _ _ _ _ 50 [some (.ref A), some (.int a1), some (.int a2), some (.int x10), none, none, none, none, none] [.int x17] (sh, f15, g16, (up2 fR (A + 72) 7 (some p)))
          refine S_istore (pc := 50) (L' := [some (.ref A), some (.int a1), some (.int a2), some (.int x10), some (.int x17), none, none, none, none]) dX11_tells_50 (by decide) rfl ?_
          refine S_iload (pc := 52) dX11_tells_52 rfl ?_
          refine S_if_ne (pc := 54) (tgt := 59) dX11_tells_54 rfl (fun hc18 => ?_) (fun hc18 => ?_)
          · replace H := H.1 hc18
            refine S_iconst (pc := 59) dX11_tells_59 ic2 ?_
            refine S_istore (pc := 60) (L' := [some (.ref A), some (.int a1), some (.int a2), some (.int x10), some (.int x17), some (.int (nI 2)), none, none, none]) dX11_tells_60 (by decide) rfl ?_
            refine S_aload_n (pc := 62) dX11_tells_62 rfl rfl ?_
            refine S_iload (pc := 63) dX11_tells_63 rfl ?_
            refine S_iload (pc := 65) dX11_tells_65 rfl ?_
            refine S_callV (As := [.int x17, .int (nI 2)]) (mc := 0) (ms := 0) (pc := 67) dX11_tells_67 miX11_mostAlike mvX11_mostAlike mlX11_318 rfl (sA_0 hs) rfl rfl rfl (RmOK.of rfl) H ?_
            rintro _ _ ⟨x21, f19, g20, rfl, rfl, H⟩
            show WP _ _ _ _ _ _ _ 70 [some (.ref A), some (.int a1), some (.int a2), some (.int x10), some (.int x17), some (.int (nI 2)), none, none, none] [.int x21] (sh, f19, g20, (up2 fR (A + 72) 7 (some p)))
            refine S_istore (pc := 70) (L' := [some (.ref A), some (.int a1), some (.int a2), some (.int x10), some (.int x17), some (.int (nI 2)), some (.int x21), none, none]) dX11_tells_70 (by decide) rfl ?_
            refine S_iconst (pc := 72) dX11_tells_72 ic3 ?_
            refine S_istore (pc := 73) (L' := [some (.ref A), some (.int a1), some (.int a2), some (.int x10), some (.int x17), some (.int (nI 2)), some (.int x21), some (.int (nI 3)), none]) dX11_tells_73 (by decide) rfl ?_
            exact S_weak (L' := [some (.ref A), none, some (.int a2), some (.int x10), some (.int x17), some (.int (nI 2)), some (.int x21), some (.int (nI 3)), none]) (ls_e (ls_n (ls_e (ls_e (ls_e (ls_e (ls_e (ls_e (ls_e ls_0))))))))) H
          · replace H := H.2 hc18
            refine S_iconst (pc := 57) dX11_tells_57 icm1 ?_
            exact S_ireturn dX11_tells_58 rfl H
        · replace H := H.2 hc7
          refine S_iconst (pc := 30) dX11_tells_30 icm1 ?_
          exact S_ireturn dX11_tells_31 rfl H
set_option maxHeartbeats 2000000 in
set_option maxRecDepth 4000 in
theorem VX11_tellsF_75 {l : Launch} {G : Gx} {d : Nat} {Q : Option Value → Hp → Prop} {sh : Sh} {fR : FRt} {A p : Nat} {f : FI} {g : FL} {a2 : Int32} {a3 : Int32} {a4 : Int32} {a5 : Int32} {a6 : Int32} {a7 : Int32} (hs : StA sh fR A) (hp : fR A 5 = some p) (hn : fR (A + 40) 7 = some p) (hP : StPl sh fR p)
    (H : ((((nI 2) * (a3 + (nI 1))) ≤ a7 → ((a2 = nI 0 → Q (some (.int (a5 / (nI 2)))) (sh, f, g, fR)) ∧ (a2 = nI 1 → Q (some (.int (a5 - a5 / (nI 2) * (nI 2)))) (sh, f, g, fR)) ∧ ((¬ a2 = nI 0 ∧ ¬ a2 = nI 1) → Q (some (.int a6)) (sh, f, g, fR)))) ∧ (¬ ((nI 2) * (a3 + (nI 1))) ≤ a7 → Cl l G (d + 6) 0 0 mX11_mostAlike [.ref A, .int a4, .int a7] (sh, f, g, fR) (qi sh fR fun x27 f25 g26 => ((a6 ≤ x27 → LpX11_tellsF_110 l G d Q sh fR A p f25 g26 a2 a3 a4 a5 a6 a7) ∧ (¬ a6 ≤ x27 → LpX11_tellsF_110 l G d Q sh fR A p f25 g26 a2 a3 a4 a7 x27 a7)))))) :
    LpX11_tellsF_75 l G d Q sh fR A p f g a2 a3 a4 a5 a6 a7 := by
  refine S_iload (pc := 75) dX11_tells_75 rfl ?_
  refine S_iconst (pc := 77) dX11_tells_77 ic2 ?_
  refine S_iload_n (pc := 78) dX11_tells_78 rfl rfl ?_
  refine S_iconst (pc := 79) dX11_tells_79 ic1 ?_
  refine S_iadd (pc := 80) dX11_tells_80 ?_
  refine S_imul (pc := 81) dX11_tells_81 ?_
  refine S_icmp_ge (pc := 82) (tgt := 116) dX11_tells_82 rfl (fun hc22 => ?_) (fun hc22 => ?_)
  · replace H := H.1 hc22
    refine S_iload_n (pc := 116) dX11_tells_116 rfl rfl ?_
    by_cases hc23 : a2 = nI 0
    · replace H := H.1 hc23
      refine S_lsw (pc := 117) (tgt := 144) dX11_tells_117 (by decide) (off := 27) (by rw [hc23]; decide) rfl ?_
      refine S_iload (pc := 144) dX11_tells_144 rfl ?_
      refine S_iconst (pc := 146) dX11_tells_146 ic2 ?_
      refine S_idiv (pc := 147) dX11_tells_147 (by decide) ?_
      exact S_ireturn dX11_tells_148 rfl H
    · by_cases hc24 : a2 = nI 1
      · replace H := H.2.1 hc24
        refine S_lsw (pc := 117) (tgt := 149) dX11_tells_117 (by decide) (off := 32) (by rw [hc24]; decide) rfl ?_
        refine S_iload (pc := 149) dX11_tells_149 rfl ?_
        refine S_iconst (pc := 151) dX11_tells_151 ic2 ?_
        refine S_irem (pc := 152) dX11_tells_152 (by decide) ?_
        exact S_ireturn dX11_tells_153 rfl H
      · replace H := H.2.2 ⟨hc23, hc24⟩
        refine S_lsw (pc := 117) (tgt := 154) dX11_tells_117 (by decide) (off := 37) ((lv_osw hc23 (by decide)).trans ((lv_osw hc24 (by decide)).trans (rfl))) rfl ?_
        refine S_iload (pc := 154) dX11_tells_154 rfl ?_
        exact S_ireturn dX11_tells_156 rfl H
  · replace H := H.2 hc22
    refine S_aload_n (pc := 85) dX11_tells_85 rfl rfl ?_
    refine S_iload (pc := 86) dX11_tells_86 rfl ?_
    refine S_iload (pc := 88) dX11_tells_88 rfl ?_
    refine S_callV (As := [.int a4, .int a7]) (mc := 0) (ms := 0) (pc := 90) dX11_tells_90 miX11_mostAlike mvX11_mostAlike mlX11_318 rfl (sA_0 hs) rfl rfl rfl (RmOK.of rfl) H ?_
    rintro _ _ ⟨x27, f25, g26, rfl, rfl, H⟩
    show WP _ _ _ _ _ _ _ 93 [some (.ref A), none, some (.int a2), some (.int a3), some (.int a4), some (.int a5), some (.int a6), some (.int a7), none] [.int x27] (sh, f25, g26, fR)
    refine S_istore (pc := 93) (L' := [some (.ref A), none, some (.int a2), some (.int a3), some (.int a4), some (.int a5), some (.int a6), some (.int a7), some (.int x27)]) dX11_tells_93 (by decide) rfl ?_
    refine S_iload (pc := 95) dX11_tells_95 rfl ?_
    refine S_iload (pc := 97) dX11_tells_97 rfl ?_
    refine S_icmp_ge (pc := 99) (tgt := 110) dX11_tells_99 rfl (fun hc28 => ?_) (fun hc28 => ?_)
    · replace H := H.1 hc28
      exact S_weak (L' := [some (.ref A), none, some (.int a2), some (.int a3), some (.int a4), some (.int a5), some (.int a6), some (.int a7), none]) (ls_e (ls_e (ls_e (ls_e (ls_e (ls_e (ls_e (ls_e (ls_n ls_0))))))))) H
    · replace H := H.2 hc28
      refine S_iload (pc := 102) dX11_tells_102 rfl ?_
      refine S_istore (pc := 104) (L' := [some (.ref A), none, some (.int a2), some (.int a3), some (.int a4), some (.int a5), some (.int x27), some (.int a7), some (.int x27)]) dX11_tells_104 (by decide) rfl ?_
      refine S_iload (pc := 106) dX11_tells_106 rfl ?_
      refine S_istore (pc := 108) (L' := [some (.ref A), none, some (.int a2), some (.int a3), some (.int a4), some (.int a7), some (.int x27), some (.int a7), some (.int x27)]) dX11_tells_108 (by decide) rfl ?_
      exact S_weak (L' := [some (.ref A), none, some (.int a2), some (.int a3), some (.int a4), some (.int a7), some (.int x27), some (.int a7), none]) (ls_e (ls_e (ls_e (ls_e (ls_e (ls_e (ls_e (ls_e (ls_n ls_0))))))))) H
set_option maxHeartbeats 2000000 in
set_option maxRecDepth 4000 in
theorem VX11_tellsF_110 {l : Launch} {G : Gx} {d : Nat} {Q : Option Value → Hp → Prop} {sh : Sh} {fR : FRt} {A p : Nat} {f : FI} {g : FL} {a2 : Int32} {a3 : Int32} {a4 : Int32} {a5 : Int32} {a6 : Int32} {a7 : Int32} (hs : StA sh fR A) (hp : fR A 5 = some p) (hn : fR (A + 40) 7 = some p) (hP : StPl sh fR p)
    (H : LpX11_tellsF_75 l G d Q sh fR A p f g a2 a3 a4 a5 a6 (a7 + nI 1)) :
    LpX11_tellsF_110 l G d Q sh fR A p f g a2 a3 a4 a5 a6 a7 := by
  refine S_iinc (pc := 110) (v := nI 1) (L' := [some (.ref A), none, some (.int a2), some (.int a3), some (.int a4), some (.int a5), some (.int a6), some (.int (a7 + nI 1)), none]) dX11_tells_110 rfl ic1 rfl ?_
  refine S_goto (pc := 113) (tgt := 75) dX11_tells_113 rfl ?_
  exact H
