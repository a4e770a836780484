set_option maxHeartbeats 2000000 in
set_option maxRecDepth 4000 in
theorem VX11_stream {l : Launch} {G : Gx} {d : Nat} {Q : Option Value → Hp → Prop} {sh : Sh} {fR : FRt} {A p v : Nat} {f : FI} {g : FL}  (hs : StA sh fR A) (hp : fR A 5 = some p) (hv : fR A 6 = some v) (hn : fR (A + 40) 7 = some p) (hP : StPl sh fR p) (hV : StPl sh fR v)
    (H : Cl l G (d + 13) 0 0 mX9_readText [.ref (A + 38), .int (f A 1), .ref v] (sh, f, g, fR) (qn sh (up2 fR (A + 38) 6 (some v)) (A + 38) fun q5 f3 g4 => (((f3 (A + 38) 1) = 0 → Cl l G (d + 13) 0 0 mX10_begin [.ref (A + 40), .ref v] (sh, (up2 (up2 f3 A 1 (nI 0)) A 4 (nI 1)), g4, (up2 (up2 (up2 (up2 fR (A + 38) 6 (some v)) (A + 38) 7 (some q5)) A 6 (some p)) A 5 (some v))) (qv sh (up2 (up2 (up2 (up2 (up2 fR (A + 38) 6 (some v)) (A + 38) 7 (some q5)) A 6 (some p)) A 5 (some v)) (A + 40) 7 (some v)) fun f10 g11 => Q (some (.int (f10 v 0))) (sh, (up2 (up2 f10 A 14 (nI 0)) A 12 (nI 0)), g11, (up2 (up2 (up2 (up2 (up2 fR (A + 38) 6 (some v)) (A + 38) 7 (some q5)) A 6 (some p)) A 5 (some v)) (A + 40) 7 (some v))))) ∧ (¬ (f3 (A + 38) 1) = 0 → Q (some (.int (-1))) (sh, (up2 (up2 f3 A 1 (nI 0)) (A + 2) 1 ((f3 (A + 2) 1) + (nI 1))), g4, (up2 (up2 fR (A + 38) 6 (some v)) (A + 38) 7 (some q5))))))) :
    Cl l G (d + 14) 0 0 mX11_stream [.ref A] (sh, f, g, fR) Q := by
  refine Cl.of (L0 := [some (.ref A), none]) miX11_stream rfl rfl ?_
  refine S_aload_n (pc := 0) dX11_stream_0 rfl rfl ?_
  refine S_getR (pc := 1) dX11_stream_1 flX11_38 (sA_0 hs) rfl (rA_0_7 hs) ?_
  refine S_aload_n (pc := 4) dX11_stream_4 rfl rfl ?_
  refine S_get (pc := 5) (v := .int (f A 1)) dX11_stream_5 flX11_66 (sA_0 hs) rfl ?_
  refine S_aload_n (pc := 8) dX11_stream_8 rfl rfl ?_
  refine S_getR (pc := 9) dX11_stream_9 flX11_30 (sA_0 hs) rfl hv ?_
  refine S_callV (As := [.int (f A 1), .ref v]) (mc := 0) (ms := 0) (pc := 12) dX11_stream_12 miX9_readText mvX9_readText mlX11_78 rfl (sA_38 hs) rfl rfl rfl (RmOK.of rfl) H ?_
  rintro _ _ ⟨q5, f3, g4, rfl, rfl, hq6, H⟩
  show WP _ _ _ _ _ _ _ 15 [some (.ref A), none] [] (sh, f3, g4, (up2 (up2 fR (A + 38) 6 (some v)) (A + 38) 7 (some q5)))
  refine S_aload_n (pc := 15) dX11_stream_15 rfl rfl ?_
  refine S_iconst (pc := 16) dX11_stream_16 ic0 ?_
  refine S_putI (pc := 17) dX11_stream_17 flX11_66 (sA_0 hs) hs.2.2.1 (nf_11_1) rfl rfl (fun _ => rfl) ?_
  refine S_aload_n (pc := 20) dX11_stream_20 rfl rfl ?_
  refine S_getR (pc := 21) dX11_stream_21 flX11_38 (sA_0 hs) rfl ((up2_ne (fun z => ne_sh (sA_0 hs) (sA_38 hs) (by decide) z.1)).trans ((up2_ne (by simp)).trans (rA_0_7 hs))) ?_
  refine S_get (pc := 24) (v := .int ((up2 f3 A 1 (nI 0)) (A + 38) 1)) dX11_stream_24 flX11_82 (sA_38 hs) rfl ?_
  refine S_eqi (x := f3 (A + 38) 1) ((up2_r (by omega)).trans rfl) ?_
  refine S_if_eq (pc := 27) (tgt := 36) dX11_stream_27 rfl (fun hc7 => ?_) (fun hc7 => ?_)
  · replace H := H.1 hc7
    refine S_aload_n (pc := 36) dX11_stream_36 rfl rfl ?_
    refine S_getR (pc := 37) dX11_stream_37 flX11_30 (sA_0 hs) rfl ((up2_ne (by simp)).trans ((up2_ne (fun z => ne_sh (sA_0 hs) (sA_38 hs) (by decide) z.1)).trans hv)) ?_
    refine S_astore_n (pc := 40) (L' := [some (.ref A), some (.ref v)]) dX11_stream_40 rfl (by decide) rfl ?_
    refine S_aload_n (pc := 41) dX11_stream_41 rfl rfl ?_
    refine S_aload_n (pc := 42) dX11_stream_42 rfl rfl ?_
    refine S_getR (pc := 43) dX11_stream_43 flX11_26 (sA_0 hs) rfl ((up2_ne (by simp)).trans ((up2_ne (by simp)).trans hp)) ?_
    refine S_putR (pc := 46) dX11_stream_46 flX11_30 (sA_0 hs) hs.2.2.1 (nf_11_6) (fun _ => rfl) (fun _ => rfl) (fun _ => rfl) ?_
    refine S_aload_n (pc := 49) dX11_stream_49 rfl rfl ?_
    refine S_aload_n (pc := 50) dX11_stream_50 rfl rfl ?_
    refine S_putR (pc := 51) dX11_stream_51 flX11_26 (sA_0 hs) hs.2.2.1 (nf_11_5) (fun _ => rfl) (fun _ => rfl) (fun _ => rfl) ?_
    refine S_aload_n (pc := 54) dX11_stream_54 rfl rfl ?_
    refine S_iconst (pc := 55) dX11_stream_55 ic1 ?_
    refine S_putI (pc := 56) dX11_stream_56 flX11_85 (sA_0 hs) hs.2.2.1 (nf_11_4) nb1 rfl (fun _ => rfl) ?_
    refine S_aload_n (pc := 59) dX11_stream_59 rfl rfl ?_
    refine S_getR (pc := 60) dX11_stream_60 flX11_47 (sA_0 hs) rfl ((up2_ne (by simp)).trans ((up2_ne (by simp)).trans ((up2_ne (by simp)).trans ((up2_ne (by simp)).trans (rA_0_8 hs))))) ?_
    refine S_aload_n (pc := 63) dX11_stream_63 rfl rfl ?_
    refine S_getR (pc := 64) dX11_stream_64 flX11_26 (sA_0 hs) rfl up2_eq ?_
    refine S_callV (As := [.ref v]) (mc := 0) (ms := 0) (pc := 67) dX11_stream_67 miX10_begin mvX10_begin mlX11_89 rfl (sW_0 hs.2.2.2.1) rfl rfl rfl (RmOK.of rfl) H ?_
    rintro _ _ ⟨f10, g11, rfl, rfl, H⟩
    show WP _ _ _ _ _ _ _ 70 [some (.ref A), some (.ref v)] [] (sh, f10, g11, (up2 (up2 (up2 (up2 (up2 fR (A + 38) 6 (some v)) (A + 38) 7 (some q5)) A 6 (some p)) A 5 (some v)) (A + 40) 7 (some v)))
    refine S_aload_n (pc := 70) dX11_stream_70 rfl rfl ?_
    refine S_iconst (pc := 71) dX11_stream_71 ic0 ?_
    refine S_putI (pc := 72) dX11_stream_72 flX11_92 (sA_0 hs) hs.2.2.1 (nf_11_14) rfl rfl (fun _ => rfl) ?_
    refine S_aload_n (pc := 75) dX11_stream_75 rfl rfl ?_
    refine S_iconst (pc := 76) dX11_stream_76 ic0 ?_
    refine S_putI (pc := 77) dX11_stream_77 flX11_95 (sA_0 hs) hs.2.2.1 (nf_11_12) rfl rfl (fun _ => rfl) ?_
    refine S_aload_n (pc := 80) dX11_stream_80 rfl rfl ?_
    refine S_getR (pc := 81) dX11_stream_81 flX11_26 (sA_0 hs) rfl ((up2_ne (by simp)).trans up2_eq) ?_
    refine S_get (pc := 84) (v := .int ((up2 (up2 f10 A 14 (nI 0)) A 12 (nI 0)) v 0)) dX11_stream_84 flX11_98 (sL_0 hV) rfl ?_
    refine S_eqi (x := f10 v 0) ((up2_r (ne_sh (sL_0 hV) (sA_0 hs) (by decide))).trans ((up2_r (ne_sh (sL_0 hV) (sA_0 hs) (by decide))).trans rfl)) ?_
    exact S_ireturn dX11_stream_87 rfl H
  · replace H := H.2 hc7
    refine S_aload_n (pc := 30) dX11_stream_30 rfl rfl ?_
    refine S_iconst (pc := 31) dX11_stream_31 ic1 ?_
    refine S_callV (As := [.int (nI 1)]) (mc := 0) (ms := 0) (pc := 32) dX11_stream_32 miX11_refuse mvX11_refuse mlX11_70 rfl (sA_0 hs) rfl rfl rfl (RmOK.of rfl) (Q := fun r h => WP _ _ _ _ _ _ _ 35 [some (.ref A), none] (r.toList ++ []) h) (Cl.of miX11_refuse rfl rfl ?_) (fun _ _ q => q)
    refine S_aload_n (pc := 0) dX11_refuse_0 rfl rfl ?_
    refine S_getR (pc := 1) dX11_refuse_1 flX11_13 (sA_0 hs) rfl ((up2_ne (by simp)).trans ((up2_ne (by simp)).trans (rA_0_2 hs))) ?_
    refine S_iload_n (pc := 4) dX11_refuse_4 rfl rfl ?_
    refine S_dup2 (pc := 5) dX11_refuse_5 rfl rfl ?_
    refine S_iald (pc := 6) dX11_refuse_6 (sA_2 hs) (vp_in_nI (by decide) (by decide)) ?_
    show WP _ _ _ _ _ _ _ 7 _ (.int ((up2 f3 A 1 (nI 0)) (A + 2) 1) :: _) _
    refine S_eqi (x := f3 (A + 2) 1) ((up2_r (by omega)).trans rfl) ?_
    refine S_iconst (pc := 7) dX11_refuse_7 ic1 ?_
    refine S_iadd (pc := 8) dX11_refuse_8 ?_
    refine S_iast (pc := 9) dX11_refuse_9 (sA_2 hs) (Nat.succ_pos _) (vp_in_nI (by decide) (by decide)) ?_
    show WP _ _ _ _ _ _ _ 10 _ _ (sh, (up2 (up2 f3 A 1 (nI 0)) (A + 2) 1 ((f3 (A + 2) 1) + (nI 1))), g4, (up2 (up2 fR (A + 38) 6 (some v)) (A + 38) 7 (some q5)))
    refine S_iconst (pc := 10) dX11_refuse_10 icm1 ?_
    refine S_ireturn dX11_refuse_11 rfl ?_
    show WP _ _ _ _ _ _ _ 35 [some (.ref A), none] [.int (-1)] (sh, (up2 (up2 f3 A 1 (nI 0)) (A + 2) 1 ((f3 (A + 2) 1) + (nI 1))), g4, (up2 (up2 fR (A + 38) 6 (some v)) (A + 38) 7 (some q5)))
    exact S_ireturn dX11_stream_35 rfl H
