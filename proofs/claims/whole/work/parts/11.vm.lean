set_option maxHeartbeats 2000000 in
set_option maxRecDepth 4000 in
theorem VX12_is {l : Launch} {G : Gx} {d : Nat} {Q : Option Value → Hp → Prop} {sh : Sh} {fR : FRt} {B : Nat} {f : FI} {g : FL} {a0 : Int32} {a1 : Int32} {a2 : Int32} (hs : StM sh fR B)
    (H : ((a0 < a1 → Q (some (.int (nI 0))) (sh, f, g, fR)) ∧ (¬ a0 < a1 → ((a2 < a0 → Q (some (.int (nI 0))) (sh, f, g, fR)) ∧ (¬ a2 < a0 → Q (some (.int (nI 1))) (sh, f, g, fR)))))) :
    Cl l G d 0 0 mX12_is [.int a0, .int a1, .int a2] (sh, f, g, fR) Q := by
  refine Cl.of (L0 := [some (.int a0), some (.int a1), some (.int a2)]) miX12_is rfl rfl ?_
  refine S_iload_n (pc := 0) dX12_is_0 rfl rfl ?_
  refine S_iload_n (pc := 1) dX12_is_1 rfl rfl ?_
  refine S_icmp_lt (pc := 2) (tgt := 14) dX12_is_2 rfl (fun hc1 => ?_) (fun hc1 => ?_)
  · replace H := H.1 hc1
    refine S_iconst (pc := 14) dX12_is_14 ic0 ?_
    exact S_zreturn dX12_is_15 rfl (Or.inl rfl) H
  · replace H := H.2 hc1
    refine S_iload_n (pc := 5) dX12_is_5 rfl rfl ?_
    refine S_iload_n (pc := 6) dX12_is_6 rfl rfl ?_
    refine S_icmp_gt (pc := 7) (tgt := 14) dX12_is_7 rfl (fun hc2 => ?_) (fun hc2 => ?_)
    · replace H := H.1 hc2
      refine S_iconst (pc := 14) dX12_is_14 ic0 ?_
      exact S_zreturn dX12_is_15 rfl (Or.inl rfl) H
    · replace H := H.2 hc2
      refine S_iconst (pc := 10) dX12_is_10 ic1 ?_
      refine S_goto (pc := 11) (tgt := 15) dX12_is_11 rfl ?_
      exact S_zreturn dX12_is_15 rfl (Or.inr rfl) H
abbrev LpX12_put_3 (l : Launch) (G : Gx) (d : Nat) (Q : Option Value → Hp → Prop) (sh : Sh) (fR : FRt) (B : Nat) (f : FI) (g : FL) (a1 : Int32) (a2 : Int32) : Prop := WP l G (Zq G 0 0 Q) mX12_put (rmd d 0 0) 0 0 3 [some (.ref B), some (.int a1), some (.int a2)] [] (sh, f, g, fR)
set_option maxHeartbeats 2000000 in
set_option maxRecDepth 4000 in
theorem VX12_put {l : Launch} {G : Gx} {d : Nat} {Q : Option Value → Hp → Prop} {sh : Sh} {fR : FRt} {B : Nat} {f : FI} {g : FL} {a1 : Int32} (hs : StM sh fR B)
    (H : LpX12_put_3 l G d Q sh fR B f g a1 (nI 24)) :
    Cl l G d 0 0 mX12_put [.ref B, .int a1] (sh, f, g, fR) Q := by
  refine Cl.of (L0 := [some (.ref B), some (.int a1), none]) miX12_put rfl rfl ?_
  refine S_bipush (pc := 0) dX12_put_0 bp24 ?_
  refine S_istore_n (pc := 2) (L' := [some (.ref B), some (.int a1), some (.int (nI 24))]) dX12_put_2 rfl (by decide) rfl ?_
  exact H
set_option maxHeartbeats 2000000 in
set_option maxRecDepth 4000 in
theorem VX12_put_3 {l : Launch} {G : Gx} {d : Nat} {Q : Option Value → Hp → Prop} {sh : Sh} {fR : FRt} {B : Nat} {f : FI} {g : FL} {a1 : Int32} {a2 : Int32} (hs : StM sh fR B)
    (H : ((a2 < 0 → Q none (sh, f, g, fR)) ∧ (¬ a2 < 0 → inb (f B 1) 1800 ∧ LpX12_put_3 l G d Q sh fR B (up2 (up2 f (B + 1) (f B 1).toNatClampNeg ((a1 >>> (a2 &&& 31)) &&& (nI 255))) B 1 ((f B 1) + (nI 1))) g a1 (a2 + (-8))))) :
    LpX12_put_3 l G d Q sh fR B f g a1 a2 := by
  refine S_iload_n (pc := 3) dX12_put_3 rfl rfl ?_
  refine S_if_lt (pc := 4) (tgt := 39) dX12_put_4 rfl (fun hc1 => ?_) (fun hc1 => ?_)
  · replace H := H.1 hc1
    exact S_vreturn dX12_put_39 rfl H
  · replace H := H.2 hc1
    refine S_aload_n (pc := 7) dX12_put_7 rfl rfl ?_
    refine S_getR (pc := 8) dX12_put_8 flX12_7 (sM_0 hs) rfl (rM_0 hs) ?_
    refine S_aload_n (pc := 11) dX12_put_11 rfl rfl ?_
    refine S_get (pc := 12) (v := .int (f B 1)) dX12_put_12 flX12_13 (sM_0 hs) rfl ?_
    refine S_iload_n (pc := 15) dX12_put_15 rfl rfl ?_
    refine S_iload_n (pc := 16) dX12_put_16 rfl rfl ?_
    refine S_ishr (pc := 17) dX12_put_17 ?_
    refine S_sipush (pc := 18) dX12_put_18 sp255 ?_
    refine S_iand (pc := 21) dX12_put_21 ?_
    obtain ⟨hb2, H⟩ := H
    refine S_iast (pc := 22) dX12_put_22 (sM_1 hs) (Nat.succ_pos _) hb2 ?_
    refine S_aload_n (pc := 23) dX12_put_23 rfl rfl ?_
    refine S_dup (pc := 24) dX12_put_24 rfl ?_
    refine S_get (pc := 25) (v := .int ((up2 f (B + 1) (f B 1).toNatClampNeg ((a1 >>> (a2 &&& 31)) &&& (nI 255))) B 1)) dX12_put_25 flX12_13 (sM_0 hs) rfl ?_
    refine S_eqi (x := f B 1) ((up2_r (by omega)).trans rfl) ?_
    refine S_iconst (pc := 28) dX12_put_28 ic1 ?_
    refine S_iadd (pc := 29) dX12_put_29 ?_
    refine S_putI (pc := 30) dX12_put_30 flX12_13 (sM_0 hs) hs.2.2 (nf_12_1) rfl rfl (fun _ => rfl) ?_
    refine S_iinc (pc := 33) (v := (-8)) (L' := [some (.ref B), some (.int a1), some (.int (a2 + (-8)))]) dX12_put_33 rfl icm8 rfl ?_
    refine S_goto (pc := 36) (tgt := 3) dX12_put_36 rfl ?_
    exact H
set_option maxHeartbeats 2000000 in
set_option maxRecDepth 4000 in
theorem VX12_feed {l : Launch} {G : Gx} {d : Nat} {Q : Option Value → Hp → Prop} {sh : Sh} {fR : FRt} {B : Nat} {f : FI} {g : FL} {a1 : Int32} {a2 : Int32} {a3 : Int32} {a4 : Int32} {a5 : Int32} (hs : StM sh fR B)
    (H : ((((f B 1) + (nI 20)) ≤ (nI 1600) → Cl l G d 0 0 mX12_put [.ref B, .int a1] (sh, f, g, fR) (qv sh fR fun f2 g3 => Cl l G d 0 0 mX12_put [.ref B, .int a2] (sh, f2, g3, fR) (qv sh fR fun f4 g5 => Cl l G d 0 0 mX12_put [.ref B, .int a3] (sh, f4, g5, fR) (qv sh fR fun f6 g7 => Cl l G d 0 0 mX12_put [.ref B, .int a4] (sh, f6, g7, fR) (qv sh fR fun f8 g9 => Cl l G d 0 0 mX12_put [.ref B, .int a5] (sh, f8, g9, fR) (qv sh fR fun f10 g11 => Q (some (.int (f10 B 1))) (sh, f10, g11, fR))))))) ∧ (¬ ((f B 1) + (nI 20)) ≤ (nI 1600) → Q (some (.int (-1))) (sh, (up2 f (B + 22) 0 ((f (B + 22) 0) + (nI 1))), g, fR)))) :
    Cl l G (d + 1) 0 0 mX12_feed [.ref B, .int a1, .int a2, .int a3, .int a4, .int a5] (sh, f, g, fR) Q := by
  refine Cl.of (L0 := [some (.ref B), some (.int a1), some (.int a2), some (.int a3), some (.int a4), some (.int a5)]) miX12_feed rfl rfl ?_
  refine S_aload_n (pc := 0) dX12_feed_0 rfl rfl ?_
  refine S_get (pc := 1) (v := .int (f B 1)) dX12_feed_1 flX12_13 (sM_0 hs) rfl ?_
  refine S_bipush (pc := 4) dX12_feed_4 bp20 ?_
  refine S_iadd (pc := 6) dX12_feed_6 ?_
  refine S_sipush (pc := 7) dX12_feed_7 sp1600 ?_
  refine S_icmp_le (pc := 10) (tgt := 19) dX12_feed_10 rfl (fun hc1 => ?_) (fun hc1 => ?_)
  · replace H := H.1 hc1
    refine S_aload_n (pc := 19) dX12_feed_19 rfl rfl ?_
    refine S_iload_n (pc := 20) dX12_feed_20 rfl rfl ?_
    refine S_callV (As := [.int a1]) (mc := 0) (ms := 0) (pc := 21) dX12_feed_21 miX12_put mvX12_put mlX12_228 rfl (sM_0 hs) rfl rfl rfl (RmOK.of rfl) H ?_
    rintro _ _ ⟨f2, g3, rfl, rfl, H⟩
    show WP _ _ _ _ _ _ _ 24 [some (.ref B), some (.int a1), some (.int a2), some (.int a3), some (.int a4), some (.int a5)] [] (sh, f2, g3, fR)
    refine S_aload_n (pc := 24) dX12_feed_24 rfl rfl ?_
    refine S_iload_n (pc := 25) dX12_feed_25 rfl rfl ?_
    refine S_callV (As := [.int a2]) (mc := 0) (ms := 0) (pc := 26) dX12_feed_26 miX12_put mvX12_put mlX12_228 rfl (sM_0 hs) rfl rfl rfl (RmOK.of rfl) H ?_
    rintro _ _ ⟨f4, g5, rfl, rfl, H⟩
    show WP _ _ _ _ _ _ _ 29 [some (.ref B), some (.int a1), some (.int a2), some (.int a3), some (.int a4), some (.int a5)] [] (sh, f4, g5, fR)
    refine S_aload_n (pc := 29) dX12_feed_29 rfl rfl ?_
    refine S_iload_n (pc := 30) dX12_feed_30 rfl rfl ?_
    refine S_callV (As := [.int a3]) (mc := 0) (ms := 0) (pc := 31) dX12_feed_31 miX12_put mvX12_put mlX12_228 rfl (sM_0 hs) rfl rfl rfl (RmOK.of rfl) H ?_
    rintro _ _ ⟨f6, g7, rfl, rfl, H⟩
    show WP _ _ _ _ _ _ _ 34 [some (.ref B), some (.int a1), some (.int a2), some (.int a3), some (.int a4), some (.int a5)] [] (sh, f6, g7, fR)
    refine S_aload_n (pc := 34) dX12_feed_34 rfl rfl ?_
    refine S_iload (pc := 35) dX12_feed_35 rfl ?_
    refine S_callV (As := [.int a4]) (mc := 0) (ms := 0) (pc := 37) dX12_feed_37 miX12_put mvX12_put mlX12_228 rfl (sM_0 hs) rfl rfl rfl (RmOK.of rfl) H ?_
    rintro _ _ ⟨f8, g9, rfl, rfl, H⟩
    show WP _ _ _ _ _ _ _ 40 [some (.ref B), some (.int a1), some (.int a2), some (.int a3), some (.int a4), some (.int a5)] [] (sh, f8, g9, fR)
    refine S_aload_n (pc := 40) dX12_feed_40 rfl rfl ?_
    refine S_iload (pc := 41) dX12_feed_41 rfl ?_
    refine S_callV (As := [.int a5]) (mc := 0) (ms := 0) (pc := 43) dX12_feed_43 miX12_put mvX12_put mlX12_228 rfl (sM_0 hs) rfl rfl rfl (RmOK.of rfl) H ?_
    rintro _ _ ⟨f10, g11, rfl, rfl, H⟩
    show WP _ _ _ _ _ _ _ 46 [some (.ref B), some (.int a1), some (.int a2), some (.int a3), some (.int a4), some (.int a5)] [] (sh, f10, g11, fR)
    refine S_aload_n (pc := 46) dX12_feed_46 rfl rfl ?_
    refine S_get (pc := 47) (v := .int (f10 B 1)) dX12_feed_47 flX12_13 (sM_0 hs) rfl ?_
    exact S_ireturn dX12_feed_50 rfl H
  · replace H := H.2 hc1
    refine S_aload_n (pc := 13) dX12_feed_13 rfl rfl ?_
    refine S_iconst (pc := 14) dX12_feed_14 ic0 ?_
    refine S_callV (As := [.int (nI 0)]) (mc := 0) (ms := 0) (pc := 15) dX12_feed_15 miX12_refuses mvX12_refuses mlX12_224 rfl (sM_0 hs) rfl rfl rfl (RmOK.of rfl) (Q := fun r h => WP _ _ _ _ _ _ _ 18 [some (.ref B), some (.int a1), some (.int a2), some (.int a3), some (.int a4), some (.int a5)] (r.toList ++ []) h) (Cl.of miX12_refuses rfl rfl ?_) (fun _ _ q => q)
    refine S_aload_n (pc := 0) dX12_refuses_0 rfl rfl ?_
    refine S_getR (pc := 1) dX12_refuses_1 flX12_141 (sM_0 hs) rfl (rM_42 hs) ?_
    refine S_iload_n (pc := 4) dX12_refuses_4 rfl rfl ?_
    refine S_dup2 (pc := 5) dX12_refuses_5 rfl rfl ?_
    refine S_iald (pc := 6) dX12_refuses_6 (sM_22 hs) (vp_in_nI (by decide) (by decide)) ?_
    show WP _ _ _ _ _ _ _ 7 _ (.int (f (B + 22) 0) :: _) _
    refine S_iconst (pc := 7) dX12_refuses_7 ic1 ?_
    refine S_iadd (pc := 8) dX12_refuses_8 ?_
    refine S_iast (pc := 9) dX12_refuses_9 (sM_22 hs) (Nat.succ_pos _) (vp_in_nI (by decide) (by decide)) ?_
    show WP _ _ _ _ _ _ _ 10 _ _ (sh, (up2 f (B + 22) 0 ((f (B + 22) 0) + (nI 1))), g, fR)
    refine S_iconst (pc := 10) dX12_refuses_10 icm1 ?_
    refine S_ireturn dX12_refuses_11 rfl ?_
    show WP _ _ _ _ _ _ _ 18 [some (.ref B), some (.int a1), some (.int a2), some (.int a3), some (.int a4), some (.int a5)] [.int (-1)] (sh, (up2 f (B + 22) 0 ((f (B + 22) 0) + (nI 1))), g, fR)
    exact S_ireturn dX12_feed_18 rfl H
set_option maxHeartbeats 2000000 in
set_option maxRecDepth 4000 in
theorem VX12_end {l : Launch} {G : Gx} {d : Nat} {Q : Option Value → Hp → Prop} {sh : Sh} {fR : FRt} {B : Nat} {f : FI} {g : FL} {a1 : Int32} (hs : StM sh fR B)
    (H : ((a1 < 0 → Q (some (.int (nI 0))) (sh, (up2 f (B + 22) 0 ((f (B + 22) 0) + (nI 1))), g, fR)) ∧ (¬ a1 < 0 → ((a1 ≤ (f B 1) → Q (some (.int (nI 1))) (sh, (up2 f B 1 a1), g, fR)) ∧ (¬ a1 ≤ (f B 1) → Q (some (.int (nI 0))) (sh, (up2 f (B + 22) 0 ((f (B + 22) 0) + (nI 1))), g, fR)))))) :
    Cl l G (d + 1) 0 0 mX12_end [.ref B, .int a1] (sh, f, g, fR) Q := by
  refine Cl.of (L0 := [some (.ref B), some (.int a1)]) miX12_end rfl rfl ?_
  refine S_iload_n (pc := 0) dX12_end_0 rfl rfl ?_
  refine S_if_lt (pc := 1) (tgt := 12) dX12_end_1 rfl (fun hc1 => ?_) (fun hc1 => ?_)
  · replace H := H.1 hc1
    refine S_aload_n (pc := 12) dX12_end_12 rfl rfl ?_
    refine S_iconst (pc := 13) dX12_end_13 ic0 ?_
    refine S_callV (As := [.int (nI 0)]) (mc := 0) (ms := 0) (pc := 14) dX12_end_14 miX12_refuses mvX12_refuses mlX12_224 rfl (sM_0 hs) rfl rfl rfl (RmOK.of rfl) (Q := fun r h => WP _ _ _ _ _ _ _ 17 [some (.ref B), some (.int a1)] (r.toList ++ []) h) (Cl.of miX12_refuses rfl rfl ?_) (fun _ _ q => q)
    refine S_aload_n (pc := 0) dX12_refuses_0 rfl rfl ?_
    refine S_getR (pc := 1) dX12_refuses_1 flX12_141 (sM_0 hs) rfl (rM_42 hs) ?_
    refine S_iload_n (pc := 4) dX12_refuses_4 rfl rfl ?_
    refine S_dup2 (pc := 5) dX12_refuses_5 rfl rfl ?_
    refine S_iald (pc := 6) dX12_refuses_6 (sM_22 hs) (vp_in_nI (by decide) (by decide)) ?_
    show WP _ _ _ _ _ _ _ 7 _ (.int (f (B + 22) 0) :: _) _
    refine S_iconst (pc := 7) dX12_refuses_7 ic1 ?_
    refine S_iadd (pc := 8) dX12_refuses_8 ?_
    refine S_iast (pc := 9) dX12_refuses_9 (sM_22 hs) (Nat.succ_pos _) (vp_in_nI (by decide) (by decide)) ?_
    show WP _ _ _ _ _ _ _ 10 _ _ (sh, (up2 f (B + 22) 0 ((f (B + 22) 0) + (nI 1))), g, fR)
    refine S_iconst (pc := 10) dX12_refuses_10 icm1 ?_
    refine S_ireturn dX12_refuses_11 rfl ?_
    show WP _ _ _ _ _ _ _ 17 [some (.ref B), some (.int a1)] [.int (-1)] (sh, (up2 f (B + 22) 0 ((f (B + 22) 0) + (nI 1))), g, fR)
    refine S_if_lt (pc := 17) (tgt := 24) dX12_end_17 rfl (fun _ => ?_) (fun hc2 => by first | exact absurd (by decide) hc2 | exact absurd hc2 (by decide))
    refine S_iconst (pc := 24) dX12_end_24 ic0 ?_
    exact S_zreturn dX12_end_25 rfl (Or.inl rfl) H
  · replace H := H.2 hc1
    refine S_iload_n (pc := 4) dX12_end_4 rfl rfl ?_
    refine S_aload_n (pc := 5) dX12_end_5 rfl rfl ?_
    refine S_get (pc := 6) (v := .int (f B 1)) dX12_end_6 flX12_13 (sM_0 hs) rfl ?_
    refine S_icmp_le (pc := 9) (tgt := 26) dX12_end_9 rfl (fun hc3 => ?_) (fun hc3 => ?_)
    · replace H := H.1 hc3
      refine S_aload_n (pc := 26) dX12_end_26 rfl rfl ?_
      refine S_iload_n (pc := 27) dX12_end_27 rfl rfl ?_
      refine S_putI (pc := 28) dX12_end_28 flX12_13 (sM_0 hs) hs.2.2 (nf_12_1) rfl rfl (fun _ => rfl) ?_
      refine S_iconst (pc := 31) dX12_end_31 ic1 ?_
      exact S_zreturn dX12_end_32 rfl (Or.inr rfl) H
    · replace H := H.2 hc3
      refine S_aload_n (pc := 12) dX12_end_12 rfl rfl ?_
      refine S_iconst (pc := 13) dX12_end_13 ic0 ?_
      refine S_callV (As := [.int (nI 0)]) (mc := 0) (ms := 0) (pc := 14) dX12_end_14 miX12_refuses mvX12_refuses mlX12_224 rfl (sM_0 hs) rfl rfl rfl (RmOK.of rfl) (Q := fun r h => WP _ _ _ _ _ _ _ 17 [some (.ref B), some (.int a1)] (r.toList ++ []) h) (Cl.of miX12_refuses rfl rfl ?_) (fun _ _ q => q)
      refine S_aload_n (pc := 0) dX12_refuses_0 rfl rfl ?_
      refine S_getR (pc := 1) dX12_refuses_1 flX12_141 (sM_0 hs) rfl (rM_42 hs) ?_
      refine S_iload_n (pc := 4) dX12_refuses_4 rfl rfl ?_
      refine S_dup2 (pc := 5) dX12_refuses_5 rfl rfl ?_
      refine S_iald (pc := 6) dX12_refuses_6 (sM_22 hs) (vp_in_nI (by decide) (by decide)) ?_
      show WP _ _ _ _ _ _ _ 7 _ (.int (f (B + 22) 0) :: _) _
      refine S_iconst (pc := 7) dX12_refuses_7 ic1 ?_
      refine S_iadd (pc := 8) dX12_refuses_8 ?_
      refine S_iast (pc := 9) dX12_refuses_9 (sM_22 hs) (Nat.succ_pos _) (vp_in_nI (by decide) (by decide)) ?_
      show WP _ _ _ _ _ _ _ 10 _ _ (sh, (up2 f (B + 22) 0 ((f (B + 22) 0) + (nI 1))), g, fR)
      refine S_iconst (pc := 10) dX12_refuses_10 icm1 ?_
      refine S_ireturn dX12_refuses_11 rfl ?_
      show WP _ _ _ _ _ _ _ 17 [some (.ref B), some (.int a1)] [.int (-1)] (sh, (up2 f (B + 22) 0 ((f (B + 22) 0) + (nI 1))), g, fR)
      refine S_if_lt (pc := 17) (tgt := 24) dX12_end_17 rfl (fun _ => ?_) (fun hc4 => by first | exact absurd (by decide) hc4 | exact absurd hc4 (by decide))
      refine S_iconst (pc := 24) dX12_end_24 ic0 ?_
      exact S_zreturn dX12_end_25 rfl (Or.inl rfl) H
set_option maxHeartbeats 2000000 in
set_option maxRecDepth 4000 in
theorem VX12_blame {l : Launch} {G : Gx} {d : Nat} {Q : Option Value → Hp → Prop} {sh : Sh} {fR : FRt} {B : Nat} {f : FI} {g : FL} {a1 : Int32} {a2 : Int32} (hs : StM sh fR B)
    (H : (((f B 8) ≤ 0 → Q none (sh, (up2 (up2 f B 8 a1) B 9 a2), g, fR)) ∧ (¬ (f B 8) ≤ 0 → Q none (sh, f, g, fR)))) :
    Cl l G d 0 0 mX12_blame [.ref B, .int a1, .int a2] (sh, f, g, fR) Q := by
  refine Cl.of (L0 := [some (.ref B), some (.int a1), some (.int a2)]) miX12_blame rfl rfl ?_
  refine S_aload_n (pc := 0) dX12_blame_0 rfl rfl ?_
  refine S_get (pc := 1) (v := .int (f B 8)) dX12_blame_1 flX12_36 (sM_0 hs) rfl ?_
  refine S_if_le (pc := 4) (tgt := 8) dX12_blame_4 rfl (fun hc1 => ?_) (fun hc1 => ?_)
  · replace H := H.1 hc1
    refine S_aload_n (pc := 8) dX12_blame_8 rfl rfl ?_
    refine S_iload_n (pc := 9) dX12_blame_9 rfl rfl ?_
    refine S_putI (pc := 10) dX12_blame_10 flX12_36 (sM_0 hs) hs.2.2 (nf_12_8) rfl rfl (fun _ => rfl) ?_
    refine S_aload_n (pc := 13) dX12_blame_13 rfl rfl ?_
    refine S_iload_n (pc := 14) dX12_blame_14 rfl rfl ?_
    refine S_putI (pc := 15) dX12_blame_15 flX12_39 (sM_0 hs) hs.2.2 (nf_12_9) rfl rfl (fun _ => rfl) ?_
    exact S_vreturn dX12_blame_18 rfl H
  · replace H := H.2 hc1
    exact S_vreturn dX12_blame_7 rfl H
set_option maxHeartbeats 2000000 in
set_option maxRecDepth 4000 in
theorem VX12_isLetter {l : Launch} {G : Gx} {d : Nat} {Q : Option Value → Hp → Prop} {sh : Sh} {fR : FRt} {B : Nat} {f : FI} {g : FL} {a0 : Int32} (hs : StM sh fR B)
    (H : ((a0 < (nI 97) → Q (some (.int (nI 0))) (sh, f, g, fR)) ∧ (¬ a0 < (nI 97) → (((nI 122) < a0 → Q (some (.int (nI 0))) (sh, f, g, fR)) ∧ (¬ (nI 122) < a0 → Q (some (.int (nI 1))) (sh, f, g, fR)))))) :
    Cl l G d 0 0 mX12_isLetter [.int a0] (sh, f, g, fR) Q := by
  refine Cl.of (L0 := [some (.int a0)]) miX12_isLetter rfl rfl ?_
  refine S_iload_n (pc := 0) dX12_isLetter_0 rfl rfl ?_
  refine S_bipush (pc := 1) dX12_isLetter_1 bp97 ?_
  refine S_icmp_lt (pc := 3) (tgt := 16) dX12_isLetter_3 rfl (fun hc1 => ?_) (fun hc1 => ?_)
  · replace H := H.1 hc1
    refine S_iconst (pc := 16) dX12_isLetter_16 ic0 ?_
    exact S_zreturn dX12_isLetter_17 rfl (Or.inl rfl) H
  · replace H := H.2 hc1
    refine S_iload_n (pc := 6) dX12_isLetter_6 rfl rfl ?_
    refine S_bipush (pc := 7) dX12_isLetter_7 bp122 ?_
    refine S_icmp_gt (pc := 9) (tgt := 16) dX12_isLetter_9 rfl (fun hc2 => ?_) (fun hc2 => ?_)
    · replace H := H.1 hc2
      refine S_iconst (pc := 16) dX12_isLetter_16 ic0 ?_
      exact S_zreturn dX12_isLetter_17 rfl (Or.inl rfl) H
    · replace H := H.2 hc2
      refine S_iconst (pc := 12) dX12_isLetter_12 ic1 ?_
      refine S_goto (pc := 13) (tgt := 17) dX12_isLetter_13 rfl ?_
      exact S_zreturn dX12_isLetter_17 rfl (Or.inr rfl) H
set_option maxHeartbeats 2000000 in
set_option maxRecDepth 4000 in
theorem VX12_isDigit {l : Launch} {G : Gx} {d : Nat} {Q : Option Value → Hp → Prop} {sh : Sh} {fR : FRt} {B : Nat} {f : FI} {g : FL} {a0 : Int32} (hs : StM sh fR B)
    (H : ((a0 < (nI 48) → Q (some (.int (nI 0))) (sh, f, g, fR)) ∧ (¬ a0 < (nI 48) → (((nI 57) < a0 → Q (some (.int (nI 0))) (sh, f, g, fR)) ∧ (¬ (nI 57) < a0 → Q (some (.int (nI 1))) (sh, f, g, fR)))))) :
    Cl l G d 0 0 mX12_isDigit [.int a0] (sh, f, g, fR) Q := by
  refine Cl.of (L0 := [some (.int a0)]) miX12_isDigit rfl rfl ?_
  refine S_iload_n (pc := 0) dX12_isDigit_0 rfl rfl ?_
  refine S_bipush (pc := 1) dX12_isDigit_1 bp48 ?_
  refine S_icmp_lt (pc := 3) (tgt := 16) dX12_isDigit_3 rfl (fun hc1 => ?_) (fun hc1 => ?_)
  · replace H := H.1 hc1
    refine S_iconst (pc := 16) dX12_isDigit_16 ic0 ?_
    exact S_zreturn dX12_isDigit_17 rfl (Or.inl rfl) H
  · replace H := H.2 hc1
    refine S_iload_n (pc := 6) dX12_isDigit_6 rfl rfl ?_
    refine S_bipush (pc := 7) dX12_isDigit_7 bp57 ?_
    refine S_icmp_gt (pc := 9) (tgt := 16) dX12_isDigit_9 rfl (fun hc2 => ?_) (fun hc2 => ?_)
    · replace H := H.1 hc2
      refine S_iconst (pc := 16) dX12_isDigit_16 ic0 ?_
      exact S_zreturn dX12_isDigit_17 rfl (Or.inl rfl) H
    · replace H := H.2 hc2
      refine S_iconst (pc := 12) dX12_isDigit_12 ic1 ?_
      refine S_goto (pc := 13) (tgt := 17) dX12_isDigit_13 rfl ?_
      exact S_zreturn dX12_isDigit_17 rfl (Or.inr rfl) H
set_option maxHeartbeats 2000000 in
set_option maxRecDepth 4000 in
theorem VX12_lex {l : Launch} {G : Gx} {d : Nat} {Q : Option Value → Hp → Prop} {sh : Sh} {fR : FRt} {B : Nat} {f : FI} {g : FL}  (hs : StM sh fR B)
    (H : (((f B 12) = (-1) → Q none (sh, f, g, fR)) ∧ (¬ (f B 12) = (-1) → Cl l G d 0 0 mX12_blame [.ref B, .int (nI 1), .int (f B 12)] (sh, f, g, fR) (qv sh fR fun f2 g3 => Q none (sh, f2, g3, fR))))) :
    Cl l G (d + 1) 0 0 mX12_lex [.ref B] (sh, f, g, fR) Q := by
  refine Cl.of (L0 := [some (.ref B)]) miX12_lex rfl rfl ?_
  refine S_aload_n (pc := 0) dX12_lex_0 rfl rfl ?_
  refine S_get (pc := 1) (v := .int (f B 12)) dX12_lex_1 flX12_48 (sM_0 hs) rfl ?_
  refine S_iconst (pc := 4) dX12_lex_4 icm1 ?_
  refine S_icmp_eq (pc := 5) (tgt := 17) dX12_lex_5 rfl (fun hc1 => ?_) (fun hc1 => ?_)
  · replace H := H.1 hc1
    exact S_vreturn dX12_lex_17 rfl H
  · replace H := H.2 hc1
    refine S_aload_n (pc := 8) dX12_lex_8 rfl rfl ?_
    refine S_iconst (pc := 9) dX12_lex_9 ic1 ?_
    refine S_aload_n (pc := 10) dX12_lex_10 rfl rfl ?_
    refine S_get (pc := 11) (v := .int (f B 12)) dX12_lex_11 flX12_48 (sM_0 hs) rfl ?_
    refine S_callV (As := [.int (nI 1), .int (f B 12)]) (mc := 0) (ms := 0) (pc := 14) dX12_lex_14 miX12_blame mvX12_blame mlX12_232 rfl (sM_0 hs) rfl rfl rfl (RmOK.of rfl) H ?_
    rintro _ _ ⟨f2, g3, rfl, rfl, H⟩
    show WP _ _ _ _ _ _ _ 17 [some (.ref B)] [] (sh, f2, g3, fR)
    exact S_vreturn dX12_lex_17 rfl H
abbrev LpX12_ahead_5 (l : Launch) (G : Gx) (d : Nat) (Q : Option Value → Hp → Prop) (sh : Sh) (fR : FRt) (B : Nat) (f : FI) (g : FL) (a1 : Int32) : Prop := WP l G (Zq G 0 0 Q) mX12_ahead (rmd (d + 1) 0 0) 0 0 5 [some (.ref B), some (.int a1), none, none, none, none] [] (sh, f, g, fR)
abbrev LpX12_ahead_41 (l : Launch) (G : Gx) (d : Nat) (Q : Option Value → Hp → Prop) (sh : Sh) (fR : FRt) (B : Nat) (f : FI) (g : FL) (a1 : Int32) : Prop := WP l G (Zq G 0 0 Q) mX12_ahead (rmd (d + 1) 0 0) 0 0 41 [some (.ref B), some (.int a1), none, none, none, none] [] (sh, f, g, fR)
abbrev LpX12_ahead_35 (l : Launch) (G : Gx) (d : Nat) (Q : Option Value → Hp → Prop) (sh : Sh) (fR : FRt) (B : Nat) (f : FI) (g : FL) (a1 : Int32) : Prop := WP l G (Zq G 0 0 Q) mX12_ahead (rmd (d + 1) 0 0) 0 0 35 [some (.ref B), some (.int a1), none, none, none, none] [] (sh, f, g, fR)
abbrev LpX12_ahead_98 (l : Launch) (G : Gx) (d : Nat) (Q : Option Value → Hp → Prop) (sh : Sh) (fR : FRt) (B : Nat) (f : FI) (g : FL) (a1 : Int32) (a2 : Int32) (a3 : Int32) : Prop := WP l G (Zq G 0 0 Q) mX12_ahead (rmd (d + 1) 0 0) 0 0 98 [some (.ref B), some (.int a1), some (.int a2), some (.int a3), none, none] [] (sh, f, g, fR)
abbrev LpX12_ahead_135 (l : Launch) (G : Gx) (d : Nat) (Q : Option Value → Hp → Prop) (sh : Sh) (fR : FRt) (B : Nat) (f : FI) (g : FL) (a1 : Int32) (a2 : Int32) (a3 : Int32) : Prop := WP l G (Zq G 0 0 Q) mX12_ahead (rmd (d + 1) 0 0) 0 0 135 [some (.ref B), some (.int a1), some (.int a2), some (.int a3), none, none] [] (sh, f, g, fR)
abbrev LpX12_ahead_130 (l : Launch) (G : Gx) (d : Nat) (Q : Option Value → Hp → Prop) (sh : Sh) (fR : FRt) (B : Nat) (f : FI) (g : FL) (a1 : Int32) (a2 : Int32) (a3 : Int32) : Prop := WP l G (Zq G 0 0 Q) mX12_ahead (rmd (d + 1) 0 0) 0 0 130 [some (.ref B), some (.int a1), some (.int a2), some (.int a3), none, none] [] (sh, f, g, fR)
abbrev LpX12_ahead_176 (l : Launch) (G : Gx) (d : Nat) (Q : Option Value → Hp → Prop) (sh : Sh) (fR : FRt) (B : Nat) (f : FI) (g : FL) (a1 : Int32) (a2 : Int32) (a3 : Int32) : Prop := WP l G (Zq G 0 0 Q) mX12_ahead (rmd (d + 1) 0 0) 0 0 176 [some (.ref B), some (.int a1), some (.int a2), some (.int a3), none, none] [] (sh, f, g, fR)
abbrev LpX12_ahead_204 (l : Launch) (G : Gx) (d : Nat) (Q : Option Value → Hp → Prop) (sh : Sh) (fR : FRt) (B : Nat) (f : FI) (g : FL) (a1 : Int32) (a2 : Int32) (a3 : Int32) (a4 : Int32) (a5 : Int32) : Prop := WP l G (Zq G 0 0 Q) mX12_ahead (rmd (d + 1) 0 0) 0 0 204 [some (.ref B), some (.int a1), some (.int a2), some (.int a3), some (.int a4), some (.int a5)] [] (sh, f, g, fR)
abbrev LpX12_ahead_243 (l : Launch) (G : Gx) (d : Nat) (Q : Option Value → Hp → Prop) (sh : Sh) (fR : FRt) (B : Nat) (f : FI) (g : FL) (a1 : Int32) (a2 : Int32) (a3 : Int32) (a4 : Int32) (a5 : Int32) : Prop := WP l G (Zq G 0 0 Q) mX12_ahead (rmd (d + 1) 0 0) 0 0 243 [some (.ref B), some (.int a1), some (.int a2), some (.int a3), some (.int a4), some (.int a5)] [] (sh, f, g, fR)
abbrev LpX12_ahead_263 (l : Launch) (G : Gx) (d : Nat) (Q : Option Value → Hp → Prop) (sh : Sh) (fR : FRt) (B : Nat) (f : FI) (g : FL) (a1 : Int32) (a2 : Int32) (a3 : Int32) (a4 : Int32) (a5 : Int32) : Prop := WP l G (Zq G 0 0 Q) mX12_ahead (rmd (d + 1) 0 0) 0 0 263 [some (.ref B), some (.int a1), some (.int a2), some (.int a3), some (.int a4), some (.int a5)] [] (sh, f, g, fR)
abbrev LpX12_ahead_293 (l : Launch) (G : Gx) (d : Nat) (Q : Option Value → Hp → Prop) (sh : Sh) (fR : FRt) (B : Nat) (f : FI) (g : FL) (a1 : Int32) (a2 : Int32) (a3 : Int32) (a4 : Int32) (a5 : Int32) : Prop := WP l G (Zq G 0 0 Q) mX12_ahead (rmd (d + 1) 0 0) 0 0 293 [some (.ref B), some (.int a1), some (.int a2), some (.int a3), some (.int a4), some (.int a5)] [] (sh, f, g, fR)
abbrev LpX12_ahead_325 (l : Launch) (G : Gx) (d : Nat) (Q : Option Value → Hp → Prop) (sh : Sh) (fR : FRt) (B : Nat) (f : FI) (g : FL) (a1 : Int32) (a2 : Int32) (a3 : Int32) (a4 : Int32) (a5 : Int32) : Prop := WP l G (Zq G 0 0 Q) mX12_ahead (rmd (d + 1) 0 0) 0 0 325 [some (.ref B), some (.int a1), some (.int a2), some (.int a3), some (.int a4), some (.int a5)] [] (sh, f, g, fR)
set_option maxHeartbeats 2000000 in
set_option maxRecDepth 4000 in
theorem VX12_ahead {l : Launch} {G : Gx} {d : Nat} {Q : Option Value → Hp → Prop} {sh : Sh} {fR : FRt} {B : Nat} {f : FI} {g : FL}  (hs : StM sh fR B)
    (H : (∀ w1 : Int32, w1 = f B 5 → LpX12_ahead_5 l G d Q sh fR B f g w1)) :
    Cl l G (d + 1) 0 0 mX12_ahead [.ref B] (sh, f, g, fR) Q := by
  refine Cl.of (L0 := [some (.ref B), none, none, none, none, none]) miX12_ahead rfl rfl ?_
  refine S_aload_n (pc := 0) dX12_ahead_0 rfl rfl ?_
  refine S_get (pc := 1) (v := .int (f B 5)) dX12_ahead_1 flX12_26 (sM_0 hs) rfl ?_
  refine S_namei (fun w1 e2 => ?_)
  replace H := H w1 e2
  refine S_istore_n (pc := 4) (L' := [some (.ref B), some (.int w1), none, none, none, none]) dX12_ahead_4 rfl (by decide) rfl ?_
  exact H
set_option maxHeartbeats 2000000 in
set_option maxRecDepth 4000 in
theorem VX12_ahead_5 {l : Launch} {G : Gx} {d : Nat} {Q : Option Value → Hp → Prop} {sh : Sh} {fR : FRt} {B : Nat} {f : FI} {g : FL} {a1 : Int32} (hs : StM sh fR B)
    (H : (((f B 2) ≤ a1 → LpX12_ahead_41 l G d Q sh fR B f g a1) ∧ (¬ (f B 2) ≤ a1 → inb a1 1800 ∧ (((f (B + 1) a1.toNatClampNeg) = (nI 32) → LpX12_ahead_35 l G d Q sh fR B f g a1) ∧ (¬ (f (B + 1) a1.toNatClampNeg) = (nI 32) → inb a1 1800 ∧ ((¬ (f (B + 1) a1.toNatClampNeg) = (nI 10) → LpX12_ahead_41 l G d Q sh fR B f g a1) ∧ ((f (B + 1) a1.toNatClampNeg) = (nI 10) → LpX12_ahead_35 l G d Q sh fR B f g a1))))))) :
    LpX12_ahead_5 l G d Q sh fR B f g a1 := by
  refine S_iload_n (pc := 5) dX12_ahead_5 rfl rfl ?_
  refine S_aload_n (pc := 6) dX12_ahead_6 rfl rfl ?_
  refine S_get (pc := 7) (v := .int (f B 2)) dX12_ahead_7 flX12_17 (sM_0 hs) rfl ?_
  refine S_icmp_ge (pc := 10) (tgt := 41) dX12_ahead_10 rfl (fun hc3 => ?_) (fun hc3 => ?_)
  · replace H := H.1 hc3
    exact H
  · replace H := H.2 hc3
    refine S_aload_n (pc := 13) dX12_ahead_13 rfl rfl ?_
    refine S_getR (pc := 14) dX12_ahead_14 flX12_7 (sM_0 hs) rfl (rM_0 hs) ?_
    refine S_iload_n (pc := 17) dX12_ahead_17 rfl rfl ?_
    obtain ⟨hb4, H⟩ := H
    refine S_iald (pc := 18) dX12_ahead_18 (sM_1 hs) hb4 ?_
    refine S_bipush (pc := 19) dX12_ahead_19 bp32 ?_
    refine S_icmp_eq (pc := 21) (tgt := 35) dX12_ahead_21 rfl (fun hc5 => ?_) (fun hc5 => ?_)
    · replace H := H.1 hc5
      exact H
    · replace H := H.2 hc5
      refine S_aload_n (pc := 24) dX12_ahead_24 rfl rfl ?_
      refine S_getR (pc := 25) dX12_ahead_25 flX12_7 (sM_0 hs) rfl (rM_0 hs) ?_
      refine S_iload_n (pc := 28) dX12_ahead_28 rfl rfl ?_
      obtain ⟨hb6, H⟩ := H
      refine S_iald (pc := 29) dX12_ahead_29 (sM_1 hs) hb6 ?_
      refine S_bipush (pc := 30) dX12_ahead_30 bp10 ?_
      refine S_icmp_ne (pc := 32) (tgt := 41) dX12_ahead_32 rfl (fun hc7 => ?_) (fun hc7 => ?_)
      · replace H := H.1 hc7
        exact H
      · replace H := H.2 hc7
        exact H
set_option maxHeartbeats 2000000 in
set_option maxRecDepth 4000 in
theorem VX12_ahead_41 {l : Launch} {G : Gx} {d : Nat} {Q : Option Value → Hp → Prop} {sh : Sh} {fR : FRt} {B : Nat} {f : FI} {g : FL} {a1 : Int32} (hs : StM sh fR B)
    (H : ((a1 < (f B 2) → inb a1 1800 ∧ Cl l G d 0 0 mX12_isLetter [.int (f (B + 1) a1.toNatClampNeg)] (sh, (up2 (up2 (up2 (up2 f B 4 a1) B 5 a1) B 3 (nI 0)) B 12 (-1)), g, fR) (qi sh fR fun x12 f10 g11 => inb a1 1800 ∧ Cl l G d 0 0 mX12_isDigit [.int (f10 (B + 1) a1.toNatClampNeg)] (sh, f10, g11, fR) (qi sh fR fun x16 f14 g15 => ((¬ x12 = 0 → LpX12_ahead_98 l G d Q sh fR B f14 g15 a1 x12 x16) ∧ (x12 = 0 → ((x16 = 0 → LpX12_ahead_135 l G d Q sh fR B f14 g15 a1 x12 x16) ∧ (¬ x16 = 0 → LpX12_ahead_98 l G d Q sh fR B f14 g15 a1 x12 x16))))))) ∧ (¬ a1 < (f B 2) → Q none (sh, (up2 (up2 (up2 (up2 f B 4 a1) B 5 a1) B 3 (nI 0)) B 12 (-1)), g, fR)))) :
    LpX12_ahead_41 l G d Q sh fR B f g a1 := by
  refine S_aload_n (pc := 41) dX12_ahead_41 rfl rfl ?_
  refine S_iload_n (pc := 42) dX12_ahead_42 rfl rfl ?_
  refine S_putI (pc := 43) dX12_ahead_43 flX12_23 (sM_0 hs) hs.2.2 (nf_12_4) rfl rfl (fun _ => rfl) ?_
  refine S_aload_n (pc := 46) dX12_ahead_46 rfl rfl ?_
  refine S_iload_n (pc := 47) dX12_ahead_47 rfl rfl ?_
  refine S_putI (pc := 48) dX12_ahead_48 flX12_26 (sM_0 hs) hs.2.2 (nf_12_5) rfl rfl (fun _ => rfl) ?_
  refine S_aload_n (pc := 51) dX12_ahead_51 rfl rfl ?_
  refine S_iconst (pc := 52) dX12_ahead_52 ic0 ?_
  refine S_putI (pc := 53) dX12_ahead_53 flX12_20 (sM_0 hs) hs.2.2 (nf_12_3) rfl rfl (fun _ => rfl) ?_
  refine S_aload_n (pc := 56) dX12_ahead_56 rfl rfl ?_
  refine S_iconst (pc := 57) dX12_ahead_57 icm1 ?_
  refine S_putI (pc := 58) dX12_ahead_58 flX12_48 (sM_0 hs) hs.2.2 (nf_12_12) rfl rfl (fun _ => rfl) ?_
  refine S_iload_n (pc := 61) dX12_ahead_61 rfl rfl ?_
  refine S_aload_n (pc := 62) dX12_ahead_62 rfl rfl ?_
  refine S_get (pc := 63) (v := .int ((up2 (up2 (up2 (up2 f B 4 a1) B 5 a1) B 3 (nI 0)) B 12 (-1)) B 2)) dX12_ahead_63 flX12_17 (sM_0 hs) rfl ?_
  refine S_eqi (x := f B 2) ((up2_k (by decide)).trans ((up2_k (by decide)).trans ((up2_k (by decide)).trans ((up2_k (by decide)).trans rfl)))) ?_
  refine S_icmp_lt (pc := 66) (tgt := 70) dX12_ahead_66 rfl (fun hc8 => ?_) (fun hc8 => ?_)
  · replace H := H.1 hc8
    refine S_aload_n (pc := 70) dX12_ahead_70 rfl rfl ?_
    refine S_getR (pc := 71) dX12_ahead_71 flX12_7 (sM_0 hs) rfl (rM_0 hs) ?_
    refine S_iload_n (pc := 74) dX12_ahead_74 rfl rfl ?_
    obtain ⟨hb9, H⟩ := H
    refine S_iald (pc := 75) dX12_ahead_75 (sM_1 hs) hb9 ?_
    refine S_eqi (x := f (B + 1) a1.toNatClampNeg) ((up2_r (by omega)).trans ((up2_r (by omega)).trans ((up2_r (by omega)).trans ((up2_r (by omega)).trans rfl)))) ?_
    refine S_callS (As := [.int (f (B + 1) a1.toNatClampNeg)]) (mc := 0) (ms := 0) (pc := 76) dX12_ahead_76 miX12_isLetter mvX12_isLetter mlX12_236 rfl rfl (RmOK.of rfl) H ?_
    rintro _ _ ⟨x12, f10, g11, rfl, rfl, H⟩
    show WP _ _ _ _ _ _ _ 79 [some (.ref B), some (.int a1), none, none, none, none] [.int x12] (sh, f10, g11, fR)
    refine S_istore_n (pc := 79) (L' := [some (.ref B), some (.int a1), some (.int x12), none, none, none]) dX12_ahead_79 rfl (by decide) rfl ?_
    refine S_aload_n (pc := 80) dX12_ahead_80 rfl rfl ?_
    refine S_getR (pc := 81) dX12_ahead_81 flX12_7 (sM_0 hs) rfl (rM_0 hs) ?_
    refine S_iload_n (pc := 84) dX12_ahead_84 rfl rfl ?_
    obtain ⟨hb13, H⟩ := H
    refine S_iald (pc := 85) dX12_ahead_85 (sM_1 hs) hb13 ?_
    refine S_callS (As := [.int (f10 (B + 1) a1.toNatClampNeg)]) (mc := 0) (ms := 0) (pc := 86) dX12_ahead_86 miX12_isDigit mvX12_isDigit mlX12_240 rfl rfl (RmOK.of rfl) H ?_
    rintro _ _ ⟨x16, f14, g15, rfl, rfl, H⟩
    show WP _ _ _ _ _ _ _ 89 [some (.ref B), some (.int a1), some (.int x12), none, none, none] [.int x16] (sh, f14, g15, fR)
    refine S_istore_n (pc := 89) (L' := [some (.ref B), some (.int a1), some (.int x12), some (.int x16), none, none]) dX12_ahead_89 rfl (by decide) rfl ?_
    refine S_iload_n (pc := 90) dX12_ahead_90 rfl rfl ?_
    refine S_if_ne (pc := 91) (tgt := 98) dX12_ahead_91 rfl (fun hc17 => ?_) (fun hc17 => ?_)
    · replace H := H.1 hc17
      exact H
    · replace H := H.2 hc17
      refine S_iload_n (pc := 94) dX12_ahead_94 rfl rfl ?_
      refine S_if_eq (pc := 95) (tgt := 135) dX12_ahead_95 rfl (fun hc18 => ?_) (fun hc18 => ?_)
      · replace H := H.1 hc18
        exact H
      · replace H := H.2 hc18
        exact H
  · replace H := H.2 hc8
    exact S_vreturn dX12_ahead_69 rfl H
set_option maxHeartbeats 2000000 in
set_option maxRecDepth 4000 in
theorem VX12_ahead_35 {l : Launch} {G : Gx} {d : Nat} {Q : Option Value → Hp → Prop} {sh : Sh} {fR : FRt} {B : Nat} {f : FI} {g : FL} {a1 : Int32} (hs : StM sh fR B)
    (H : LpX12_ahead_5 l G d Q sh fR B f g (a1 + nI 1)) :
    LpX12_ahead_35 l G d Q sh fR B f g a1 := by
  refine S_iinc (pc := 35) (v := nI 1) (L' := [some (.ref B), some (.int (a1 + nI 1)), none, none, none, none]) dX12_ahead_35 rfl ic1 rfl ?_
  refine S_goto (pc := 38) (tgt := 5) dX12_ahead_38 rfl ?_
  exact H
set_option maxHeartbeats 2000000 in
set_option maxRecDepth 4000 in
theorem VX12_ahead_98 {l : Launch} {G : Gx} {d : Nat} {Q : Option Value → Hp → Prop} {sh : Sh} {fR : FRt} {B : Nat} {f : FI} {g : FL} {a1 : Int32} {a2 : Int32} {a3 : Int32} (hs : StM sh fR B)
    (H : ((a1 ≤ 0 → LpX12_ahead_135 l G d Q sh fR B f g a1 a2 a3) ∧ (¬ a1 ≤ 0 → inb (a1 - (nI 1)) 1800 ∧ Cl l G d 0 0 mX12_isLetter [.int (f (B + 1) (a1 - (nI 1)).toNatClampNeg)] (sh, f, g, fR) (qi sh fR fun x23 f21 g22 => ((¬ x23 = 0 → LpX12_ahead_130 l G d Q sh fR B f21 g22 a1 a2 a3) ∧ (x23 = 0 → inb (a1 - (nI 1)) 1800 ∧ Cl l G d 0 0 mX12_isDigit [.int (f21 (B + 1) (a1 - (nI 1)).toNatClampNeg)] (sh, f21, g22, fR) (qi sh fR fun x28 f26 g27 => ((x28 = 0 → LpX12_ahead_135 l G d Q sh fR B f26 g27 a1 a2 a3) ∧ (¬ x28 = 0 → LpX12_ahead_130 l G d Q sh fR B f26 g27 a1 a2 a3))))))))) :
    LpX12_ahead_98 l G d Q sh fR B f g a1 a2 a3 := by
  refine S_iload_n (pc := 98) dX12_ahead_98 rfl rfl ?_
  refine S_if_le (pc := 99) (tgt := 135) dX12_ahead_99 rfl (fun hc19 => ?_) (fun hc19 => ?_)
  · replace H := H.1 hc19
    exact H
  · replace H := H.2 hc19
    refine S_aload_n (pc := 102) dX12_ahead_102 rfl rfl ?_
    refine S_getR (pc := 103) dX12_ahead_103 flX12_7 (sM_0 hs) rfl (rM_0 hs) ?_
    refine S_iload_n (pc := 106) dX12_ahead_106 rfl rfl ?_
    refine S_iconst (pc := 107) dX12_ahead_107 ic1 ?_
    refine S_isub (pc := 108) dX12_ahead_108 ?_
    obtain ⟨hb20, H⟩ := H
    refine S_iald (pc := 109) dX12_ahead_109 (sM_1 hs) hb20 ?_
    refine S_callS (As := [.int (f (B + 1) (a1 - (nI 1)).toNatClampNeg)]) (mc := 0) (ms := 0) (pc := 110) dX12_ahead_110 miX12_isLetter mvX12_isLetter mlX12_236 rfl rfl (RmOK.of rfl) H ?_
    rintro _ _ ⟨x23, f21, g22, rfl, rfl, H⟩
    show WP _ _ _ _ _ _ _ 113 [some (.ref B), some (.int a1), some (.int a2), some (.int a3), none, none] [.int x23] (sh, f21, g22, fR)
    refine S_if_ne (pc := 113) (tgt := 130) dX12_ahead_113 rfl (fun hc24 => ?_) (fun hc24 => ?_)
    · replace H := H.1 hc24
      exact H
    · replace H := H.2 hc24
      refine S_aload_n (pc := 116) dX12_ahead_116 rfl rfl ?_
      refine S_getR (pc := 117) dX12_ahead_117 flX12_7 (sM_0 hs) rfl (rM_0 hs) ?_
      refine S_iload_n (pc := 120) dX12_ahead_120 rfl rfl ?_
      refine S_iconst (pc := 121) dX12_ahead_121 ic1 ?_
      refine S_isub (pc := 122) dX12_ahead_122 ?_
      obtain ⟨hb25, H⟩ := H
      refine S_iald (pc := 123) dX12_ahead_123 (sM_1 hs) hb25 ?_
      refine S_callS (As := [.int (f21 (B + 1) (a1 - (nI 1)).toNatClampNeg)]) (mc := 0) (ms := 0) (pc := 124) dX12_ahead_124 miX12_isDigit mvX12_isDigit mlX12_240 rfl rfl (RmOK.of rfl) H ?_
      rintro _ _ ⟨x28, f26, g27, rfl, rfl, H⟩
      show WP _ _ _ _ _ _ _ 127 [some (.ref B), some (.int a1), some (.int a2), some (.int a3), none, none] [.int x28] (sh, f26, g27, fR)
      refine S_if_eq (pc := 127) (tgt := 135) dX12_ahead_127 rfl (fun hc29 => ?_) (fun hc29 => ?_)
      · replace H := H.1 hc29
        exact H
      · replace H := H.2 hc29
        exact H
set_option maxHeartbeats 2000000 in
set_option maxRecDepth 4000 in
theorem VX12_ahead_135 {l : Launch} {G : Gx} {d : Nat} {Q : Option Value → Hp → Prop} {sh : Sh} {fR : FRt} {B : Nat} {f : FI} {g : FL} {a1 : Int32} {a2 : Int32} {a3 : Int32} (hs : StM sh fR B)
    (H : ((¬ a2 = 0 → LpX12_ahead_176 l G d Q sh fR B (up2 (up2 (up2 f B 6 (nI 0)) B 3 (nI 3)) B 5 (a1 + (nI 1))) (up2 g B 7 (lN 0)) a1 a2 a3) ∧ (a2 = 0 → ((¬ a3 = 0 → LpX12_ahead_176 l G d Q sh fR B (up2 (up2 (up2 f B 6 (nI 0)) B 3 (nI 3)) B 5 (a1 + (nI 1))) (up2 g B 7 (lN 0)) a1 a2 a3) ∧ (a3 = 0 → inb a1 1800 ∧ Q none (sh, (up2 (up2 (up2 (up2 f B 6 (nI 0)) B 3 (nI 3)) B 5 (a1 + (nI 1))) B 6 (f (B + 1) a1.toNatClampNeg)), (up2 g B 7 (lN 0)), fR)))))) :
    LpX12_ahead_135 l G d Q sh fR B f g a1 a2 a3 := by
  refine S_aload_n (pc := 135) dX12_ahead_135 rfl rfl ?_
  refine S_iconst (pc := 136) dX12_ahead_136 ic0 ?_
  refine S_putI (pc := 137) dX12_ahead_137 flX12_29 (sM_0 hs) hs.2.2 (nf_12_6) rfl rfl (fun _ => rfl) ?_
  refine S_aload_n (pc := 140) dX12_ahead_140 rfl rfl ?_
  refine S_lconst (pc := 141) dX12_ahead_141 lc0 ?_
  refine S_putL (pc := 142) dX12_ahead_142 flX12_32 (sM_0 hs) hs.2.2 (nf_12_7) rfl ?_
  refine S_aload_n (pc := 145) dX12_ahead_145 rfl rfl ?_
  refine S_iconst (pc := 146) dX12_ahead_146 ic3 ?_
  refine S_putI (pc := 147) dX12_ahead_147 flX12_20 (sM_0 hs) hs.2.2 (nf_12_3) rfl rfl (fun _ => rfl) ?_
  refine S_aload_n (pc := 150) dX12_ahead_150 rfl rfl ?_
  refine S_iload_n (pc := 151) dX12_ahead_151 rfl rfl ?_
  refine S_iconst (pc := 152) dX12_ahead_152 ic1 ?_
  refine S_iadd (pc := 153) dX12_ahead_153 ?_
  refine S_putI (pc := 154) dX12_ahead_154 flX12_26 (sM_0 hs) hs.2.2 (nf_12_5) rfl rfl (fun _ => rfl) ?_
  refine S_iload_n (pc := 157) dX12_ahead_157 rfl rfl ?_
  refine S_if_ne (pc := 158) (tgt := 176) dX12_ahead_158 rfl (fun hc30 => ?_) (fun hc30 => ?_)
  · replace H := H.1 hc30
    exact H
  · replace H := H.2 hc30
    refine S_iload_n (pc := 161) dX12_ahead_161 rfl rfl ?_
    refine S_if_ne (pc := 162) (tgt := 176) dX12_ahead_162 rfl (fun hc31 => ?_) (fun hc31 => ?_)
    · replace H := H.1 hc31
      exact H
    · replace H := H.2 hc31
      refine S_aload_n (pc := 165) dX12_ahead_165 rfl rfl ?_
      refine S_aload_n (pc := 166) dX12_ahead_166 rfl rfl ?_
      refine S_getR (pc := 167) dX12_ahead_167 flX12_7 (sM_0 hs) rfl (rM_0 hs) ?_
      refine S_iload_n (pc := 170) dX12_ahead_170 rfl rfl ?_
      obtain ⟨hb32, H⟩ := H
      refine S_iald (pc := 171) dX12_ahead_171 (sM_1 hs) hb32 ?_
      refine S_eqi (x := f (B + 1) a1.toNatClampNeg) ((up2_r (by omega)).trans ((up2_r (by omega)).trans ((up2_r (by omega)).trans rfl))) ?_
      refine S_putI (pc := 172) dX12_ahead_172 flX12_29 (sM_0 hs) hs.2.2 (nf_12_6) rfl rfl (fun _ => rfl) ?_
      exact S_vreturn dX12_ahead_175 rfl H
set_option maxHeartbeats 2000000 in
set_option maxRecDepth 4000 in
theorem VX12_ahead_130 {l : Launch} {G : Gx} {d : Nat} {Q : Option Value → Hp → Prop} {sh : Sh} {fR : FRt} {B : Nat} {f : FI} {g : FL} {a1 : Int32} {a2 : Int32} {a3 : Int32} (hs : StM sh fR B)
    (H : LpX12_ahead_135 l G d Q sh fR B (up2 f B 12 a1) g a1 a2 a3) :
    LpX12_ahead_130 l G d Q sh fR B f g a1 a2 a3 := by
  refine S_aload_n (pc := 130) dX12_ahead_130 rfl rfl ?_
  refine S_iload_n (pc := 131) dX12_ahead_131 rfl rfl ?_
  refine S_putI (pc := 132) dX12_ahead_132 flX12_48 (sM_0 hs) hs.2.2 (nf_12_12) rfl rfl (fun _ => rfl) ?_
  exact H
set_option maxHeartbeats 2000000 in
set_option maxRecDepth 4000 in
theorem VX12_ahead_176 {l : Launch} {G : Gx} {d : Nat} {Q : Option Value → Hp → Prop} {sh : Sh} {fR : FRt} {B : Nat} {f : FI} {g : FL} {a1 : Int32} {a2 : Int32} {a3 : Int32} (hs : StM sh fR B)
    (H : ((a2 = 0 → ((a2 = 0 → LpX12_ahead_204 l G d Q sh fR B (up2 f B 3 (nI 2)) g a1 a2 a3 (nI 4) (nI 0)) ∧ (¬ a2 = 0 → LpX12_ahead_204 l G d Q sh fR B (up2 f B 3 (nI 2)) g a1 a2 a3 (nI 6) (nI 0)))) ∧ (¬ a2 = 0 → ((a2 = 0 → LpX12_ahead_204 l G d Q sh fR B (up2 f B 3 (nI 1)) g a1 a2 a3 (nI 4) (nI 0)) ∧ (¬ a2 = 0 → LpX12_ahead_204 l G d Q sh fR B (up2 f B 3 (nI 1)) g a1 a2 a3 (nI 6) (nI 0)))))) :
    LpX12_ahead_176 l G d Q sh fR B f g a1 a2 a3 := by
  refine S_aload_n (pc := 176) dX12_ahead_176 rfl rfl ?_
  refine S_iload_n (pc := 177) dX12_ahead_177 rfl rfl ?_
  refine S_if_eq (pc := 178) (tgt := 185) dX12_ahead_178 rfl (fun hc33 => ?_) (fun hc33 => ?_)
  · replace H := H.1 hc33
    refine S_iconst (pc := 185) dX12_ahead_185 ic2 ?_
    refine S_putI (pc := 186) dX12_ahead_186 flX12_20 (sM_0 hs) hs.2.2 (nf_12_3) rfl rfl (fun _ => rfl) ?_
    refine S_iload_n (pc := 189) dX12_ahead_189 rfl rfl ?_
    refine S_if_eq (pc := 190) (tgt := 198) dX12_ahead_190 rfl (fun hc34 => ?_) (fun hc34 => ?_)
    · replace H := H.1 hc34
      refine S_iconst (pc := 198) dX12_ahead_198 ic4 ?_
      refine S_istore (pc := 199) (L' := [some (.ref B), some (.int a1), some (.int a2), some (.int a3), some (.int (nI 4)), none]) dX12_ahead_199 (by decide) rfl ?_
      refine S_iconst (pc := 201) dX12_ahead_201 ic0 ?_
      refine S_istore (pc := 202) (L' := [some (.ref B), some (.int a1), some (.int a2), some (.int a3), some (.int (nI 4)), some (.int (nI 0))]) dX12_ahead_202 (by decide) rfl ?_
      exact H
    · replace H := H.2 hc34
      refine S_bipush (pc := 193) dX12_ahead_193 bp6 ?_
      refine S_goto (pc := 195) (tgt := 199) dX12_ahead_195 rfl ?_
      refine S_istore (pc := 199) (L' := [some (.ref B), some (.int a1), some (.int a2), some (.int a3), some (.int (nI 6)), none]) dX12_ahead_199 (by decide) rfl ?_
      refine S_iconst (pc := 201) dX12_ahead_201 ic0 ?_
      refine S_istore (pc := 202) (L' := [some (.ref B), some (.int a1), some (.int a2), some (.int a3), some (.int (nI 6)), some (.int (nI 0))]) dX12_ahead_202 (by decide) rfl ?_
      exact H
  · replace H := H.2 hc33
    refine S_iconst (pc := 181) dX12_ahead_181 ic1 ?_
    refine S_goto (pc := 182) (tgt := 186) dX12_ahead_182 rfl ?_
    refine S_putI (pc := 186) dX12_ahead_186 flX12_20 (sM_0 hs) hs.2.2 (nf_12_3) rfl rfl (fun _ => rfl) ?_
    refine S_iload_n (pc := 189) dX12_ahead_189 rfl rfl ?_
    refine S_if_eq (pc := 190) (tgt := 198) dX12_ahead_190 rfl (fun hc35 => ?_) (fun hc35 => ?_)
    · replace H := H.1 hc35
      refine S_iconst (pc := 198) dX12_ahead_198 ic4 ?_
      refine S_istore (pc := 199) (L' := [some (.ref B), some (.int a1), some (.int a2), some (.int a3), some (.int (nI 4)), none]) dX12_ahead_199 (by decide) rfl ?_
      refine S_iconst (pc := 201) dX12_ahead_201 ic0 ?_
      refine S_istore (pc := 202) (L' := [some (.ref B), some (.int a1), some (.int a2), some (.int a3), some (.int (nI 4)), some (.int (nI 0))]) dX12_ahead_202 (by decide) rfl ?_
      exact H
    · replace H := H.2 hc35
      refine S_bipush (pc := 193) dX12_ahead_193 bp6 ?_
      refine S_goto (pc := 195) (tgt := 199) dX12_ahead_195 rfl ?_
      refine S_istore (pc := 199) (L' := [some (.ref B), some (.int a1), some (.int a2), some (.int a3), some (.int (nI 6)), none]) dX12_ahead_199 (by decide) rfl ?_
      refine S_iconst (pc := 201) dX12_ahead_201 ic0 ?_
      refine S_istore (pc := 202) (L' := [some (.ref B), some (.int a1), some (.int a2), some (.int a3), some (.int (nI 6)), some (.int (nI 0))]) dX12_ahead_202 (by decide) rfl ?_
      exact H
set_option maxHeartbeats 2000000 in
set_option maxRecDepth 4000 in
theorem VX12_ahead_204 {l : Launch} {G : Gx} {d : Nat} {Q : Option Value → Hp → Prop} {sh : Sh} {fR : FRt} {B : Nat} {f : FI} {g : FL} {a1 : Int32} {a2 : Int32} {a3 : Int32} {a4 : Int32} {a5 : Int32} (hs : StM sh fR B)
    (H : (((f B 2) ≤ a1 → Q none (sh, (up2 f B 5 a1), g, fR)) ∧ (¬ (f B 2) ≤ a1 → ((a2 = 0 → inb a1 1800 ∧ Cl l G d 0 0 mX12_isDigit [.int (f (B + 1) a1.toNatClampNeg)] (sh, f, g, fR) (qi sh fR fun x41 f39 g40 => ((x41 = 0 → Q none (sh, (up2 f39 B 5 a1), g40, fR)) ∧ (¬ x41 = 0 → LpX12_ahead_243 l G d Q sh fR B f39 g40 a1 a2 a3 a4 a5)))) ∧ (¬ a2 = 0 → inb a1 1800 ∧ Cl l G d 0 0 mX12_isLetter [.int (f (B + 1) a1.toNatClampNeg)] (sh, f, g, fR) (qi sh fR fun x46 f44 g45 => ((x46 = 0 → Q none (sh, (up2 f44 B 5 a1), g45, fR)) ∧ (¬ x46 = 0 → LpX12_ahead_243 l G d Q sh fR B f44 g45 a1 a2 a3 a4 a5)))))))) :
    LpX12_ahead_204 l G d Q sh fR B f g a1 a2 a3 a4 a5 := by
  refine S_iload_n (pc := 204) dX12_ahead_204 rfl rfl ?_
  refine S_aload_n (pc := 205) dX12_ahead_205 rfl rfl ?_
  refine S_get (pc := 206) (v := .int (f B 2)) dX12_ahead_206 flX12_17 (sM_0 hs) rfl ?_
  refine S_icmp_ge (pc := 209) (tgt := 334) dX12_ahead_209 rfl (fun hc36 => ?_) (fun hc36 => ?_)
  · replace H := H.1 hc36
    refine S_aload_n (pc := 334) dX12_ahead_334 rfl rfl ?_
    refine S_iload_n (pc := 335) dX12_ahead_335 rfl rfl ?_
    refine S_putI (pc := 336) dX12_ahead_336 flX12_26 (sM_0 hs) hs.2.2 (nf_12_5) rfl rfl (fun _ => rfl) ?_
    exact S_vreturn dX12_ahead_339 rfl H
  · replace H := H.2 hc36
    refine S_iload_n (pc := 212) dX12_ahead_212 rfl rfl ?_
    refine S_if_eq (pc := 213) (tgt := 231) dX12_ahead_213 rfl (fun hc37 => ?_) (fun hc37 => ?_)
    · replace H := H.1 hc37
      refine S_aload_n (pc := 231) dX12_ahead_231 rfl rfl ?_
      refine S_getR (pc := 232) dX12_ahead_232 flX12_7 (sM_0 hs) rfl (rM_0 hs) ?_
      refine S_iload_n (pc := 235) dX12_ahead_235 rfl rfl ?_
      obtain ⟨hb38, H⟩ := H
      refine S_iald (pc := 236) dX12_ahead_236 (sM_1 hs) hb38 ?_
      refine S_callS (As := [.int (f (B + 1) a1.toNatClampNeg)]) (mc := 0) (ms := 0) (pc := 237) dX12_ahead_237 miX12_isDigit mvX12_isDigit mlX12_240 rfl rfl (RmOK.of rfl) H ?_
      rintro _ _ ⟨x41, f39, g40, rfl, rfl, H⟩
      show WP _ _ _ _ _ _ _ 240 [some (.ref B), some (.int a1), some (.int a2), some (.int a3), some (.int a4), some (.int a5)] [.int x41] (sh, f39, g40, fR)
      refine S_if_eq (pc := 240) (tgt := 334) dX12_ahead_240 rfl (fun hc42 => ?_) (fun hc42 => ?_)
      · replace H := H.1 hc42
        refine S_aload_n (pc := 334) dX12_ahead_334 rfl rfl ?_
        refine S_iload_n (pc := 335) dX12_ahead_335 rfl rfl ?_
        refine S_putI (pc := 336) dX12_ahead_336 flX12_26 (sM_0 hs) hs.2.2 (nf_12_5) rfl rfl (fun _ => rfl) ?_
        exact S_vreturn dX12_ahead_339 rfl H
      · replace H := H.2 hc42
        exact H
    · replace H := H.2 hc37
      refine S_aload_n (pc := 216) dX12_ahead_216 rfl rfl ?_
      refine S_getR (pc := 217) dX12_ahead_217 flX12_7 (sM_0 hs) rfl (rM_0 hs) ?_
      refine S_iload_n (pc := 220) dX12_ahead_220 rfl rfl ?_
      obtain ⟨hb43, H⟩ := H
      refine S_iald (pc := 221) dX12_ahead_221 (sM_1 hs) hb43 ?_
      refine S_callS (As := [.int (f (B + 1) a1.toNatClampNeg)]) (mc := 0) (ms := 0) (pc := 222) dX12_ahead_222 miX12_isLetter mvX12_isLetter mlX12_236 rfl rfl (RmOK.of rfl) H ?_
      rintro _ _ ⟨x46, f44, g45, rfl, rfl, H⟩
      show WP _ _ _ _ _ _ _ 225 [some (.ref B), some (.int a1), some (.int a2), some (.int a3), some (.int a4), some (.int a5)] [.int x46] (sh, f44, g45, fR)
      refine S_if_eq (pc := 225) (tgt := 334) dX12_ahead_225 rfl (fun hc47 => ?_) (fun hc47 => ?_)
      · replace H := H.1 hc47
        refine S_aload_n (pc := 334) dX12_ahead_334 rfl rfl ?_
        refine S_iload_n (pc := 335) dX12_ahead_335 rfl rfl ?_
        refine S_putI (pc := 336) dX12_ahead_336 flX12_26 (sM_0 hs) hs.2.2 (nf_12_5) rfl rfl (fun _ => rfl) ?_
        exact S_vreturn dX12_ahead_339 rfl H
      · replace H := H.2 hc47
        refine S_goto (pc := 228) (tgt := 243) dX12_ahead_228 rfl ?_
        exact H
set_option maxHeartbeats 2000000 in
set_option maxRecDepth 4000 in
theorem VX12_ahead_243 {l : Launch} {G : Gx} {d : Nat} {Q : Option Value → Hp → Prop} {sh : Sh} {fR : FRt} {B : Nat} {f : FI} {g : FL} {a1 : Int32} {a2 : Int32} {a3 : Int32} {a4 : Int32} {a5 : Int32} (hs : StM sh fR B)
    (H : ((¬ a5 = a4 → LpX12_ahead_263 l G d Q sh fR B f g a1 a2 a3 a4 a5) ∧ (a5 = a4 → ((¬ (f B 12) = (-1) → LpX12_ahead_263 l G d Q sh fR B f g a1 a2 a3 a4 a5) ∧ ((f B 12) = (-1) → LpX12_ahead_263 l G d Q sh fR B (up2 f B 12 a1) g a1 a2 a3 a4 a5))))) :
    LpX12_ahead_243 l G d Q sh fR B f g a1 a2 a3 a4 a5 := by
  refine S_iload (pc := 243) dX12_ahead_243 rfl ?_
  refine S_iload (pc := 245) dX12_ahead_245 rfl ?_
  refine S_icmp_ne (pc := 247) (tgt := 263) dX12_ahead_247 rfl (fun hc48 => ?_) (fun hc48 => ?_)
  · replace H := H.1 hc48
    exact H
  · replace H := H.2 hc48
    refine S_aload_n (pc := 250) dX12_ahead_250 rfl rfl ?_
    refine S_get (pc := 251) (v := .int (f B 12)) dX12_ahead_251 flX12_48 (sM_0 hs) rfl ?_
    refine S_iconst (pc := 254) dX12_ahead_254 icm1 ?_
    refine S_icmp_ne (pc := 255) (tgt := 263) dX12_ahead_255 rfl (fun hc49 => ?_) (fun hc49 => ?_)
    · replace H := H.1 hc49
      exact H
    · replace H := H.2 hc49
      refine S_aload_n (pc := 258) dX12_ahead_258 rfl rfl ?_
      refine S_iload_n (pc := 259) dX12_ahead_259 rfl rfl ?_
      refine S_putI (pc := 260) dX12_ahead_260 flX12_48 (sM_0 hs) hs.2.2 (nf_12_12) rfl rfl (fun _ => rfl) ?_
      exact H
set_option maxHeartbeats 2000000 in
set_option maxRecDepth 4000 in
theorem VX12_ahead_263 {l : Launch} {G : Gx} {d : Nat} {Q : Option Value → Hp → Prop} {sh : Sh} {fR : FRt} {B : Nat} {f : FI} {g : FL} {a1 : Int32} {a2 : Int32} {a3 : Int32} {a4 : Int32} {a5 : Int32} (hs : StM sh fR B)
    (H : ((a4 ≤ a5 → LpX12_ahead_293 l G d Q sh fR B f g a1 a2 a3 a4 a5) ∧ (¬ a4 ≤ a5 → ((a2 = 0 → LpX12_ahead_293 l G d Q sh fR B f g a1 a2 a3 a4 a5) ∧ (¬ a2 = 0 → inb a1 1800 ∧ LpX12_ahead_293 l G d Q sh fR B f (up2 g B 7 (((g B 7) <<< ((nI 8).toInt64 &&& 63)) ||| ((f (B + 1) a1.toNatClampNeg).toInt64))) a1 a2 a3 a4 a5))))) :
    LpX12_ahead_263 l G d Q sh fR B f g a1 a2 a3 a4 a5 := by
  refine S_iload (pc := 263) dX12_ahead_263 rfl ?_
  refine S_iload (pc := 265) dX12_ahead_265 rfl ?_
  refine S_icmp_ge (pc := 267) (tgt := 293) dX12_ahead_267 rfl (fun hc50 => ?_) (fun hc50 => ?_)
  · replace H := H.1 hc50
    exact H
  · replace H := H.2 hc50
    refine S_iload_n (pc := 270) dX12_ahead_270 rfl rfl ?_
    refine S_if_eq (pc := 271) (tgt := 293) dX12_ahead_271 rfl (fun hc51 => ?_) (fun hc51 => ?_)
    · replace H := H.1 hc51
      exact H
    · replace H := H.2 hc51
      refine S_aload_n (pc := 274) dX12_ahead_274 rfl rfl ?_
      refine S_aload_n (pc := 275) dX12_ahead_275 rfl rfl ?_
      refine S_get (pc := 276) (v := .long (g B 7)) dX12_ahead_276 flX12_32 (sM_0 hs) rfl ?_
      refine S_bipush (pc := 279) dX12_ahead_279 bp8 ?_
      refine S_lshl (pc := 281) dX12_ahead_281 ?_
      refine S_aload_n (pc := 282) dX12_ahead_282 rfl rfl ?_
      refine S_getR (pc := 283) dX12_ahead_283 flX12_7 (sM_0 hs) rfl (rM_0 hs) ?_
      refine S_iload_n (pc := 286) dX12_ahead_286 rfl rfl ?_
      obtain ⟨hb52, H⟩ := H
      refine S_iald (pc := 287) dX12_ahead_287 (sM_1 hs) hb52 ?_
      refine S_i2l (pc := 288) dX12_ahead_288 ?_
      refine S_lor (pc := 289) dX12_ahead_289 ?_
      refine S_putL (pc := 290) dX12_ahead_290 flX12_32 (sM_0 hs) hs.2.2 (nf_12_7) rfl ?_
      exact H
set_option maxHeartbeats 2000000 in
set_option maxRecDepth 4000 in
theorem VX12_ahead_293 {l : Launch} {G : Gx} {d : Nat} {Q : Option Value → Hp → Prop} {sh : Sh} {fR : FRt} {B : Nat} {f : FI} {g : FL} {a1 : Int32} {a2 : Int32} {a3 : Int32} {a4 : Int32} {a5 : Int32} (hs : StM sh fR B)
    (H : ((a4 ≤ a5 → LpX12_ahead_325 l G d Q sh fR B f g a1 a2 a3 a4 a5) ∧ (¬ a4 ≤ a5 → ((a3 = 0 → LpX12_ahead_325 l G d Q sh fR B f g a1 a2 a3 a4 a5) ∧ (¬ a3 = 0 → inb a1 1800 ∧ LpX12_ahead_325 l G d Q sh fR B (up2 f B 6 ((((nI 10) * (f B 6)) + (f (B + 1) a1.toNatClampNeg)) - (nI 48))) g a1 a2 a3 a4 a5))))) :
    LpX12_ahead_293 l G d Q sh fR B f g a1 a2 a3 a4 a5 := by
  refine S_iload (pc := 293) dX12_ahead_293 rfl ?_
  refine S_iload (pc := 295) dX12_ahead_295 rfl ?_
  refine S_icmp_ge (pc := 297) (tgt := 325) dX12_ahead_297 rfl (fun hc53 => ?_) (fun hc53 => ?_)
  · replace H := H.1 hc53
    exact H
  · replace H := H.2 hc53
    refine S_iload_n (pc := 300) dX12_ahead_300 rfl rfl ?_
    refine S_if_eq (pc := 301) (tgt := 325) dX12_ahead_301 rfl (fun hc54 => ?_) (fun hc54 => ?_)
    · replace H := H.1 hc54
      exact H
    · replace H := H.2 hc54
      refine S_aload_n (pc := 304) dX12_ahead_304 rfl rfl ?_
      refine S_bipush (pc := 305) dX12_ahead_305 bp10 ?_
      refine S_aload_n (pc := 307) dX12_ahead_307 rfl rfl ?_
      refine S_get (pc := 308) (v := .int (f B 6)) dX12_ahead_308 flX12_29 (sM_0 hs) rfl ?_
      refine S_imul (pc := 311) dX12_ahead_311 ?_
      refine S_aload_n (pc := 312) dX12_ahead_312 rfl rfl ?_
      refine S_getR (pc := 313) dX12_ahead_313 flX12_7 (sM_0 hs) rfl (rM_0 hs) ?_
      refine S_iload_n (pc := 316) dX12_ahead_316 rfl rfl ?_
      obtain ⟨hb55, H⟩ := H
      refine S_iald (pc := 317) dX12_ahead_317 (sM_1 hs) hb55 ?_
      refine S_iadd (pc := 318) dX12_ahead_318 ?_
      refine S_bipush (pc := 319) dX12_ahead_319 bp48 ?_
      refine S_isub (pc := 321) dX12_ahead_321 ?_
      refine S_putI (pc := 322) dX12_ahead_322 flX12_29 (sM_0 hs) hs.2.2 (nf_12_6) rfl rfl (fun _ => rfl) ?_
      exact H
set_option maxHeartbeats 2000000 in
set_option maxRecDepth 4000 in
theorem VX12_ahead_325 {l : Launch} {G : Gx} {d : Nat} {Q : Option Value → Hp → Prop} {sh : Sh} {fR : FRt} {B : Nat} {f : FI} {g : FL} {a1 : Int32} {a2 : Int32} {a3 : Int32} {a4 : Int32} {a5 : Int32} (hs : StM sh fR B)
    (H : LpX12_ahead_204 l G d Q sh fR B f g (a1 + nI 1) a2 a3 a4 (a5 + nI 1)) :
    LpX12_ahead_325 l G d Q sh fR B f g a1 a2 a3 a4 a5 := by
  refine S_iinc (pc := 325) (v := nI 1) (L' := [some (.ref B), some (.int a1), some (.int a2), some (.int a3), some (.int a4), some (.int (a5 + nI 1))]) dX12_ahead_325 rfl ic1 rfl ?_
  refine S_iinc (pc := 328) (v := nI 1) (L' := [some (.ref B), some (.int (a1 + nI 1)), some (.int a2), some (.int a3), some (.int a4), some (.int (a5 + nI 1))]) dX12_ahead_328 rfl ic1 rfl ?_
  refine S_goto (pc := 331) (tgt := 204) dX12_ahead_331 rfl ?_
  exact H
set_option maxHeartbeats 2000000 in
set_option maxRecDepth 4000 in
theorem VX12_isSign {l : Launch} {G : Gx} {d : Nat} {Q : Option Value → Hp → Prop} {sh : Sh} {fR : FRt} {B : Nat} {f : FI} {g : FL} {a1 : Int32} (hs : StM sh fR B)
    (H : ((¬ (f B 3) = (nI 3) → Q (some (.int (nI 0))) (sh, f, g, fR)) ∧ ((f B 3) = (nI 3) → ((¬ (f B 6) = a1 → Q (some (.int (nI 0))) (sh, f, g, fR)) ∧ ((f B 6) = a1 → Q (some (.int (nI 1))) (sh, f, g, fR)))))) :
    Cl l G d 0 0 mX12_isSign [.ref B, .int a1] (sh, f, g, fR) Q := by
  refine Cl.of (L0 := [some (.ref B), some (.int a1)]) miX12_isSign rfl rfl ?_
  refine S_aload_n (pc := 0) dX12_isSign_0 rfl rfl ?_
  refine S_get (pc := 1) (v := .int (f B 3)) dX12_isSign_1 flX12_20 (sM_0 hs) rfl ?_
  refine S_iconst (pc := 4) dX12_isSign_4 ic3 ?_
  refine S_icmp_ne (pc := 5) (tgt := 20) dX12_isSign_5 rfl (fun hc1 => ?_) (fun hc1 => ?_)
  · replace H := H.1 hc1
    refine S_iconst (pc := 20) dX12_isSign_20 ic0 ?_
    exact S_zreturn dX12_isSign_21 rfl (Or.inl rfl) H
  · replace H := H.2 hc1
    refine S_aload_n (pc := 8) dX12_isSign_8 rfl rfl ?_
    refine S_get (pc := 9) (v := .int (f B 6)) dX12_isSign_9 flX12_29 (sM_0 hs) rfl ?_
    refine S_iload_n (pc := 12) dX12_isSign_12 rfl rfl ?_
    refine S_icmp_ne (pc := 13) (tgt := 20) dX12_isSign_13 rfl (fun hc2 => ?_) (fun hc2 => ?_)
    · replace H := H.1 hc2
      refine S_iconst (pc := 20) dX12_isSign_20 ic0 ?_
      exact S_zreturn dX12_isSign_21 rfl (Or.inl rfl) H
    · replace H := H.2 hc2
      refine S_iconst (pc := 16) dX12_isSign_16 ic1 ?_
      refine S_goto (pc := 17) (tgt := 21) dX12_isSign_17 rfl ?_
      exact S_zreturn dX12_isSign_21 rfl (Or.inr rfl) H
set_option maxHeartbeats 2000000 in
set_option maxRecDepth 4000 in
theorem VX12_isWord {l : Launch} {G : Gx} {d : Nat} {Q : Option Value → Hp → Prop} {sh : Sh} {fR : FRt} {B : Nat} {f : FI} {g : FL} {b1 : Int64} (hs : StM sh fR B)
    (H : ((¬ (f B 3) = (nI 1) → Q (some (.int (nI 0))) (sh, f, g, fR)) ∧ ((f B 3) = (nI 1) → ((¬ (g B 7) = b1 → Q (some (.int (nI 0))) (sh, f, g, fR)) ∧ ((g B 7) = b1 → Q (some (.int (nI 1))) (sh, f, g, fR)))))) :
    Cl l G d 0 0 mX12_isWord [.ref B, .long b1] (sh, f, g, fR) Q := by
  refine Cl.of (L0 := [some (.ref B), some (.long b1), none]) miX12_isWord rfl rfl ?_
  refine S_aload_n (pc := 0) dX12_isWord_0 rfl rfl ?_
  refine S_get (pc := 1) (v := .int (f B 3)) dX12_isWord_1 flX12_20 (sM_0 hs) rfl ?_
  refine S_iconst (pc := 4) dX12_isWord_4 ic1 ?_
  refine S_icmp_ne (pc := 5) (tgt := 21) dX12_isWord_5 rfl (fun hc1 => ?_) (fun hc1 => ?_)
  · replace H := H.1 hc1
    refine S_iconst (pc := 21) dX12_isWord_21 ic0 ?_
    exact S_zreturn dX12_isWord_22 rfl (Or.inl rfl) H
  · replace H := H.2 hc1
    refine S_aload_n (pc := 8) dX12_isWord_8 rfl rfl ?_
    refine S_get (pc := 9) (v := .long (g B 7)) dX12_isWord_9 flX12_32 (sM_0 hs) rfl ?_
    refine S_lload_n (pc := 12) dX12_isWord_12 rfl rfl ?_
    refine S_lcmp_ne (pc := 13) (tgt := 21) dX12_isWord_13 dX12_isWord_14 rfl (fun hc2 => ?_) (fun hc2 => ?_)
    · replace H := H.1 hc2
      refine S_iconst (pc := 21) dX12_isWord_21 ic0 ?_
      exact S_zreturn dX12_isWord_22 rfl (Or.inl rfl) H
    · replace H := H.2 hc2
      refine S_iconst (pc := 17) dX12_isWord_17 ic1 ?_
      refine S_goto (pc := 18) (tgt := 22) dX12_isWord_18 rfl ?_
      exact S_zreturn dX12_isWord_22 rfl (Or.inr rfl) H
set_option maxHeartbeats 2000000 in
set_option maxRecDepth 4000 in
theorem VX12_must {l : Launch} {G : Gx} {d : Nat} {Q : Option Value → Hp → Prop} {sh : Sh} {fR : FRt} {B : Nat} {f : FI} {g : FL} {a1 : Int32} (hs : StM sh fR B)
    (H : Cl l G (d + 1) 0 0 mX12_lex [.ref B] (sh, f, g, fR) (qv sh fR fun f1 g2 => Cl l G (d + 1) 0 0 mX12_isSign [.ref B, .int a1] (sh, f1, g2, fR) (qi sh fR fun x5 f3 g4 => ((¬ x5 = 0 → ((¬ (f3 B 8) = 0 → Q none (sh, f3, g4, fR)) ∧ ((f3 B 8) = 0 → Cl l G (d + 1) 0 0 mX12_ahead [.ref B] (sh, f3, g4, fR) (qv sh fR fun f8 g9 => Q none (sh, f8, g9, fR))))) ∧ (x5 = 0 → Cl l G (d + 1) 0 0 mX12_blame [.ref B, .int (nI 1), .int (f3 B 4)] (sh, f3, g4, fR) (qv sh fR fun f10 g11 => ((¬ (f10 B 8) = 0 → Q none (sh, f10, g11, fR)) ∧ ((f10 B 8) = 0 → Cl l G (d + 1) 0 0 mX12_ahead [.ref B] (sh, f10, g11, fR) (qv sh fR fun f13 g14 => Q none (sh, f13, g14, fR)))))))))) :
    Cl l G (d + 2) 0 0 mX12_must [.ref B, .int a1] (sh, f, g, fR) Q := by
  refine Cl.of (L0 := [some (.ref B), some (.int a1)]) miX12_must rfl rfl ?_
  refine S_aload_n (pc := 0) dX12_must_0 rfl rfl ?_
  refine S_callV (As := []) (mc := 0) (ms := 0) (pc := 1) dX12_must_1 miX12_lex mvX12_lex mlX12_243 rfl (sM_0 hs) rfl rfl rfl (RmOK.of rfl) H ?_
  rintro _ _ ⟨f1, g2, rfl, rfl, H⟩
  show WP _ _ _ _ _ _ _ 4 [some (.ref B), some (.int a1)] [] (sh, f1, g2, fR)
  refine S_aload_n (pc := 4) dX12_must_4 rfl rfl ?_
  refine S_iload_n (pc := 5) dX12_must_5 rfl rfl ?_
  refine S_callV (As := [.int a1]) (mc := 0) (ms := 0) (pc := 6) dX12_must_6 miX12_isSign mvX12_isSign mlX12_246 rfl (sM_0 hs) rfl rfl rfl (RmOK.of rfl) H ?_
  rintro _ _ ⟨x5, f3, g4, rfl, rfl, H⟩
  show WP _ _ _ _ _ _ _ 9 [some (.ref B), some (.int a1)] [.int x5] (sh, f3, g4, fR)
  refine S_if_ne (pc := 9) (tgt := 21) dX12_must_9 rfl (fun hc6 => ?_) (fun hc6 => ?_)
  · replace H := H.1 hc6
    refine S_aload_n (pc := 21) dX12_must_21 rfl rfl ?_
    refine S_get (pc := 22) (v := .int (f3 B 8)) dX12_must_22 flX12_36 (sM_0 hs) rfl ?_
    refine S_if_ne (pc := 25) (tgt := 32) dX12_must_25 rfl (fun hc7 => ?_) (fun hc7 => ?_)
    · replace H := H.1 hc7
      exact S_vreturn dX12_must_32 rfl H
    · replace H := H.2 hc7
      refine S_aload_n (pc := 28) dX12_must_28 rfl rfl ?_
      refine S_callV (As := []) (mc := 0) (ms := 0) (pc := 29) dX12_must_29 miX12_ahead mvX12_ahead mlX12_249 rfl (sM_0 hs) rfl rfl rfl (RmOK.of rfl) H ?_
      rintro _ _ ⟨f8, g9, rfl, rfl, H⟩
      show WP _ _ _ _ _ _ _ 32 [some (.ref B), some (.int a1)] [] (sh, f8, g9, fR)
      exact S_vreturn dX12_must_32 rfl H
  · replace H := H.2 hc6
    refine S_aload_n (pc := 12) dX12_must_12 rfl rfl ?_
    refine S_iconst (pc := 13) dX12_must_13 ic1 ?_
    refine S_aload_n (pc := 14) dX12_must_14 rfl rfl ?_
    refine S_get (pc := 15) (v := .int (f3 B 4)) dX12_must_15 flX12_23 (sM_0 hs) rfl ?_
    refine S_callV (As := [.int (nI 1), .int (f3 B 4)]) (mc := 0) (ms := 0) (pc := 18) dX12_must_18 miX12_blame mvX12_blame mlX12_232 rfl (sM_0 hs) rfl rfl rfl (RmOK.of rfl) H ?_
    rintro _ _ ⟨f10, g11, rfl, rfl, H⟩
    show WP _ _ _ _ _ _ _ 21 [some (.ref B), some (.int a1)] [] (sh, f10, g11, fR)
    refine S_aload_n (pc := 21) dX12_must_21 rfl rfl ?_
    refine S_get (pc := 22) (v := .int (f10 B 8)) dX12_must_22 flX12_36 (sM_0 hs) rfl ?_
    refine S_if_ne (pc := 25) (tgt := 32) dX12_must_25 rfl (fun hc12 => ?_) (fun hc12 => ?_)
    · replace H := H.1 hc12
      exact S_vreturn dX12_must_32 rfl H
    · replace H := H.2 hc12
      refine S_aload_n (pc := 28) dX12_must_28 rfl rfl ?_
      refine S_callV (As := []) (mc := 0) (ms := 0) (pc := 29) dX12_must_29 miX12_ahead mvX12_ahead mlX12_249 rfl (sM_0 hs) rfl rfl rfl (RmOK.of rfl) H ?_
      rintro _ _ ⟨f13, g14, rfl, rfl, H⟩
      show WP _ _ _ _ _ _ _ 32 [some (.ref B), some (.int a1)] [] (sh, f13, g14, fR)
      exact S_vreturn dX12_must_32 rfl H
set_option maxHeartbeats 2000000 in
set_option maxRecDepth 4000 in
theorem VX12_isOwn {l : Launch} {G : Gx} {d : Nat} {Q : Option Value → Hp → Prop} {sh : Sh} {fR : FRt} {B : Nat} {f : FI} {g : FL} {b1 : Int64} (hs : StM sh fR B)
    (H : ((b1 = (lN 126943972647277) → Q (some (.int (nI 1))) (sh, f, g, fR)) ∧ (¬ b1 = (lN 126943972647277) → ((b1 = (lN 1970170228) → Q (some (.int (nI 1))) (sh, f, g, fR)) ∧ (¬ b1 = (lN 1970170228) → ((b1 = (lN 131294707347319) → Q (some (.int (nI 1))) (sh, f, g, fR)) ∧ (¬ b1 = (lN 131294707347319) → ((b1 = (lN 7038329) → Q (some (.int (nI 1))) (sh, f, g, fR)) ∧ (¬ b1 = (lN 7038329) → ((¬ b1 = (lN 1885434984) → ((b1 = (lN 431198331257) → Q (some (.int (nI 1))) (sh, f, g, fR)) ∧ (¬ b1 = (lN 431198331257) → ((b1 = (lN 1785686382) → Q (some (.int (nI 1))) (sh, f, g, fR)) ∧ (¬ b1 = (lN 1785686382) → ((b1 = (lN 24948) → Q (some (.int (nI 1))) (sh, f, g, fR)) ∧ (¬ b1 = (lN 24948) → ((b1 = (lN 500085515630) → Q (some (.int (nI 1))) (sh, f, g, fR)) ∧ (¬ b1 = (lN 500085515630) → ((¬ b1 = (lN 1819243379) → ((b1 = (lN 431416635507) → Q (some (.int (nI 1))) (sh, f, g, fR)) ∧ (¬ b1 = (lN 431416635507) → ((b1 = (lN 482804460403) → Q (some (.int (nI 1))) (sh, f, g, fR)) ∧ (¬ b1 = (lN 482804460403) → ((b1 = (lN 491327153267) → Q (some (.int (nI 1))) (sh, f, g, fR)) ∧ (¬ b1 = (lN 491327153267) → ((b1 = (lN 512735409267) → Q (some (.int (nI 1))) (sh, f, g, fR)) ∧ (¬ b1 = (lN 512735409267) → ((¬ b1 = (lN 1953063787) → ((b1 = (lN 121450625394034) → Q (some (.int (nI 1))) (sh, f, g, fR)) ∧ (¬ b1 = (lN 121450625394034) → ((b1 = (lN 1718775661) → Q (some (.int (nI 1))) (sh, f, g, fR)) ∧ (¬ b1 = (lN 1718775661) → ((b1 = (lN 1668771428) → Q (some (.int (nI 1))) (sh, f, g, fR)) ∧ (¬ b1 = (lN 1668771428) → ((b1 = (lN 112616079453799) → Q (some (.int (nI 1))) (sh, f, g, fR)) ∧ (¬ b1 = (lN 112616079453799) → ((¬ b1 = (lN 439720963187) → ((b1 = (lN 491327153273) → Q (some (.int (nI 1))) (sh, f, g, fR)) ∧ (¬ b1 = (lN 491327153273) → ((b1 = (lN 418363302244) → Q (some (.int (nI 1))) (sh, f, g, fR)) ∧ (¬ b1 = (lN 418363302244) → ((b1 = (lN 26982) → Q (some (.int (nI 1))) (sh, f, g, fR)) ∧ (¬ b1 = (lN 26982) → ((b1 = (lN 28530) → Q (some (.int (nI 1))) (sh, f, g, fR)) ∧ (¬ b1 = (lN 28530) → ((¬ b1 = (lN 6385252) → ((b1 = (lN 7237492) → Q (some (.int (nI 1))) (sh, f, g, fR)) ∧ (¬ b1 = (lN 7237492) → ((b1 = (lN 6384748) → Q (some (.int (nI 1))) (sh, f, g, fR)) ∧ (¬ b1 = (lN 6384748) → ((b1 = (lN 7170414) → Q (some (.int (nI 1))) (sh, f, g, fR)) ∧ (¬ b1 = (lN 7170414) → ((¬ b1 = (lN 7168376) → Q (some (.int (nI 0))) (sh, f, g, fR)) ∧ (b1 = (lN 7168376) → Q (some (.int (nI 1))) (sh, f, g, fR)))))))))) ∧ (b1 = (lN 6385252) → Q (some (.int (nI 1))) (sh, f, g, fR)))))))))))) ∧ (b1 = (lN 439720963187) → Q (some (.int (nI 1))) (sh, f, g, fR)))))))))))) ∧ (b1 = (lN 1953063787) → Q (some (.int (nI 1))) (sh, f, g, fR)))))))))))) ∧ (b1 = (lN 1819243379) → Q (some (.int (nI 1))) (sh, f, g, fR)))))))))))) ∧ (b1 = (lN 1885434984) → Q (some (.int (nI 1))) (sh, f, g, fR)))))))))))) :
    Cl l G d 0 0 mX12_isOwn [.ref B, .long b1] (sh, f, g, fR) Q := by
  refine Cl.of (L0 := [some (.ref B), some (.long b1), none]) miX12_isOwn rfl rfl ?_
  refine S_lload_n (pc := 0) dX12_isOwn_0 rfl rfl ?_
  refine S_ldc2 (pc := 1) (v := lN 126943972647277) dX12_isOwn_1 (gw 1420 rfl rfl) ?_
  refine S_lcmp_eq (pc := 4) (tgt := 40) dX12_isOwn_4 dX12_isOwn_5 rfl (fun hc1 => ?_) (fun hc1 => ?_)
  · replace H := H.1 hc1
    refine S_iconst (pc := 40) dX12_isOwn_40 ic1 ?_
    exact S_zreturn dX12_isOwn_41 rfl (Or.inr rfl) H
  · replace H := H.2 hc1
    refine S_lload_n (pc := 8) dX12_isOwn_8 rfl rfl ?_
    refine S_ldc2 (pc := 9) (v := lN 1970170228) dX12_isOwn_9 (gw 1444 rfl rfl) ?_
    refine S_lcmp_eq (pc := 12) (tgt := 40) dX12_isOwn_12 dX12_isOwn_13 rfl (fun hc2 => ?_) (fun hc2 => ?_)
    · replace H := H.1 hc2
      refine S_iconst (pc := 40) dX12_isOwn_40 ic1 ?_
      exact S_zreturn dX12_isOwn_41 rfl (Or.inr rfl) H
    · replace H := H.2 hc2
      refine S_lload_n (pc := 16) dX12_isOwn_16 rfl rfl ?_
      refine S_ldc2 (pc := 17) (v := lN 131294707347319) dX12_isOwn_17 (gw 1445 rfl rfl) ?_
      refine S_lcmp_eq (pc := 20) (tgt := 40) dX12_isOwn_20 dX12_isOwn_21 rfl (fun hc3 => ?_) (fun hc3 => ?_)
      · replace H := H.1 hc3
        refine S_iconst (pc := 40) dX12_isOwn_40 ic1 ?_
        exact S_zreturn dX12_isOwn_41 rfl (Or.inr rfl) H
      · replace H := H.2 hc3
        refine S_lload_n (pc := 24) dX12_isOwn_24 rfl rfl ?_
        refine S_ldc2 (pc := 25) (v := lN 7038329) dX12_isOwn_25 (gw 1446 rfl rfl) ?_
        refine S_lcmp_eq (pc := 28) (tgt := 40) dX12_isOwn_28 dX12_isOwn_29 rfl (fun hc4 => ?_) (fun hc4 => ?_)
        · replace H := H.1 hc4
          refine S_iconst (pc := 40) dX12_isOwn_40 ic1 ?_
          exact S_zreturn dX12_isOwn_41 rfl (Or.inr rfl) H
        · replace H := H.2 hc4
          refine S_lload_n (pc := 32) dX12_isOwn_32 rfl rfl ?_
          refine S_ldc2 (pc := 33) (v := lN 1885434984) dX12_isOwn_33 (gw 1463 rfl rfl) ?_
          refine S_lcmp_ne (pc := 36) (tgt := 42) dX12_isOwn_36 dX12_isOwn_37 rfl (fun hc5 => ?_) (fun hc5 => ?_)
          · replace H := H.1 hc5
            refine S_lload_n (pc := 42) dX12_isOwn_42 rfl rfl ?_
            refine S_ldc2 (pc := 43) (v := lN 431198331257) dX12_isOwn_43 (gw 1476 rfl rfl) ?_
            refine S_lcmp_eq (pc := 46) (tgt := 82) dX12_isOwn_46 dX12_isOwn_47 rfl (fun hc6 => ?_) (fun hc6 => ?_)
            · replace H := H.1 hc6
              refine S_iconst (pc := 82) dX12_isOwn_82 ic1 ?_
              exact S_zreturn dX12_isOwn_83 rfl (Or.inr rfl) H
            · replace H := H.2 hc6
              refine S_lload_n (pc := 50) dX12_isOwn_50 rfl rfl ?_
              refine S_ldc2 (pc := 51) (v := lN 1785686382) dX12_isOwn_51 (gw 1477 rfl rfl) ?_
              refine S_lcmp_eq (pc := 54) (tgt := 82) dX12_isOwn_54 dX12_isOwn_55 rfl (fun hc7 => ?_) (fun hc7 => ?_)
              · replace H := H.1 hc7
                refine S_iconst (pc := 82) dX12_isOwn_82 ic1 ?_
                exact S_zreturn dX12_isOwn_83 rfl (Or.inr rfl) H
              · replace H := H.2 hc7
                refine S_lload_n (pc := 58) dX12_isOwn_58 rfl rfl ?_
                refine S_ldc2 (pc := 59) (v := lN 24948) dX12_isOwn_59 (gw 1478 rfl rfl) ?_
                refine S_lcmp_eq (pc := 62) (tgt := 82) dX12_isOwn_62 dX12_isOwn_63 rfl (fun hc8 => ?_) (fun hc8 => ?_)
                · replace H := H.1 hc8
                  refine S_iconst (pc := 82) dX12_isOwn_82 ic1 ?_
                  exact S_zreturn dX12_isOwn_83 rfl (Or.inr rfl) H
                · replace H := H.2 hc8
                  refine S_lload_n (pc := 66) dX12_isOwn_66 rfl rfl ?_
                  refine S_ldc2 (pc := 67) (v := lN 500085515630) dX12_isOwn_67 (gw 1479 rfl rfl) ?_
                  refine S_lcmp_eq (pc := 70) (tgt := 82) dX12_isOwn_70 dX12_isOwn_71 rfl (fun hc9 => ?_) (fun hc9 => ?_)
                  · replace H := H.1 hc9
                    refine S_iconst (pc := 82) dX12_isOwn_82 ic1 ?_
                    exact S_zreturn dX12_isOwn_83 rfl (Or.inr rfl) H
                  · replace H := H.2 hc9
                    refine S_lload_n (pc := 74) dX12_isOwn_74 rfl rfl ?_
                    refine S_ldc2 (pc := 75) (v := lN 1819243379) dX12_isOwn_75 (gw 1480 rfl rfl) ?_
                    refine S_lcmp_ne (pc := 78) (tgt := 84) dX12_isOwn_78 dX12_isOwn_79 rfl (fun hc10 => ?_) (fun hc10 => ?_)
                    · replace H := H.1 hc10
                      refine S_lload_n (pc := 84) dX12_isOwn_84 rfl rfl ?_
                      refine S_ldc2 (pc := 85) (v := lN 431416635507) dX12_isOwn_85 (gw 1481 rfl rfl) ?_
                      refine S_lcmp_eq (pc := 88) (tgt := 124) dX12_isOwn_88 dX12_isOwn_89 rfl (fun hc11 => ?_) (fun hc11 => ?_)
                      · replace H := H.1 hc11
                        refine S_iconst (pc := 124) dX12_isOwn_124 ic1 ?_
                        exact S_zreturn dX12_isOwn_125 rfl (Or.inr rfl) H
                      · replace H := H.2 hc11
                        refine S_lload_n (pc := 92) dX12_isOwn_92 rfl rfl ?_
                        refine S_ldc2 (pc := 93) (v := lN 482804460403) dX12_isOwn_93 (gw 1482 rfl rfl) ?_
                        refine S_lcmp_eq (pc := 96) (tgt := 124) dX12_isOwn_96 dX12_isOwn_97 rfl (fun hc12 => ?_) (fun hc12 => ?_)
                        · replace H := H.1 hc12
                          refine S_iconst (pc := 124) dX12_isOwn_124 ic1 ?_
                          exact S_zreturn dX12_isOwn_125 rfl (Or.inr rfl) H
                        · replace H := H.2 hc12
                          refine S_lload_n (pc := 100) dX12_isOwn_100 rfl rfl ?_
                          refine S_ldc2 (pc := 101) (v := lN 491327153267) dX12_isOwn_101 (gw 1483 rfl rfl) ?_
                          refine S_lcmp_eq (pc := 104) (tgt := 124) dX12_isOwn_104 dX12_isOwn_105 rfl (fun hc13 => ?_) (fun hc13 => ?_)
                          · replace H := H.1 hc13
                            refine S_iconst (pc := 124) dX12_isOwn_124 ic1 ?_
                            exact S_zreturn dX12_isOwn_125 rfl (Or.inr rfl) H
                          · replace H := H.2 hc13
                            refine S_lload_n (pc := 108) dX12_isOwn_108 rfl rfl ?_
                            refine S_ldc2 (pc := 109) (v := lN 512735409267) dX12_isOwn_109 (gw 1484 rfl rfl) ?_
                            refine S_lcmp_eq (pc := 112) (tgt := 124) dX12_isOwn_112 dX12_isOwn_113 rfl (fun hc14 => ?_) (fun hc14 => ?_)
                            · replace H := H.1 hc14
                              refine S_iconst (pc := 124) dX12_isOwn_124 ic1 ?_
                              exact S_zreturn dX12_isOwn_125 rfl (Or.inr rfl) H
                            · replace H := H.2 hc14
                              refine S_lload_n (pc := 116) dX12_isOwn_116 rfl rfl ?_
                              refine S_ldc2 (pc := 117) (v := lN 1953063787) dX12_isOwn_117 (gw 1485 rfl rfl) ?_
                              refine S_lcmp_ne (pc := 120) (tgt := 126) dX12_isOwn_120 dX12_isOwn_121 rfl (fun hc15 => ?_) (fun hc15 => ?_)
                              · replace H := H.1 hc15
                                refine S_lload_n (pc := 126) dX12_isOwn_126 rfl rfl ?_
                                refine S_ldc2 (pc := 127) (v := lN 121450625394034) dX12_isOwn_127 (gw 1486 rfl rfl) ?_
                                refine S_lcmp_eq (pc := 130) (tgt := 166) dX12_isOwn_130 dX12_isOwn_131 rfl (fun hc16 => ?_) (fun hc16 => ?_)
                                · replace H := H.1 hc16
                                  refine S_iconst (pc := 166) dX12_isOwn_166 ic1 ?_
                                  exact S_zreturn dX12_isOwn_167 rfl (Or.inr rfl) H
                                · replace H := H.2 hc16
                                  refine S_lload_n (pc := 134) dX12_isOwn_134 rfl rfl ?_
                                  refine S_ldc2 (pc := 135) (v := lN 1718775661) dX12_isOwn_135 (gw 1487 rfl rfl) ?_
                                  refine S_lcmp_eq (pc := 138) (tgt := 166) dX12_isOwn_138 dX12_isOwn_139 rfl (fun hc17 => ?_) (fun hc17 => ?_)
                                  · replace H := H.1 hc17
                                    refine S_iconst (pc := 166) dX12_isOwn_166 ic1 ?_
                                    exact S_zreturn dX12_isOwn_167 rfl (Or.inr rfl) H
                                  · replace H := H.2 hc17
                                    refine S_lload_n (pc := 142) dX12_isOwn_142 rfl rfl ?_
                                    refine S_ldc2 (pc := 143) (v := lN 1668771428) dX12_isOwn_143 (gw 1488 rfl rfl) ?_
                                    refine S_lcmp_eq (pc := 146) (tgt := 166) dX12_isOwn_146 dX12_isOwn_147 rfl (fun hc18 => ?_) (fun hc18 => ?_)
                                    · replace H := H.1 hc18
                                      refine S_iconst (pc := 166) dX12_isOwn_166 ic1 ?_
                                      exact S_zreturn dX12_isOwn_167 rfl (Or.inr rfl) H
                                    · replace H := H.2 hc18
                                      refine S_lload_n (pc := 150) dX12_isOwn_150 rfl rfl ?_
                                      refine S_ldc2 (pc := 151) (v := lN 112616079453799) dX12_isOwn_151 (gw 1489 rfl rfl) ?_
                                      refine S_lcmp_eq (pc := 154) (tgt := 166) dX12_isOwn_154 dX12_isOwn_155 rfl (fun hc19 => ?_) (fun hc19 => ?_)
                                      · replace H := H.1 hc19
                                        refine S_iconst (pc := 166) dX12_isOwn_166 ic1 ?_
                                        exact S_zreturn dX12_isOwn_167 rfl (Or.inr rfl) H
                                      · replace H := H.2 hc19
                                        refine S_lload_n (pc := 158) dX12_isOwn_158 rfl rfl ?_
                                        refine S_ldc2 (pc := 159) (v := lN 439720963187) dX12_isOwn_159 (gw 1490 rfl rfl) ?_
                                        refine S_lcmp_ne (pc := 162) (tgt := 168) dX12_isOwn_162 dX12_isOwn_163 rfl (fun hc20 => ?_) (fun hc20 => ?_)
                                        · replace H := H.1 hc20
                                          refine S_lload_n (pc := 168) dX12_isOwn_168 rfl rfl ?_
                                          refine S_ldc2 (pc := 169) (v := lN 491327153273) dX12_isOwn_169 (gw 1491 rfl rfl) ?_
                                          refine S_lcmp_eq (pc := 172) (tgt := 208) dX12_isOwn_172 dX12_isOwn_173 rfl (fun hc21 => ?_) (fun hc21 => ?_)
                                          · replace H := H.1 hc21
                                            refine S_iconst (pc := 208) dX12_isOwn_208 ic1 ?_
                                            exact S_zreturn dX12_isOwn_209 rfl (Or.inr rfl) H
                                          · replace H := H.2 hc21
                                            refine S_lload_n (pc := 176) dX12_isOwn_176 rfl rfl ?_
                                            refine S_ldc2 (pc := 177) (v := lN 418363302244) dX12_isOwn_177 (gw 1492 rfl rfl) ?_
                                            refine S_lcmp_eq (pc := 180) (tgt := 208) dX12_isOwn_180 dX12_isOwn_181 rfl (fun hc22 => ?_) (fun hc22 => ?_)
                                            · replace H := H.1 hc22
                                              refine S_iconst (pc := 208) dX12_isOwn_208 ic1 ?_
                                              exact S_zreturn dX12_isOwn_209 rfl (Or.inr rfl) H
                                            · replace H := H.2 hc22
                                              refine S_lload_n (pc := 184) dX12_isOwn_184 rfl rfl ?_
                                              refine S_ldc2 (pc := 185) (v := lN 26982) dX12_isOwn_185 (gw 1493 rfl rfl) ?_
                                              refine S_lcmp_eq (pc := 188) (tgt := 208) dX12_isOwn_188 dX12_isOwn_189 rfl (fun hc23 => ?_) (fun hc23 => ?_)
                                              · replace H := H.1 hc23
                                                refine S_iconst (pc := 208) dX12_isOwn_208 ic1 ?_
                                                exact S_zreturn dX12_isOwn_209 rfl (Or.inr rfl) H
                                              · replace H := H.2 hc23
                                                refine S_lload_n (pc := 192) dX12_isOwn_192 rfl rfl ?_
                                                refine S_ldc2 (pc := 193) (v := lN 28530) dX12_isOwn_193 (gw 1494 rfl rfl) ?_
                                                refine S_lcmp_eq (pc := 196) (tgt := 208) dX12_isOwn_196 dX12_isOwn_197 rfl (fun hc24 => ?_) (fun hc24 => ?_)
                                                · replace H := H.1 hc24
                                                  refine S_iconst (pc := 208) dX12_isOwn_208 ic1 ?_
                                                  exact S_zreturn dX12_isOwn_209 rfl (Or.inr rfl) H
                                                · replace H := H.2 hc24
                                                  refine S_lload_n (pc := 200) dX12_isOwn_200 rfl rfl ?_
                                                  refine S_ldc2 (pc := 201) (v := lN 6385252) dX12_isOwn_201 (gw 1495 rfl rfl) ?_
                                                  refine S_lcmp_ne (pc := 204) (tgt := 210) dX12_isOwn_204 dX12_isOwn_205 rfl (fun hc25 => ?_) (fun hc25 => ?_)
                                                  · replace H := H.1 hc25
                                                    refine S_lload_n (pc := 210) dX12_isOwn_210 rfl rfl ?_
                                                    refine S_ldc2 (pc := 211) (v := lN 7237492) dX12_isOwn_211 (gw 1496 rfl rfl) ?_
                                                    refine S_lcmp_eq (pc := 214) (tgt := 242) dX12_isOwn_214 dX12_isOwn_215 rfl (fun hc26 => ?_) (fun hc26 => ?_)
                                                    · replace H := H.1 hc26
                                                      refine S_iconst (pc := 242) dX12_isOwn_242 ic1 ?_
                                                      exact S_zreturn dX12_isOwn_243 rfl (Or.inr rfl) H
                                                    · replace H := H.2 hc26
                                                      refine S_lload_n (pc := 218) dX12_isOwn_218 rfl rfl ?_
                                                      refine S_ldc2 (pc := 219) (v := lN 6384748) dX12_isOwn_219 (gw 1497 rfl rfl) ?_
                                                      refine S_lcmp_eq (pc := 222) (tgt := 242) dX12_isOwn_222 dX12_isOwn_223 rfl (fun hc27 => ?_) (fun hc27 => ?_)
                                                      · replace H := H.1 hc27
                                                        refine S_iconst (pc := 242) dX12_isOwn_242 ic1 ?_
                                                        exact S_zreturn dX12_isOwn_243 rfl (Or.inr rfl) H
                                                      · replace H := H.2 hc27
                                                        refine S_lload_n (pc := 226) dX12_isOwn_226 rfl rfl ?_
                                                        refine S_ldc2 (pc := 227) (v := lN 7170414) dX12_isOwn_227 (gw 1498 rfl rfl) ?_
                                                        refine S_lcmp_eq (pc := 230) (tgt := 242) dX12_isOwn_230 dX12_isOwn_231 rfl (fun hc28 => ?_) (fun hc28 => ?_)
                                                        · replace H := H.1 hc28
                                                          refine S_iconst (pc := 242) dX12_isOwn_242 ic1 ?_
                                                          exact S_zreturn dX12_isOwn_243 rfl (Or.inr rfl) H
                                                        · replace H := H.2 hc28
                                                          refine S_lload_n (pc := 234) dX12_isOwn_234 rfl rfl ?_
                                                          refine S_ldc2 (pc := 235) (v := lN 7168376) dX12_isOwn_235 (gw 1499 rfl rfl) ?_
                                                          refine S_lcmp_ne (pc := 238) (tgt := 244) dX12_isOwn_238 dX12_isOwn_239 rfl (fun hc29 => ?_) (fun hc29 => ?_)
                                                          · replace H := H.1 hc29
                                                            refine S_iconst (pc := 244) dX12_isOwn_244 ic0 ?_
                                                            exact S_zreturn dX12_isOwn_245 rfl (Or.inl rfl) H
                                                          · replace H := H.2 hc29
                                                            refine S_iconst (pc := 242) dX12_isOwn_242 ic1 ?_
                                                            exact S_zreturn dX12_isOwn_243 rfl (Or.inr rfl) H
                                                  · replace H := H.2 hc25
                                                    refine S_iconst (pc := 208) dX12_isOwn_208 ic1 ?_
                                                    exact S_zreturn dX12_isOwn_209 rfl (Or.inr rfl) H
                                        · replace H := H.2 hc20
                                          refine S_iconst (pc := 166) dX12_isOwn_166 ic1 ?_
                                          exact S_zreturn dX12_isOwn_167 rfl (Or.inr rfl) H
                              · replace H := H.2 hc15
                                refine S_iconst (pc := 124) dX12_isOwn_124 ic1 ?_
                                exact S_zreturn dX12_isOwn_125 rfl (Or.inr rfl) H
                    · replace H := H.2 hc10
                      refine S_iconst (pc := 82) dX12_isOwn_82 ic1 ?_
                      exact S_zreturn dX12_isOwn_83 rfl (Or.inr rfl) H
          · replace H := H.2 hc5
            refine S_iconst (pc := 40) dX12_isOwn_40 ic1 ?_
            exact S_zreturn dX12_isOwn_41 rfl (Or.inr rfl) H
set_option maxHeartbeats 2000000 in
set_option maxRecDepth 4000 in
theorem VX12_askedIn {l : Launch} {G : Gx} {d : Nat} {Q : Option Value → Hp → Prop} {sh : Sh} {fR : FRt} {B : Nat} {f : FI} {g : FL} {a0 : Int32} (hs : StM sh fR B)
    (H : ((¬ a0 = 0 → ((¬ a0 = (nI 1) → ((¬ a0 = (nI 2) → Q (some (.int (nI 354))) (sh, f, g, fR)) ∧ (a0 = (nI 2) → Q (some (.int (nI 1538))) (sh, f, g, fR)))) ∧ (a0 = (nI 1) → Q (some (.int (nI 230))) (sh, f, g, fR)))) ∧ (a0 = 0 → Q (some (.int (nI 30))) (sh, f, g, fR)))) :
    Cl l G d 0 0 mX12_askedIn [.int a0] (sh, f, g, fR) Q := by
  refine Cl.of (L0 := [some (.int a0)]) miX12_askedIn rfl rfl ?_
  refine S_iload_n (pc := 0) dX12_askedIn_0 rfl rfl ?_
  refine S_if_ne (pc := 1) (tgt := 9) dX12_askedIn_1 rfl (fun hc1 => ?_) (fun hc1 => ?_)
  · replace H := H.1 hc1
    refine S_iload_n (pc := 9) dX12_askedIn_9 rfl rfl ?_
    refine S_iconst (pc := 10) dX12_askedIn_10 ic1 ?_
    refine S_icmp_ne (pc := 11) (tgt := 20) dX12_askedIn_11 rfl (fun hc2 => ?_) (fun hc2 => ?_)
    · replace H := H.1 hc2
      refine S_iload_n (pc := 20) dX12_askedIn_20 rfl rfl ?_
      refine S_iconst (pc := 21) dX12_askedIn_21 ic2 ?_
      refine S_icmp_ne (pc := 22) (tgt := 31) dX12_askedIn_22 rfl (fun hc3 => ?_) (fun hc3 => ?_)
      · replace H := H.1 hc3
        refine S_sipush (pc := 31) dX12_askedIn_31 sp354 ?_
        exact S_ireturn dX12_askedIn_34 rfl H
      · replace H := H.2 hc3
        refine S_sipush (pc := 25) dX12_askedIn_25 sp1538 ?_
        refine S_goto (pc := 28) (tgt := 34) dX12_askedIn_28 rfl ?_
        exact S_ireturn dX12_askedIn_34 rfl H
    · replace H := H.2 hc2
      refine S_sipush (pc := 14) dX12_askedIn_14 sp230 ?_
      refine S_goto (pc := 17) (tgt := 34) dX12_askedIn_17 rfl ?_
      exact S_ireturn dX12_askedIn_34 rfl H
  · replace H := H.2 hc1
    refine S_bipush (pc := 4) dX12_askedIn_4 bp30 ?_
    refine S_goto (pc := 6) (tgt := 34) dX12_askedIn_6 rfl ?_
    exact S_ireturn dX12_askedIn_34 rfl H
abbrev LpX12_pathNamed_2 (l : Launch) (G : Gx) (d : Nat) (Q : Option Value → Hp → Prop) (sh : Sh) (fR : FRt) (B : Nat) (f : FI) (g : FL) (b1 : Int64) (a3 : Int32) : Prop := WP l G (Zq G 0 0 Q) mX12_pathNamed (rmd d 0 0) 0 0 2 [some (.ref B), some (.long b1), none, some (.int a3)] [] (sh, f, g, fR)
set_option maxHeartbeats 2000000 in
set_option maxRecDepth 4000 in
theorem VX12_pathNamed {l : Launch} {G : Gx} {d : Nat} {Q : Option Value → Hp → Prop} {sh : Sh} {fR : FRt} {B : Nat} {f : FI} {g : FL} {b1 : Int64} (hs : StM sh fR B)
    (H : LpX12_pathNamed_2 l G d Q sh fR B f g b1 (nI 0)) :
    Cl l G d 0 0 mX12_pathNamed [.ref B, .long b1] (sh, f, g, fR) Q := by
  refine Cl.of (L0 := [some (.ref B), some (.long b1), none, none]) miX12_pathNamed rfl rfl ?_
  refine S_iconst (pc := 0) dX12_pathNamed_0 ic0 ?_
  refine S_istore_n (pc := 1) (L' := [some (.ref B), some (.long b1), none, some (.int (nI 0))]) dX12_pathNamed_1 rfl (by decide) rfl ?_
  exact H
set_option maxHeartbeats 2000000 in
set_option maxRecDepth 4000 in
theorem VX12_pathNamed_2 {l : Launch} {G : Gx} {d : Nat} {Q : Option Value → Hp → Prop} {sh : Sh} {fR : FRt} {B : Nat} {f : FI} {g : FL} {b1 : Int64} {a3 : Int32} (hs : StM sh fR B)
    (H : inb (f B 29) 2 ∧ (((f (B + 6) (f B 29).toNatClampNeg) ≤ a3 → Q (some (.int (-1))) (sh, f, g, fR)) ∧ (¬ (f (B + 6) (f B 29).toNatClampNeg) ≤ a3 → inb (((nI 4) * (f B 29)) + a3) 8 ∧ ((¬ (g (B + 15) (((nI 4) * (f B 29)) + a3).toNatClampNeg) = b1 → LpX12_pathNamed_2 l G d Q sh fR B f g b1 (a3 + nI 1)) ∧ ((g (B + 15) (((nI 4) * (f B 29)) + a3).toNatClampNeg) = b1 → Q (some (.int a3)) (sh, f, g, fR)))))) :
    LpX12_pathNamed_2 l G d Q sh fR B f g b1 a3 := by
  refine S_iload_n (pc := 2) dX12_pathNamed_2 rfl rfl ?_
  refine S_aload_n (pc := 3) dX12_pathNamed_3 rfl rfl ?_
  refine S_getR (pc := 4) dX12_pathNamed_4 flX12_66 (sM_0 hs) rfl (rM_18 hs) ?_
  refine S_aload_n (pc := 7) dX12_pathNamed_7 rfl rfl ?_
  refine S_get (pc := 8) (v := .int (f B 29)) dX12_pathNamed_8 flX12_100 (sM_0 hs) rfl ?_
  obtain ⟨hb1, H⟩ := H
  refine S_iald (pc := 11) dX12_pathNamed_11 (sM_6 hs) hb1 ?_
  refine S_icmp_ge (pc := 12) (tgt := 41) dX12_pathNamed_12 rfl (fun hc2 => ?_) (fun hc2 => ?_)
  · replace H := H.1 hc2
    refine S_iconst (pc := 41) dX12_pathNamed_41 icm1 ?_
    exact S_ireturn dX12_pathNamed_42 rfl H
  · replace H := H.2 hc2
    refine S_aload_n (pc := 15) dX12_pathNamed_15 rfl rfl ?_
    refine S_getR (pc := 16) dX12_pathNamed_16 flX12_93 (sM_0 hs) rfl (rM_27 hs) ?_
    refine S_iconst (pc := 19) dX12_pathNamed_19 ic4 ?_
    refine S_aload_n (pc := 20) dX12_pathNamed_20 rfl rfl ?_
    refine S_get (pc := 21) (v := .int (f B 29)) dX12_pathNamed_21 flX12_100 (sM_0 hs) rfl ?_
    refine S_imul (pc := 24) dX12_pathNamed_24 ?_
    refine S_iload_n (pc := 25) dX12_pathNamed_25 rfl rfl ?_
    refine S_iadd (pc := 26) dX12_pathNamed_26 ?_
    obtain ⟨hb3, H⟩ := H
    refine S_lald (pc := 27) dX12_pathNamed_27 (sM_15 hs) hb3 ?_
    refine S_lload_n (pc := 28) dX12_pathNamed_28 rfl rfl ?_
    refine S_lcmp_ne (pc := 29) (tgt := 35) dX12_pathNamed_29 dX12_pathNamed_30 rfl (fun hc4 => ?_) (fun hc4 => ?_)
    · replace H := H.1 hc4
      refine S_iinc (pc := 35) (v := nI 1) (L' := [some (.ref B), some (.long b1), none, some (.int (a3 + nI 1))]) dX12_pathNamed_35 rfl ic1 rfl ?_
      refine S_goto (pc := 38) (tgt := 2) dX12_pathNamed_38 rfl ?_
      exact H
    · replace H := H.2 hc4
      refine S_iload_n (pc := 33) dX12_pathNamed_33 rfl rfl ?_
      exact S_ireturn dX12_pathNamed_34 rfl H
abbrev LpX12_number_30 (l : Launch) (G : Gx) (d : Nat) (Q : Option Value → Hp → Prop) (sh : Sh) (fR : FRt) (B : Nat) (f : FI) (g : FL) (a1 : Int32) (a2 : Int32) : Prop := WP l G (Zq G 0 0 Q) mX12_number (rmd (d + 2) 0 0) 0 0 30 [some (.ref B), some (.int a1), some (.int a2), none] [] (sh, f, g, fR)
abbrev LpX12_number_58 (l : Launch) (G : Gx) (d : Nat) (Q : Option Value → Hp → Prop) (sh : Sh) (fR : FRt) (B : Nat) (f : FI) (g : FL)  : Prop := WP l G (Zq G 0 0 Q) mX12_number (rmd (d + 2) 0 0) 0 0 58 [some (.ref B), none, none, none] [] (sh, f, g, fR)
set_option maxHeartbeats 2000000 in
set_option maxRecDepth 4000 in
theorem VX12_number {l : Launch} {G : Gx} {d : Nat} {Q : Option Value → Hp → Prop} {sh : Sh} {fR : FRt} {B : Nat} {f : FI} {g : FL} {a1 : Int32} {a2 : Int32} (hs : StM sh fR B)
    (H : Cl l G (d + 1) 0 0 mX12_lex [.ref B] (sh, f, g, fR) (qv sh fR fun f1 g2 => (((f1 B 8) ≤ 0 → (((f1 B 3) = (nI 2) → LpX12_number_30 l G d Q sh fR B f1 g2 a1 a2) ∧ (¬ (f1 B 3) = (nI 2) → Cl l G (d + 1) 0 0 mX12_blame [.ref B, .int (nI 1), .int (f1 B 4)] (sh, f1, g2, fR) (qv sh fR fun f5 g6 => LpX12_number_30 l G d Q sh fR B f5 g6 a1 a2)))) ∧ (¬ (f1 B 8) ≤ 0 → Q (some (.int (nI 0))) (sh, f1, g2, fR))))) :
    Cl l G (d + 2) 0 0 mX12_number [.ref B, .int a1, .int a2] (sh, f, g, fR) Q := by
  refine Cl.of (L0 := [some (.ref B), some (.int a1), some (.int a2), none]) miX12_number rfl rfl ?_
  refine S_aload_n (pc := 0) dX12_number_0 rfl rfl ?_
  refine S_callV (As := []) (mc := 0) (ms := 0) (pc := 1) dX12_number_1 miX12_lex mvX12_lex mlX12_243 rfl (sM_0 hs) rfl rfl rfl (RmOK.of rfl) H ?_
  rintro _ _ ⟨f1, g2, rfl, rfl, H⟩
  show WP _ _ _ _ _ _ _ 4 [some (.ref B), some (.int a1), some (.int a2), none] [] (sh, f1, g2, fR)
  refine S_aload_n (pc := 4) dX12_number_4 rfl rfl ?_
  refine S_get (pc := 5) (v := .int (f1 B 8)) dX12_number_5 flX12_36 (sM_0 hs) rfl ?_
  refine S_if_le (pc := 8) (tgt := 13) dX12_number_8 rfl (fun hc3 => ?_) (fun hc3 => ?_)
  · replace H := H.1 hc3
    refine S_aload_n (pc := 13) dX12_number_13 rfl rfl ?_
    refine S_get (pc := 14) (v := .int (f1 B 3)) dX12_number_14 flX12_20 (sM_0 hs) rfl ?_
    refine S_iconst (pc := 17) dX12_number_17 ic2 ?_
    refine S_icmp_eq (pc := 18) (tgt := 30) dX12_number_18 rfl (fun hc4 => ?_) (fun hc4 => ?_)
    · replace H := H.1 hc4
      exact H
    · replace H := H.2 hc4
      refine S_aload_n (pc := 21) dX12_number_21 rfl rfl ?_
      refine S_iconst (pc := 22) dX12_number_22 ic1 ?_
      refine S_aload_n (pc := 23) dX12_number_23 rfl rfl ?_
      refine S_get (pc := 24) (v := .int (f1 B 4)) dX12_number_24 flX12_23 (sM_0 hs) rfl ?_
      refine S_callV (As := [.int (nI 1), .int (f1 B 4)]) (mc := 0) (ms := 0) (pc := 27) dX12_number_27 miX12_blame mvX12_blame mlX12_232 rfl (sM_0 hs) rfl rfl rfl (RmOK.of rfl) H ?_
      rintro _ _ ⟨f5, g6, rfl, rfl, H⟩
      show WP _ _ _ _ _ _ _ 30 [some (.ref B), some (.int a1), some (.int a2), none] [] (sh, f5, g6, fR)
      exact H
  · replace H := H.2 hc3
    refine S_iconst (pc := 11) dX12_number_11 ic0 ?_
    exact S_ireturn dX12_number_12 rfl H
set_option maxHeartbeats 2000000 in
set_option maxRecDepth 4000 in
theorem VX12_number_30 {l : Launch} {G : Gx} {d : Nat} {Q : Option Value → Hp → Prop} {sh : Sh} {fR : FRt} {B : Nat} {f : FI} {g : FL} {a1 : Int32} {a2 : Int32} (hs : StM sh fR B)
    (H : ((¬ (f B 8) = 0 → LpX12_number_58 l G d Q sh fR B f g) ∧ ((f B 8) = 0 → Cl l G (d + 1) 0 0 mX12_is [.int (f B 6), .int a1, .int a2] (sh, f, g, fR) (qi sh fR fun x10 f8 g9 => ((¬ x10 = 0 → LpX12_number_58 l G d Q sh fR B f8 g9) ∧ (x10 = 0 → Cl l G (d + 1) 0 0 mX12_blame [.ref B, .int (nI 4), .int (f8 B 4)] (sh, f8, g9, fR) (qv sh fR fun f12 g13 => LpX12_number_58 l G d Q sh fR B f12 g13))))))) :
    LpX12_number_30 l G d Q sh fR B f g a1 a2 := by
  refine S_aload_n (pc := 30) dX12_number_30 rfl rfl ?_
  refine S_get (pc := 31) (v := .int (f B 8)) dX12_number_31 flX12_36 (sM_0 hs) rfl ?_
  refine S_if_ne (pc := 34) (tgt := 58) dX12_number_34 rfl (fun hc7 => ?_) (fun hc7 => ?_)
  · replace H := H.1 hc7
    exact S_weak (L' := [some (.ref B), none, none, none]) (ls_e (ls_n (ls_n (ls_e ls_0)))) H
  · replace H := H.2 hc7
    refine S_aload_n (pc := 37) dX12_number_37 rfl rfl ?_
    refine S_get (pc := 38) (v := .int (f B 6)) dX12_number_38 flX12_29 (sM_0 hs) rfl ?_
    refine S_iload_n (pc := 41) dX12_number_41 rfl rfl ?_
    refine S_iload_n (pc := 42) dX12_number_42 rfl rfl ?_
    refine S_callS (As := [.int (f B 6), .int a1, .int a2]) (mc := 0) (ms := 0) (pc := 43) dX12_number_43 miX12_is mvX12_is mlX12_310 rfl rfl (RmOK.of rfl) H ?_
    rintro _ _ ⟨x10, f8, g9, rfl, rfl, H⟩
    show WP _ _ _ _ _ _ _ 46 [some (.ref B), some (.int a1), some (.int a2), none] [.int x10] (sh, f8, g9, fR)
    refine S_if_ne (pc := 46) (tgt := 58) dX12_number_46 rfl (fun hc11 => ?_) (fun hc11 => ?_)
    · replace H := H.1 hc11
      exact S_weak (L' := [some (.ref B), none, none, none]) (ls_e (ls_n (ls_n (ls_e ls_0)))) H
    · replace H := H.2 hc11
      refine S_aload_n (pc := 49) dX12_number_49 rfl rfl ?_
      refine S_iconst (pc := 50) dX12_number_50 ic4 ?_
      refine S_aload_n (pc := 51) dX12_number_51 rfl rfl ?_
      refine S_get (pc := 52) (v := .int (f8 B 4)) dX12_number_52 flX12_23 (sM_0 hs) rfl ?_
      refine S_callV (As := [.int (nI 4), .int (f8 B 4)]) (mc := 0) (ms := 0) (pc := 55) dX12_number_55 miX12_blame mvX12_blame mlX12_232 rfl (sM_0 hs) rfl rfl rfl (RmOK.of rfl) H ?_
      rintro _ _ ⟨f12, g13, rfl, rfl, H⟩
      show WP _ _ _ _ _ _ _ 58 [some (.ref B), some (.int a1), some (.int a2), none] [] (sh, f12, g13, fR)
      exact S_weak (L' := [some (.ref B), none, none, none]) (ls_e (ls_n (ls_n (ls_e ls_0)))) H
set_option maxHeartbeats 2000000 in
set_option maxRecDepth 4000 in
theorem VX12_number_58 {l : Launch} {G : Gx} {d : Nat} {Q : Option Value → Hp → Prop} {sh : Sh} {fR : FRt} {B : Nat} {f : FI} {g : FL}  (hs : StM sh fR B)
    (H : (∀ w14 : Int32, w14 = f B 6 → ((¬ (f B 8) = 0 → Q (some (.int w14)) (sh, f, g, fR)) ∧ ((f B 8) = 0 → Cl l G (d + 1) 0 0 mX12_ahead [.ref B] (sh, f, g, fR) (qv sh fR fun f17 g18 => Q (some (.int w14)) (sh, f17, g18, fR)))))) :
    LpX12_number_58 l G d Q sh fR B f g  := by
  refine S_aload_n (pc := 58) dX12_number_58 rfl rfl ?_
  refine S_get (pc := 59) (v := .int (f B 6)) dX12_number_59 flX12_29 (sM_0 hs) rfl ?_
  refine S_namei (fun w14 e15 => ?_)
  replace H := H w14 e15
  refine S_istore_n (pc := 62) (L' := [some (.ref B), none, none, some (.int w14)]) dX12_number_62 rfl (by decide) rfl ?_
  refine S_aload_n (pc := 63) dX12_number_63 rfl rfl ?_
  refine S_get (pc := 64) (v := .int (f B 8)) dX12_number_64 flX12_36 (sM_0 hs) rfl ?_
  refine S_if_ne (pc := 67) (tgt := 74) dX12_number_67 rfl (fun hc16 => ?_) (fun hc16 => ?_)
  · replace H := H.1 hc16
    refine S_iload_n (pc := 74) dX12_number_74 rfl rfl ?_
    exact S_ireturn dX12_number_75 rfl H
  · replace H := H.2 hc16
    refine S_aload_n (pc := 70) dX12_number_70 rfl rfl ?_
    refine S_callV (As := []) (mc := 0) (ms := 0) (pc := 71) dX12_number_71 miX12_ahead mvX12_ahead mlX12_249 rfl (sM_0 hs) rfl rfl rfl (RmOK.of rfl) H ?_
    rintro _ _ ⟨f17, g18, rfl, rfl, H⟩
    show WP _ _ _ _ _ _ _ 74 [some (.ref B), none, none, some (.int w14)] [] (sh, f17, g18, fR)
    refine S_iload_n (pc := 74) dX12_number_74 rfl rfl ?_
    exact S_ireturn dX12_number_75 rfl H
set_option maxHeartbeats 2000000 in
set_option maxRecDepth 4000 in
theorem VX12_rank {l : Launch} {G : Gx} {d : Nat} {Q : Option Value → Hp → Prop} {sh : Sh} {fR : FRt} {B : Nat} {f : FI} {g : FL} {a0 : Int32} (hs : StM sh fR B)
    (H : ((¬ a0 = (nI 42) → ((¬ a0 = (nI 41) → ((¬ a0 = (nI 43) → ((a0 = (nI 38) → Q (some (.int (nI 4))) (sh, f, g, fR)) ∧ (¬ a0 = (nI 38) → ((a0 = (nI 39) → Q (some (.int (nI 4))) (sh, f, g, fR)) ∧ (¬ a0 = (nI 39) → ((¬ a0 = (nI 40) → ((a0 = (nI 31) → Q (some (.int (nI 5))) (sh, f, g, fR)) ∧ (¬ a0 = (nI 31) → ((¬ a0 = (nI 32) → Q (some (.int (nI 6))) (sh, f, g, fR)) ∧ (a0 = (nI 32) → Q (some (.int (nI 5))) (sh, f, g, fR)))))) ∧ (a0 = (nI 40) → Q (some (.int (nI 4))) (sh, f, g, fR)))))))) ∧ (a0 = (nI 43) → Q (some (.int (nI 3))) (sh, f, g, fR)))) ∧ (a0 = (nI 41) → Q (some (.int (nI 2))) (sh, f, g, fR)))) ∧ (a0 = (nI 42) → Q (some (.int (nI 1))) (sh, f, g, fR)))) :
    Cl l G d 0 0 mX12_rank [.int a0] (sh, f, g, fR) Q := by
  refine Cl.of (L0 := [some (.int a0)]) miX12_rank rfl rfl ?_
  refine S_iload_n (pc := 0) dX12_rank_0 rfl rfl ?_
  refine S_bipush (pc := 1) dX12_rank_1 bp42 ?_
  refine S_icmp_ne (pc := 3) (tgt := 10) dX12_rank_3 rfl (fun hc1 => ?_) (fun hc1 => ?_)
  · replace H := H.1 hc1
    refine S_iload_n (pc := 10) dX12_rank_10 rfl rfl ?_
    refine S_bipush (pc := 11) dX12_rank_11 bp41 ?_
    refine S_icmp_ne (pc := 13) (tgt := 20) dX12_rank_13 rfl (fun hc2 => ?_) (fun hc2 => ?_)
    · replace H := H.1 hc2
      refine S_iload_n (pc := 20) dX12_rank_20 rfl rfl ?_
      refine S_bipush (pc := 21) dX12_rank_21 bp43 ?_
      refine S_icmp_ne (pc := 23) (tgt := 30) dX12_rank_23 rfl (fun hc3 => ?_) (fun hc3 => ?_)
      · replace H := H.1 hc3
        refine S_iload_n (pc := 30) dX12_rank_30 rfl rfl ?_
        refine S_bipush (pc := 31) dX12_rank_31 bp38 ?_
        refine S_icmp_eq (pc := 33) (tgt := 48) dX12_rank_33 rfl (fun hc4 => ?_) (fun hc4 => ?_)
        · replace H := H.1 hc4
          refine S_iconst (pc := 48) dX12_rank_48 ic4 ?_
          refine S_goto (pc := 49) (tgt := 70) dX12_rank_49 rfl ?_
          exact S_ireturn dX12_rank_70 rfl H
        · replace H := H.2 hc4
          refine S_iload_n (pc := 36) dX12_rank_36 rfl rfl ?_
          refine S_bipush (pc := 37) dX12_rank_37 bp39 ?_
          refine S_icmp_eq (pc := 39) (tgt := 48) dX12_rank_39 rfl (fun hc5 => ?_) (fun hc5 => ?_)
          · replace H := H.1 hc5
            refine S_iconst (pc := 48) dX12_rank_48 ic4 ?_
            refine S_goto (pc := 49) (tgt := 70) dX12_rank_49 rfl ?_
            exact S_ireturn dX12_rank_70 rfl H
          · replace H := H.2 hc5
            refine S_iload_n (pc := 42) dX12_rank_42 rfl rfl ?_
            refine S_bipush (pc := 43) dX12_rank_43 bp40 ?_
            refine S_icmp_ne (pc := 45) (tgt := 52) dX12_rank_45 rfl (fun hc6 => ?_) (fun hc6 => ?_)
            · replace H := H.1 hc6
              refine S_iload_n (pc := 52) dX12_rank_52 rfl rfl ?_
              refine S_bipush (pc := 53) dX12_rank_53 bp31 ?_
              refine S_icmp_eq (pc := 55) (tgt := 64) dX12_rank_55 rfl (fun hc7 => ?_) (fun hc7 => ?_)
              · replace H := H.1 hc7
                refine S_iconst (pc := 64) dX12_rank_64 ic5 ?_
                refine S_goto (pc := 65) (tgt := 70) dX12_rank_65 rfl ?_
                exact S_ireturn dX12_rank_70 rfl H
              · replace H := H.2 hc7
                refine S_iload_n (pc := 58) dX12_rank_58 rfl rfl ?_
                refine S_bipush (pc := 59) dX12_rank_59 bp32 ?_
                refine S_icmp_ne (pc := 61) (tgt := 68) dX12_rank_61 rfl (fun hc8 => ?_) (fun hc8 => ?_)
                · replace H := H.1 hc8
                  refine S_bipush (pc := 68) dX12_rank_68 bp6 ?_
                  exact S_ireturn dX12_rank_70 rfl H
                · replace H := H.2 hc8
                  refine S_iconst (pc := 64) dX12_rank_64 ic5 ?_
                  refine S_goto (pc := 65) (tgt := 70) dX12_rank_65 rfl ?_
                  exact S_ireturn dX12_rank_70 rfl H
            · replace H := H.2 hc6
              refine S_iconst (pc := 48) dX12_rank_48 ic4 ?_
              refine S_goto (pc := 49) (tgt := 70) dX12_rank_49 rfl ?_
              exact S_ireturn dX12_rank_70 rfl H
      · replace H := H.2 hc3
        refine S_iconst (pc := 26) dX12_rank_26 ic3 ?_
        refine S_goto (pc := 27) (tgt := 70) dX12_rank_27 rfl ?_
        exact S_ireturn dX12_rank_70 rfl H
    · replace H := H.2 hc2
      refine S_iconst (pc := 16) dX12_rank_16 ic2 ?_
      refine S_goto (pc := 17) (tgt := 70) dX12_rank_17 rfl ?_
      exact S_ireturn dX12_rank_70 rfl H
  · replace H := H.2 hc1
    refine S_iconst (pc := 6) dX12_rank_6 ic1 ?_
    refine S_goto (pc := 7) (tgt := 70) dX12_rank_7 rfl ?_
    exact S_ireturn dX12_rank_70 rfl H
abbrev LpX12_joins_0 (l : Launch) (G : Gx) (d : Nat) (Q : Option Value → Hp → Prop) (sh : Sh) (fR : FRt) (B : Nat) (f : FI) (g : FL) (a1 : Int32) : Prop := WP l G (Zq G 0 0 Q) mX12_joins (rmd (d + 1) 0 0) 0 0 0 [some (.ref B), some (.int a1)] [] (sh, f, g, fR)
set_option maxHeartbeats 2000000 in
set_option maxRecDepth 4000 in
theorem VX12_joins {l : Launch} {G : Gx} {d : Nat} {Q : Option Value → Hp → Prop} {sh : Sh} {fR : FRt} {B : Nat} {f : FI} {g : FL} {a1 : Int32} (hs : StM sh fR B)
    (H : inb ((f B 36) - (nI 1)) 20 ∧ (((f B 39) ≤ (f (B + 20) ((f B 36) - (nI 1)).toNatClampNeg) → Q none (sh, f, g, fR)) ∧ (¬ (f B 39) ≤ (f (B + 20) ((f B 36) - (nI 1)).toNatClampNeg) → inb ((f B 39) - (nI 1)) 500 ∧ Cl l G d 0 0 mX12_rank [.int (f (B + 21) ((f B 39) - (nI 1)).toNatClampNeg)] (sh, f, g, fR) (qi sh fR fun x6 f4 g5 => ((x6 < a1 → Q none (sh, f4, g5, fR)) ∧ (¬ x6 < a1 → inb ((f4 B 39) - (nI 1)) 500 ∧ inb (((nI 1600) * (f4 B 29)) + (f4 B 28)) 3200 ∧ inb (((nI 1600) * (f4 B 29)) + (f4 B 28)) 3200 ∧ inb ((f4 B 39) - (nI 1)) 500 ∧ ((¬ (f4 (B + 21) ((f4 B 39) - (nI 1)).toNatClampNeg) = (nI 43) → LpX12_joins_0 l G d Q sh fR B (up2 (up2 (up2 (up2 f4 B 39 ((f4 B 39) - (nI 1))) (B + 13) (((nI 1600) * (f4 B 29)) + (f4 B 28)).toNatClampNeg (f4 (B + 21) ((f4 B 39) - (nI 1)).toNatClampNeg)) (B + 14) (((nI 1600) * (f4 B 29)) + (f4 B 28)).toNatClampNeg (nI 0)) B 28 ((f4 B 28) + (nI 1))) g5 a1) ∧ ((f4 (B + 21) ((f4 B 39) - (nI 1)).toNatClampNeg) = (nI 43) → LpX12_joins_0 l G d Q sh fR B (up2 (up2 (up2 (up2 (up2 f4 B 39 ((f4 B 39) - (nI 1))) (B + 13) (((nI 1600) * (f4 B 29)) + (f4 B 28)).toNatClampNeg (f4 (B + 21) ((f4 B 39) - (nI 1)).toNatClampNeg)) (B + 14) (((nI 1600) * (f4 B 29)) + (f4 B 28)).toNatClampNeg (nI 0)) B 28 ((f4 B 28) + (nI 1))) B 37 ((f4 B 37) - (nI 1))) g5 a1)))))))) :
    Cl l G (d + 1) 0 0 mX12_joins [.ref B, .int a1] (sh, f, g, fR) Q := by
  refine Cl.of (L0 := [some (.ref B), some (.int a1)]) miX12_joins rfl rfl ?_
  refine S_aload_n (pc := 0) dX12_joins_0 rfl rfl ?_
  refine S_get (pc := 1) (v := .int (f B 39)) dX12_joins_1 flX12_131 (sM_0 hs) rfl ?_
  refine S_aload_n (pc := 4) dX12_joins_4 rfl rfl ?_
  refine S_getR (pc := 5) dX12_joins_5 flX12_119 (sM_0 hs) rfl (rM_35 hs) ?_
  refine S_aload_n (pc := 8) dX12_joins_8 rfl rfl ?_
  refine S_get (pc := 9) (v := .int (f B 36)) dX12_joins_9 flX12_122 (sM_0 hs) rfl ?_
  refine S_iconst (pc := 12) dX12_joins_12 ic1 ?_
  refine S_isub (pc := 13) dX12_joins_13 ?_
  obtain ⟨hb1, H⟩ := H
  refine S_iald (pc := 14) dX12_joins_14 (sM_20 hs) hb1 ?_
  refine S_icmp_le (pc := 15) (tgt := 87) dX12_joins_15 rfl (fun hc2 => ?_) (fun hc2 => ?_)
  · replace H := H.1 hc2
    exact S_vreturn dX12_joins_87 rfl H
  · replace H := H.2 hc2
    refine S_aload_n (pc := 18) dX12_joins_18 rfl rfl ?_
    refine S_getR (pc := 19) dX12_joins_19 flX12_128 (sM_0 hs) rfl (rM_38 hs) ?_
    refine S_aload_n (pc := 22) dX12_joins_22 rfl rfl ?_
    refine S_get (pc := 23) (v := .int (f B 39)) dX12_joins_23 flX12_131 (sM_0 hs) rfl ?_
    refine S_iconst (pc := 26) dX12_joins_26 ic1 ?_
    refine S_isub (pc := 27) dX12_joins_27 ?_
    obtain ⟨hb3, H⟩ := H
    refine S_iald (pc := 28) dX12_joins_28 (sM_21 hs) hb3 ?_
    refine S_callS (As := [.int (f (B + 21) ((f B 39) - (nI 1)).toNatClampNeg)]) (mc := 0) (ms := 0) (pc := 29) dX12_joins_29 miX12_rank mvX12_rank mlX12_314 rfl rfl (RmOK.of rfl) H ?_
    rintro _ _ ⟨x6, f4, g5, rfl, rfl, H⟩
    show WP _ _ _ _ _ _ _ 32 [some (.ref B), some (.int a1)] [.int x6] (sh, f4, g5, fR)
    refine S_iload_n (pc := 32) dX12_joins_32 rfl rfl ?_
    refine S_icmp_lt (pc := 33) (tgt := 87) dX12_joins_33 rfl (fun hc7 => ?_) (fun hc7 => ?_)
    · replace H := H.1 hc7
      exact S_vreturn dX12_joins_87 rfl H
    · replace H := H.2 hc7
      refine S_aload_n (pc := 36) dX12_joins_36 rfl rfl ?_
      refine S_dup (pc := 37) dX12_joins_37 rfl ?_
      refine S_get (pc := 38) (v := .int (f4 B 39)) dX12_joins_38 flX12_131 (sM_0 hs) rfl ?_
      refine S_iconst (pc := 41) dX12_joins_41 ic1 ?_
      refine S_isub (pc := 42) dX12_joins_42 ?_
      refine S_putI (pc := 43) dX12_joins_43 flX12_131 (sM_0 hs) hs.2.2 (nf_12_39) rfl rfl (fun _ => rfl) ?_
      refine S_aload_n (pc := 46) dX12_joins_46 rfl rfl ?_
      refine S_aload_n (pc := 47) dX12_joins_47 rfl rfl ?_
      refine S_getR (pc := 48) dX12_joins_48 flX12_128 (sM_0 hs) rfl (rM_38 hs) ?_
      refine S_aload_n (pc := 51) dX12_joins_51 rfl rfl ?_
      refine S_get (pc := 52) (v := .int ((up2 f4 B 39 ((f4 B 39) - (nI 1))) B 39)) dX12_joins_52 flX12_131 (sM_0 hs) rfl ?_
      refine S_eqi (x := (f4 B 39) - (nI 1)) up2_eq ?_
      obtain ⟨hb8, H⟩ := H
      refine S_iald (pc := 55) dX12_joins_55 (sM_21 hs) hb8 ?_
      refine S_eqi (x := f4 (B + 21) ((f4 B 39) - (nI 1)).toNatClampNeg) ((up2_r (by omega)).trans rfl) ?_
      refine S_iconst (pc := 56) dX12_joins_56 ic0 ?_
      refine S_callV (As := [.int (f4 (B + 21) ((f4 B 39) - (nI 1)).toNatClampNeg), .int (nI 0)]) (mc := 0) (ms := 0) (pc := 57) dX12_joins_57 miX12_add mvX12_add mlX12_317 rfl (sM_0 hs) rfl rfl rfl (RmOK.of rfl) (Q := fun r h => WP _ _ _ _ _ _ _ 60 [some (.ref B), some (.int a1)] (r.toList ++ []) h) (Cl.of miX12_add rfl rfl ?_) (fun _ _ q => q)
      refine S_aload_n (pc := 0) dX12_add_0 rfl rfl ?_
      refine S_getR (pc := 1) dX12_add_1 flX12_87 (sM_0 hs) rfl (rM_25 hs) ?_
      refine S_sipush (pc := 4) dX12_add_4 sp1600 ?_
      refine S_aload_n (pc := 7) dX12_add_7 rfl rfl ?_
      refine S_get (pc := 8) (v := .int ((up2 f4 B 39 ((f4 B 39) - (nI 1))) B 29)) dX12_add_8 flX12_100 (sM_0 hs) rfl ?_
      refine S_eqi (x := f4 B 29) ((up2_k (by decide)).trans rfl) ?_
      refine S_imul (pc := 11) dX12_add_11 ?_
      refine S_aload_n (pc := 12) dX12_add_12 rfl rfl ?_
      refine S_get (pc := 13) (v := .int ((up2 f4 B 39 ((f4 B 39) - (nI 1))) B 28)) dX12_add_13 flX12_97 (sM_0 hs) rfl ?_
      refine S_eqi (x := f4 B 28) ((up2_k (by decide)).trans rfl) ?_
      refine S_iadd (pc := 16) dX12_add_16 ?_
      refine S_iload_n (pc := 17) dX12_add_17 rfl rfl ?_
      obtain ⟨hb9, H⟩ := H
      refine S_iast (pc := 18) dX12_add_18 (sM_13 hs) (Nat.succ_pos _) hb9 ?_
      refine S_aload_n (pc := 19) dX12_add_19 rfl rfl ?_
      refine S_getR (pc := 20) dX12_add_20 flX12_90 (sM_0 hs) rfl (rM_26 hs) ?_
      refine S_sipush (pc := 23) dX12_add_23 sp1600 ?_
      refine S_aload_n (pc := 26) dX12_add_26 rfl rfl ?_
      refine S_get (pc := 27) (v := .int ((up2 (up2 f4 B 39 ((f4 B 39) - (nI 1))) (B + 13) (((nI 1600) * (f4 B 29)) + (f4 B 28)).toNatClampNeg (f4 (B + 21) ((f4 B 39) - (nI 1)).toNatClampNeg)) B 29)) dX12_add_27 flX12_100 (sM_0 hs) rfl ?_
      refine S_eqi (x := f4 B 29) ((up2_r (by omega)).trans ((up2_k (by decide)).trans rfl)) ?_
      refine S_imul (pc := 30) dX12_add_30 ?_
      refine S_aload_n (pc := 31) dX12_add_31 rfl rfl ?_
      refine S_get (pc := 32) (v := .int ((up2 (up2 f4 B 39 ((f4 B 39) - (nI 1))) (B + 13) (((nI 1600) * (f4 B 29)) + (f4 B 28)).toNatClampNeg (f4 (B + 21) ((f4 B 39) - (nI 1)).toNatClampNeg)) B 28)) dX12_add_32 flX12_97 (sM_0 hs) rfl ?_
      refine S_eqi (x := f4 B 28) ((up2_r (by omega)).trans ((up2_k (by decide)).trans rfl)) ?_
      refine S_iadd (pc := 35) dX12_add_35 ?_
      refine S_iload_n (pc := 36) dX12_add_36 rfl rfl ?_
      obtain ⟨hb10, H⟩ := H
      refine S_iast (pc := 37) dX12_add_37 (sM_14 hs) (Nat.succ_pos _) hb10 ?_
      refine S_aload_n (pc := 38) dX12_add_38 rfl rfl ?_
      refine S_dup (pc := 39) dX12_add_39 rfl ?_
      refine S_get (pc := 40) (v := .int ((up2 (up2 (up2 f4 B 39 ((f4 B 39) - (nI 1))) (B + 13) (((nI 1600) * (f4 B 29)) + (f4 B 28)).toNatClampNeg (f4 (B + 21) ((f4 B 39) - (nI 1)).toNatClampNeg)) (B + 14) (((nI 1600) * (f4 B 29)) + (f4 B 28)).toNatClampNeg (nI 0)) B 28)) dX12_add_40 flX12_97 (sM_0 hs) rfl ?_
      refine S_eqi (x := f4 B 28) ((up2_r (by omega)).trans ((up2_r (by omega)).trans ((up2_k (by decide)).trans rfl))) ?_
      refine S_iconst (pc := 43) dX12_add_43 ic1 ?_
      refine S_iadd (pc := 44) dX12_add_44 ?_
      refine S_putI (pc := 45) dX12_add_45 flX12_97 (sM_0 hs) hs.2.2 (nf_12_28) rfl rfl (fun _ => rfl) ?_
      refine S_vreturn dX12_add_48 rfl ?_
      show WP _ _ _ _ _ _ _ 60 [some (.ref B), some (.int a1)] [] (sh, (up2 (up2 (up2 (up2 f4 B 39 ((f4 B 39) - (nI 1))) (B + 13) (((nI 1600) * (f4 B 29)) + (f4 B 28)).toNatClampNeg (f4 (B + 21) ((f4 B 39) - (nI 1)).toNatClampNeg)) (B + 14) (((nI 1600) * (f4 B 29)) + (f4 B 28)).toNatClampNeg (nI 0)) B 28 ((f4 B 28) + (nI 1))), g5, fR)
      refine S_aload_n (pc := 60) dX12_joins_60 rfl rfl ?_
      refine S_getR (pc := 61) dX12_joins_61 flX12_128 (sM_0 hs) rfl (rM_38 hs) ?_
      refine S_aload_n (pc := 64) dX12_joins_64 rfl rfl ?_
      refine S_get (pc := 65) (v := .int ((up2 (up2 (up2 (up2 f4 B 39 ((f4 B 39) - (nI 1))) (B + 13) (((nI 1600) * (f4 B 29)) + (f4 B 28)).toNatClampNeg (f4 (B + 21) ((f4 B 39) - (nI 1)).toNatClampNeg)) (B + 14) (((nI 1600) * (f4 B 29)) + (f4 B 28)).toNatClampNeg (nI 0)) B 28 ((f4 B 28) + (nI 1))) B 39)) dX12_joins_65 flX12_131 (sM_0 hs) rfl ?_
      refine S_eqi (x := (f4 B 39) - (nI 1)) ((up2_k (by decide)).trans ((up2_r (by omega)).trans ((up2_r (by omega)).trans up2_eq))) ?_
      obtain ⟨hb11, H⟩ := H
      refine S_iald (pc := 68) dX12_joins_68 (sM_21 hs) hb11 ?_
      refine S_eqi (x := f4 (B + 21) ((f4 B 39) - (nI 1)).toNatClampNeg) ((up2_r (by omega)).trans ((up2_r (by omega)).trans ((up2_r (by omega)).trans ((up2_r (by omega)).trans rfl)))) ?_
      refine S_bipush (pc := 69) dX12_joins_69 bp43 ?_
      refine S_icmp_ne (pc := 71) (tgt := 0) dX12_joins_71 rfl (fun hc12 => ?_) (fun hc12 => ?_)
      · replace H := H.1 hc12
        exact H
      · replace H := H.2 hc12
        refine S_aload_n (pc := 74) dX12_joins_74 rfl rfl ?_
        refine S_dup (pc := 75) dX12_joins_75 rfl ?_
        refine S_get (pc := 76) (v := .int ((up2 (up2 (up2 (up2 f4 B 39 ((f4 B 39) - (nI 1))) (B + 13) (((nI 1600) * (f4 B 29)) + (f4 B 28)).toNatClampNeg (f4 (B + 21) ((f4 B 39) - (nI 1)).toNatClampNeg)) (B + 14) (((nI 1600) * (f4 B 29)) + (f4 B 28)).toNatClampNeg (nI 0)) B 28 ((f4 B 28) + (nI 1))) B 37)) dX12_joins_76 flX12_125 (sM_0 hs) rfl ?_
        refine S_eqi (x := f4 B 37) ((up2_k (by decide)).trans ((up2_r (by omega)).trans ((up2_r (by omega)).trans ((up2_k (by decide)).trans rfl)))) ?_
        refine S_iconst (pc := 79) dX12_joins_79 ic1 ?_
        refine S_isub (pc := 80) dX12_joins_80 ?_
        refine S_putI (pc := 81) dX12_joins_81 flX12_125 (sM_0 hs) hs.2.2 (nf_12_37) rfl rfl (fun _ => rfl) ?_
        refine S_goto (pc := 84) (tgt := 0) dX12_joins_84 rfl ?_
        exact H
set_option maxHeartbeats 2000000 in
set_option maxRecDepth 4000 in
theorem VX12_joins_0 {l : Launch} {G : Gx} {d : Nat} {Q : Option Value → Hp → Prop} {sh : Sh} {fR : FRt} {B : Nat} {f : FI} {g : FL} {a1 : Int32} (hs : StM sh fR B)
    (H : inb ((f B 36) - (nI 1)) 20 ∧ (((f B 39) ≤ (f (B + 20) ((f B 36) - (nI 1)).toNatClampNeg) → Q none (sh, f, g, fR)) ∧ (¬ (f B 39) ≤ (f (B + 20) ((f B 36) - (nI 1)).toNatClampNeg) → inb ((f B 39) - (nI 1)) 500 ∧ Cl l G d 0 0 mX12_rank [.int (f (B + 21) ((f B 39) - (nI 1)).toNatClampNeg)] (sh, f, g, fR) (qi sh fR fun x18 f16 g17 => ((x18 < a1 → Q none (sh, f16, g17, fR)) ∧ (¬ x18 < a1 → inb ((f16 B 39) - (nI 1)) 500 ∧ inb (((nI 1600) * (f16 B 29)) + (f16 B 28)) 3200 ∧ inb (((nI 1600) * (f16 B 29)) + (f16 B 28)) 3200 ∧ inb ((f16 B 39) - (nI 1)) 500 ∧ ((¬ (f16 (B + 21) ((f16 B 39) - (nI 1)).toNatClampNeg) = (nI 43) → LpX12_joins_0 l G d Q sh fR B (up2 (up2 (up2 (up2 f16 B 39 ((f16 B 39) - (nI 1))) (B + 13) (((nI 1600) * (f16 B 29)) + (f16 B 28)).toNatClampNeg (f16 (B + 21) ((f16 B 39) - (nI 1)).toNatClampNeg)) (B + 14) (((nI 1600) * (f16 B 29)) + (f16 B 28)).toNatClampNeg (nI 0)) B 28 ((f16 B 28) + (nI 1))) g17 a1) ∧ ((f16 (B + 21) ((f16 B 39) - (nI 1)).toNatClampNeg) = (nI 43) → LpX12_joins_0 l G d Q sh fR B (up2 (up2 (up2 (up2 (up2 f16 B 39 ((f16 B 39) - (nI 1))) (B + 13) (((nI 1600) * (f16 B 29)) + (f16 B 28)).toNatClampNeg (f16 (B + 21) ((f16 B 39) - (nI 1)).toNatClampNeg)) (B + 14) (((nI 1600) * (f16 B 29)) + (f16 B 28)).toNatClampNeg (nI 0)) B 28 ((f16 B 28) + (nI 1))) B 37 ((f16 B 37) - (nI 1))) g17 a1)))))))) :
    LpX12_joins_0 l G d Q sh fR B f g a1 := by
  refine S_aload_n (pc := 0) dX12_joins_0 rfl rfl ?_
  refine S_get (pc := 1) (v := .int (f B 39)) dX12_joins_1 flX12_131 (sM_0 hs) rfl ?_
  refine S_aload_n (pc := 4) dX12_joins_4 rfl rfl ?_
  refine S_getR (pc := 5) dX12_joins_5 flX12_119 (sM_0 hs) rfl (rM_35 hs) ?_
  refine S_aload_n (pc := 8) dX12_joins_8 rfl rfl ?_
  refine S_get (pc := 9) (v := .int (f B 36)) dX12_joins_9 flX12_122 (sM_0 hs) rfl ?_
  refine S_iconst (pc := 12) dX12_joins_12 ic1 ?_
  refine S_isub (pc := 13) dX12_joins_13 ?_
  obtain ⟨hb13, H⟩ := H
  refine S_iald (pc := 14) dX12_joins_14 (sM_20 hs) hb13 ?_
  refine S_icmp_le (pc := 15) (tgt := 87) dX12_joins_15 rfl (fun hc14 => ?_) (fun hc14 => ?_)
  · replace H := H.1 hc14
    exact S_vreturn dX12_joins_87 rfl H
  · replace H := H.2 hc14
    refine S_aload_n (pc := 18) dX12_joins_18 rfl rfl ?_
    refine S_getR (pc := 19) dX12_joins_19 flX12_128 (sM_0 hs) rfl (rM_38 hs) ?_
    refine S_aload_n (pc := 22) dX12_joins_22 rfl rfl ?_
    refine S_get (pc := 23) (v := .int (f B 39)) dX12_joins_23 flX12_131 (sM_0 hs) rfl ?_
    refine S_iconst (pc := 26) dX12_joins_26 ic1 ?_
    refine S_isub (pc := 27) dX12_joins_27 ?_
    obtain ⟨hb15, H⟩ := H
    refine S_iald (pc := 28) dX12_joins_28 (sM_21 hs) hb15 ?_
    refine S_callS (As := [.int (f (B + 21) ((f B 39) - (nI 1)).toNatClampNeg)]) (mc := 0) (ms := 0) (pc := 29) dX12_joins_29 miX12_rank mvX12_rank mlX12_314 rfl rfl (RmOK.of rfl) H ?_
    rintro _ _ ⟨x18, f16, g17, rfl, rfl, H⟩
    show WP _ _ _ _ _ _ _ 32 [some (.ref B), some (.int a1)] [.int x18] (sh, f16, g17, fR)
    refine S_iload_n (pc := 32) dX12_joins_32 rfl rfl ?_
    refine S_icmp_lt (pc := 33) (tgt := 87) dX12_joins_33 rfl (fun hc19 => ?_) (fun hc19 => ?_)
    · replace H := H.1 hc19
      exact S_vreturn dX12_joins_87 rfl H
    · replace H := H.2 hc19
      refine S_aload_n (pc := 36) dX12_joins_36 rfl rfl ?_
      refine S_dup (pc := 37) dX12_joins_37 rfl ?_
      refine S_get (pc := 38) (v := .int (f16 B 39)) dX12_joins_38 flX12_131 (sM_0 hs) rfl ?_
      refine S_iconst (pc := 41) dX12_joins_41 ic1 ?_
      refine S_isub (pc := 42) dX12_joins_42 ?_
      refine S_putI (pc := 43) dX12_joins_43 flX12_131 (sM_0 hs) hs.2.2 (nf_12_39) rfl rfl (fun _ => rfl) ?_
      refine S_aload_n (pc := 46) dX12_joins_46 rfl rfl ?_
      refine S_aload_n (pc := 47) dX12_joins_47 rfl rfl ?_
      refine S_getR (pc := 48) dX12_joins_48 flX12_128 (sM_0 hs) rfl (rM_38 hs) ?_
      refine S_aload_n (pc := 51) dX12_joins_51 rfl rfl ?_
      refine S_get (pc := 52) (v := .int ((up2 f16 B 39 ((f16 B 39) - (nI 1))) B 39)) dX12_joins_52 flX12_131 (sM_0 hs) rfl ?_
      refine S_eqi (x := (f16 B 39) - (nI 1)) up2_eq ?_
      obtain ⟨hb20, H⟩ := H
      refine S_iald (pc := 55) dX12_joins_55 (sM_21 hs) hb20 ?_
      refine S_eqi (x := f16 (B + 21) ((f16 B 39) - (nI 1)).toNatClampNeg) ((up2_r (by omega)).trans rfl) ?_
      refine S_iconst (pc := 56) dX12_joins_56 ic0 ?_
      refine S_callV (As := [.int (f16 (B + 21) ((f16 B 39) - (nI 1)).toNatClampNeg), .int (nI 0)]) (mc := 0) (ms := 0) (pc := 57) dX12_joins_57 miX12_add mvX12_add mlX12_317 rfl (sM_0 hs) rfl rfl rfl (RmOK.of rfl) (Q := fun r h => WP _ _ _ _ _ _ _ 60 [some (.ref B), some (.int a1)] (r.toList ++ []) h) (Cl.of miX12_add rfl rfl ?_) (fun _ _ q => q)
      refine S_aload_n (pc := 0) dX12_add_0 rfl rfl ?_
      refine S_getR (pc := 1) dX12_add_1 flX12_87 (sM_0 hs) rfl (rM_25 hs) ?_
      refine S_sipush (pc := 4) dX12_add_4 sp1600 ?_
      refine S_aload_n (pc := 7) dX12_add_7 rfl rfl ?_
      refine S_get (pc := 8) (v := .int ((up2 f16 B 39 ((f16 B 39) - (nI 1))) B 29)) dX12_add_8 flX12_100 (sM_0 hs) rfl ?_
      refine S_eqi (x := f16 B 29) ((up2_k (by decide)).trans rfl) ?_
      refine S_imul (pc := 11) dX12_add_11 ?_
      refine S_aload_n (pc := 12) dX12_add_12 rfl rfl ?_
      refine S_get (pc := 13) (v := .int ((up2 f16 B 39 ((f16 B 39) - (nI 1))) B 28)) dX12_add_13 flX12_97 (sM_0 hs) rfl ?_
      refine S_eqi (x := f16 B 28) ((up2_k (by decide)).trans rfl) ?_
      refine S_iadd (pc := 16) dX12_add_16 ?_
      refine S_iload_n (pc := 17) dX12_add_17 rfl rfl ?_
      obtain ⟨hb21, H⟩ := H
      refine S_iast (pc := 18) dX12_add_18 (sM_13 hs) (Nat.succ_pos _) hb21 ?_
      refine S_aload_n (pc := 19) dX12_add_19 rfl rfl ?_
      refine S_getR (pc := 20) dX12_add_20 flX12_90 (sM_0 hs) rfl (rM_26 hs) ?_
      refine S_sipush (pc := 23) dX12_add_23 sp1600 ?_
      refine S_aload_n (pc := 26) dX12_add_26 rfl rfl ?_
      refine S_get (pc := 27) (v := .int ((up2 (up2 f16 B 39 ((f16 B 39) - (nI 1))) (B + 13) (((nI 1600) * (f16 B 29)) + (f16 B 28)).toNatClampNeg (f16 (B + 21) ((f16 B 39) - (nI 1)).toNatClampNeg)) B 29)) dX12_add_27 flX12_100 (sM_0 hs) rfl ?_
      refine S_eqi (x := f16 B 29) ((up2_r (by omega)).trans ((up2_k (by decide)).trans rfl)) ?_
      refine S_imul (pc := 30) dX12_add_30 ?_
      refine S_aload_n (pc := 31) dX12_add_31 rfl rfl ?_
      refine S_get (pc := 32) (v := .int ((up2 (up2 f16 B 39 ((f16 B 39) - (nI 1))) (B + 13) (((nI 1600) * (f16 B 29)) + (f16 B 28)).toNatClampNeg (f16 (B + 21) ((f16 B 39) - (nI 1)).toNatClampNeg)) B 28)) dX12_add_32 flX12_97 (sM_0 hs) rfl ?_
      refine S_eqi (x := f16 B 28) ((up2_r (by omega)).trans ((up2_k (by decide)).trans rfl)) ?_
      refine S_iadd (pc := 35) dX12_add_35 ?_
      refine S_iload_n (pc := 36) dX12_add_36 rfl rfl ?_
      obtain ⟨hb22, H⟩ := H
      refine S_iast (pc := 37) dX12_add_37 (sM_14 hs) (Nat.succ_pos _) hb22 ?_
      refine S_aload_n (pc := 38) dX12_add_38 rfl rfl ?_
      refine S_dup (pc := 39) dX12_add_39 rfl ?_
      refine S_get (pc := 40) (v := .int ((up2 (up2 (up2 f16 B 39 ((f16 B 39) - (nI 1))) (B + 13) (((nI 1600) * (f16 B 29)) + (f16 B 28)).toNatClampNeg (f16 (B + 21) ((f16 B 39) - (nI 1)).toNatClampNeg)) (B + 14) (((nI 1600) * (f16 B 29)) + (f16 B 28)).toNatClampNeg (nI 0)) B 28)) dX12_add_40 flX12_97 (sM_0 hs) rfl ?_
      refine S_eqi (x := f16 B 28) ((up2_r (by omega)).trans ((up2_r (by omega)).trans ((up2_k (by decide)).trans rfl))) ?_
      refine S_iconst (pc := 43) dX12_add_43 ic1 ?_
      refine S_iadd (pc := 44) dX12_add_44 ?_
      refine S_putI (pc := 45) dX12_add_45 flX12_97 (sM_0 hs) hs.2.2 (nf_12_28) rfl rfl (fun _ => rfl) ?_
      refine S_vreturn dX12_add_48 rfl ?_
      show WP _ _ _ _ _ _ _ 60 [some (.ref B), some (.int a1)] [] (sh, (up2 (up2 (up2 (up2 f16 B 39 ((f16 B 39) - (nI 1))) (B + 13) (((nI 1600) * (f16 B 29)) + (f16 B 28)).toNatClampNeg (f16 (B + 21) ((f16 B 39) - (nI 1)).toNatClampNeg)) (B + 14) (((nI 1600) * (f16 B 29)) + (f16 B 28)).toNatClampNeg (nI 0)) B 28 ((f16 B 28) + (nI 1))), g17, fR)
      refine S_aload_n (pc := 60) dX12_joins_60 rfl rfl ?_
      refine S_getR (pc := 61) dX12_joins_61 flX12_128 (sM_0 hs) rfl (rM_38 hs) ?_
      refine S_aload_n (pc := 64) dX12_joins_64 rfl rfl ?_
      refine S_get (pc := 65) (v := .int ((up2 (up2 (up2 (up2 f16 B 39 ((f16 B 39) - (nI 1))) (B + 13) (((nI 1600) * (f16 B 29)) + (f16 B 28)).toNatClampNeg (f16 (B + 21) ((f16 B 39) - (nI 1)).toNatClampNeg)) (B + 14) (((nI 1600) * (f16 B 29)) + (f16 B 28)).toNatClampNeg (nI 0)) B 28 ((f16 B 28) + (nI 1))) B 39)) dX12_joins_65 flX12_131 (sM_0 hs) rfl ?_
      refine S_eqi (x := (f16 B 39) - (nI 1)) ((up2_k (by decide)).trans ((up2_r (by omega)).trans ((up2_r (by omega)).trans up2_eq))) ?_
      obtain ⟨hb23, H⟩ := H
      refine S_iald (pc := 68) dX12_joins_68 (sM_21 hs) hb23 ?_
      refine S_eqi (x := f16 (B + 21) ((f16 B 39) - (nI 1)).toNatClampNeg) ((up2_r (by omega)).trans ((up2_r (by omega)).trans ((up2_r (by omega)).trans ((up2_r (by omega)).trans rfl)))) ?_
      refine S_bipush (pc := 69) dX12_joins_69 bp43 ?_
      refine S_icmp_ne (pc := 71) (tgt := 0) dX12_joins_71 rfl (fun hc24 => ?_) (fun hc24 => ?_)
      · replace H := H.1 hc24
        exact H
      · replace H := H.2 hc24
        refine S_aload_n (pc := 74) dX12_joins_74 rfl rfl ?_
        refine S_dup (pc := 75) dX12_joins_75 rfl ?_
        refine S_get (pc := 76) (v := .int ((up2 (up2 (up2 (up2 f16 B 39 ((f16 B 39) - (nI 1))) (B + 13) (((nI 1600) * (f16 B 29)) + (f16 B 28)).toNatClampNeg (f16 (B + 21) ((f16 B 39) - (nI 1)).toNatClampNeg)) (B + 14) (((nI 1600) * (f16 B 29)) + (f16 B 28)).toNatClampNeg (nI 0)) B 28 ((f16 B 28) + (nI 1))) B 37)) dX12_joins_76 flX12_125 (sM_0 hs) rfl ?_
        refine S_eqi (x := f16 B 37) ((up2_k (by decide)).trans ((up2_r (by omega)).trans ((up2_r (by omega)).trans ((up2_k (by decide)).trans rfl)))) ?_
        refine S_iconst (pc := 79) dX12_joins_79 ic1 ?_
        refine S_isub (pc := 80) dX12_joins_80 ?_
        refine S_putI (pc := 81) dX12_joins_81 flX12_125 (sM_0 hs) hs.2.2 (nf_12_37) rfl rfl (fun _ => rfl) ?_
        refine S_goto (pc := 84) (tgt := 0) dX12_joins_84 rfl ?_
        exact H
abbrev LpX12_opens_18 (l : Launch) (G : Gx) (d : Nat) (Q : Option Value → Hp → Prop) (sh : Sh) (fR : FRt) (B : Nat) (f : FI) (g : FL) (a1 : Int32) : Prop := WP l G (Zq G 0 0 Q) mX12_opens (rmd (d + 2) 0 0) 0 0 18 [some (.ref B), some (.int a1)] [] (sh, f, g, fR)
set_option maxHeartbeats 2000000 in
set_option maxRecDepth 4000 in
theorem VX12_opens {l : Launch} {G : Gx} {d : Nat} {Q : Option Value → Hp → Prop} {sh : Sh} {fR : FRt} {B : Nat} {f : FI} {g : FL} {a1 : Int32} (hs : StM sh fR B)
    (H : ((¬ (f B 37) = (nI 7) → LpX12_opens_18 l G d Q sh fR B f g a1) ∧ ((f B 37) = (nI 7) → Cl l G (d + 1) 0 0 mX12_blame [.ref B, .int (nI 5), .int (f B 4)] (sh, f, g, fR) (qv sh fR fun f2 g3 => LpX12_opens_18 l G d Q sh fR B f2 g3 a1)))) :
    Cl l G (d + 2) 0 0 mX12_opens [.ref B, .int a1] (sh, f, g, fR) Q := by
  refine Cl.of (L0 := [some (.ref B), some (.int a1)]) miX12_opens rfl rfl ?_
  refine S_aload_n (pc := 0) dX12_opens_0 rfl rfl ?_
  refine S_get (pc := 1) (v := .int (f B 37)) dX12_opens_1 flX12_125 (sM_0 hs) rfl ?_
  refine S_bipush (pc := 4) dX12_opens_4 bp7 ?_
  refine S_icmp_ne (pc := 6) (tgt := 18) dX12_opens_6 rfl (fun hc1 => ?_) (fun hc1 => ?_)
  · replace H := H.1 hc1
    exact H
  · replace H := H.2 hc1
    refine S_aload_n (pc := 9) dX12_opens_9 rfl rfl ?_
    refine S_iconst (pc := 10) dX12_opens_10 ic5 ?_
    refine S_aload_n (pc := 11) dX12_opens_11 rfl rfl ?_
    refine S_get (pc := 12) (v := .int (f B 4)) dX12_opens_12 flX12_23 (sM_0 hs) rfl ?_
    refine S_callV (As := [.int (nI 5), .int (f B 4)]) (mc := 0) (ms := 0) (pc := 15) dX12_opens_15 miX12_blame mvX12_blame mlX12_232 rfl (sM_0 hs) rfl rfl rfl (RmOK.of rfl) H ?_
    rintro _ _ ⟨f2, g3, rfl, rfl, H⟩
    show WP _ _ _ _ _ _ _ 18 [some (.ref B), some (.int a1)] [] (sh, f2, g3, fR)
    exact H
set_option maxHeartbeats 2000000 in
set_option maxRecDepth 4000 in
theorem VX12_opens_18 {l : Launch} {G : Gx} {d : Nat} {Q : Option Value → Hp → Prop} {sh : Sh} {fR : FRt} {B : Nat} {f : FI} {g : FL} {a1 : Int32} (hs : StM sh fR B)
    (H : (((f B 8) ≤ 0 → Cl l G (d + 1) 0 0 mX12_ahead [.ref B] (sh, (up2 f B 37 ((f B 37) + (nI 1))), g, fR) (qv sh fR fun f5 g6 => inb (f5 B 36) 20 ∧ inb (f5 B 36) 20 ∧ inb (f5 B 36) 20 ∧ inb (f5 B 36) 20 ∧ Q none (sh, (up2 (up2 (up2 (up2 (up2 f5 (B + 16) (f5 B 36).toNatClampNeg a1) (B + 17) (f5 B 36).toNatClampNeg (nI 0)) (B + 18) (f5 B 36).toNatClampNeg (nI 1)) (B + 20) (f5 B 36).toNatClampNeg (f5 B 39)) B 36 ((f5 B 36) + (nI 1))), g6, fR))) ∧ (¬ (f B 8) ≤ 0 → Q none (sh, f, g, fR)))) :
    LpX12_opens_18 l G d Q sh fR B f g a1 := by
  refine S_aload_n (pc := 18) dX12_opens_18 rfl rfl ?_
  refine S_get (pc := 19) (v := .int (f B 8)) dX12_opens_19 flX12_36 (sM_0 hs) rfl ?_
  refine S_if_le (pc := 22) (tgt := 26) dX12_opens_22 rfl (fun hc4 => ?_) (fun hc4 => ?_)
  · replace H := H.1 hc4
    refine S_aload_n (pc := 26) dX12_opens_26 rfl rfl ?_
    refine S_dup (pc := 27) dX12_opens_27 rfl ?_
    refine S_get (pc := 28) (v := .int (f B 37)) dX12_opens_28 flX12_125 (sM_0 hs) rfl ?_
    refine S_iconst (pc := 31) dX12_opens_31 ic1 ?_
    refine S_iadd (pc := 32) dX12_opens_32 ?_
    refine S_putI (pc := 33) dX12_opens_33 flX12_125 (sM_0 hs) hs.2.2 (nf_12_37) rfl rfl (fun _ => rfl) ?_
    refine S_aload_n (pc := 36) dX12_opens_36 rfl rfl ?_
    refine S_callV (As := []) (mc := 0) (ms := 0) (pc := 37) dX12_opens_37 miX12_ahead mvX12_ahead mlX12_249 rfl (sM_0 hs) rfl rfl rfl (RmOK.of rfl) H ?_
    rintro _ _ ⟨f5, g6, rfl, rfl, H⟩
    show WP _ _ _ _ _ _ _ 40 [some (.ref B), some (.int a1)] [] (sh, f5, g6, fR)
    refine S_aload_n (pc := 40) dX12_opens_40 rfl rfl ?_
    refine S_iload_n (pc := 41) dX12_opens_41 rfl rfl ?_
    refine S_callV (As := [.int a1]) (mc := 0) (ms := 0) (pc := 42) dX12_opens_42 miX12_pushes mvX12_pushes mlX12_320 rfl (sM_0 hs) rfl rfl rfl (RmOK.of rfl) (Q := fun r h => WP _ _ _ _ _ _ _ 45 [some (.ref B), some (.int a1)] (r.toList ++ []) h) (Cl.of miX12_pushes rfl rfl ?_) (fun _ _ q => q)
    refine S_aload_n (pc := 0) dX12_pushes_0 rfl rfl ?_
    refine S_getR (pc := 1) dX12_pushes_1 flX12_106 (sM_0 hs) rfl (rM_31 hs) ?_
    refine S_aload_n (pc := 4) dX12_pushes_4 rfl rfl ?_
    refine S_get (pc := 5) (v := .int (f5 B 36)) dX12_pushes_5 flX12_122 (sM_0 hs) rfl ?_
    refine S_iload_n (pc := 8) dX12_pushes_8 rfl rfl ?_
    obtain ⟨hb7, H⟩ := H
    refine S_iast (pc := 9) dX12_pushes_9 (sM_16 hs) (Nat.succ_pos _) hb7 ?_
    refine S_aload_n (pc := 10) dX12_pushes_10 rfl rfl ?_
    refine S_getR (pc := 11) dX12_pushes_11 flX12_109 (sM_0 hs) rfl (rM_32 hs) ?_
    refine S_aload_n (pc := 14) dX12_pushes_14 rfl rfl ?_
    refine S_get (pc := 15) (v := .int ((up2 f5 (B + 16) (f5 B 36).toNatClampNeg a1) B 36)) dX12_pushes_15 flX12_122 (sM_0 hs) rfl ?_
    refine S_eqi (x := f5 B 36) ((up2_r (by omega)).trans rfl) ?_
    refine S_iconst (pc := 18) dX12_pushes_18 ic0 ?_
    obtain ⟨hb8, H⟩ := H
    refine S_iast (pc := 19) dX12_pushes_19 (sM_17 hs) (Nat.succ_pos _) hb8 ?_
    refine S_aload_n (pc := 20) dX12_pushes_20 rfl rfl ?_
    refine S_getR (pc := 21) dX12_pushes_21 flX12_112 (sM_0 hs) rfl (rM_33 hs) ?_
    refine S_aload_n (pc := 24) dX12_pushes_24 rfl rfl ?_
    refine S_get (pc := 25) (v := .int ((up2 (up2 f5 (B + 16) (f5 B 36).toNatClampNeg a1) (B + 17) (f5 B 36).toNatClampNeg (nI 0)) B 36)) dX12_pushes_25 flX12_122 (sM_0 hs) rfl ?_
    refine S_eqi (x := f5 B 36) ((up2_r (by omega)).trans ((up2_r (by omega)).trans rfl)) ?_
    refine S_iconst (pc := 28) dX12_pushes_28 ic1 ?_
    obtain ⟨hb9, H⟩ := H
    refine S_zast (pc := 29) dX12_pushes_29 (sM_18 hs) (Nat.succ_pos _) hb9 ?_
    show WP _ _ _ _ _ _ _ 30 _ _ (sh, (up2 (up2 (up2 f5 (B + 16) (f5 B 36).toNatClampNeg a1) (B + 17) (f5 B 36).toNatClampNeg (nI 0)) (B + 18) (f5 B 36).toNatClampNeg (nI 1)), g6, fR)
    refine S_aload_n (pc := 30) dX12_pushes_30 rfl rfl ?_
    refine S_getR (pc := 31) dX12_pushes_31 flX12_119 (sM_0 hs) rfl (rM_35 hs) ?_
    refine S_aload_n (pc := 34) dX12_pushes_34 rfl rfl ?_
    refine S_get (pc := 35) (v := .int ((up2 (up2 (up2 f5 (B + 16) (f5 B 36).toNatClampNeg a1) (B + 17) (f5 B 36).toNatClampNeg (nI 0)) (B + 18) (f5 B 36).toNatClampNeg (nI 1)) B 36)) dX12_pushes_35 flX12_122 (sM_0 hs) rfl ?_
    refine S_eqi (x := f5 B 36) ((up2_r (by omega)).trans ((up2_r (by omega)).trans ((up2_r (by omega)).trans rfl))) ?_
    refine S_aload_n (pc := 38) dX12_pushes_38 rfl rfl ?_
    refine S_get (pc := 39) (v := .int ((up2 (up2 (up2 f5 (B + 16) (f5 B 36).toNatClampNeg a1) (B + 17) (f5 B 36).toNatClampNeg (nI 0)) (B + 18) (f5 B 36).toNatClampNeg (nI 1)) B 39)) dX12_pushes_39 flX12_131 (sM_0 hs) rfl ?_
    refine S_eqi (x := f5 B 39) ((up2_r (by omega)).trans ((up2_r (by omega)).trans ((up2_r (by omega)).trans rfl))) ?_
    obtain ⟨hb10, H⟩ := H
    refine S_iast (pc := 42) dX12_pushes_42 (sM_20 hs) (Nat.succ_pos _) hb10 ?_
    refine S_aload_n (pc := 43) dX12_pushes_43 rfl rfl ?_
    refine S_dup (pc := 44) dX12_pushes_44 rfl ?_
    refine S_get (pc := 45) (v := .int ((up2 (up2 (up2 (up2 f5 (B + 16) (f5 B 36).toNatClampNeg a1) (B + 17) (f5 B 36).toNatClampNeg (nI 0)) (B + 18) (f5 B 36).toNatClampNeg (nI 1)) (B + 20) (f5 B 36).toNatClampNeg (f5 B 39)) B 36)) dX12_pushes_45 flX12_122 (sM_0 hs) rfl ?_
    refine S_eqi (x := f5 B 36) ((up2_r (by omega)).trans ((up2_r (by omega)).trans ((up2_r (by omega)).trans ((up2_r (by omega)).trans rfl)))) ?_
    refine S_iconst (pc := 48) dX12_pushes_48 ic1 ?_
    refine S_iadd (pc := 49) dX12_pushes_49 ?_
    refine S_putI (pc := 50) dX12_pushes_50 flX12_122 (sM_0 hs) hs.2.2 (nf_12_36) rfl rfl (fun _ => rfl) ?_
    refine S_vreturn dX12_pushes_53 rfl ?_
    show WP _ _ _ _ _ _ _ 45 [some (.ref B), some (.int a1)] [] (sh, (up2 (up2 (up2 (up2 (up2 f5 (B + 16) (f5 B 36).toNatClampNeg a1) (B + 17) (f5 B 36).toNatClampNeg (nI 0)) (B + 18) (f5 B 36).toNatClampNeg (nI 1)) (B + 20) (f5 B 36).toNatClampNeg (f5 B 39)) B 36 ((f5 B 36) + (nI 1))), g6, fR)
    exact S_vreturn dX12_opens_45 rfl H
  · replace H := H.2 hc4
    exact S_vreturn dX12_opens_25 rfl H
set_option maxHeartbeats 2000000 in
set_option maxRecDepth 4000 in
theorem VX12_isTest {l : Launch} {G : Gx} {d : Nat} {Q : Option Value → Hp → Prop} {sh : Sh} {fR : FRt} {B : Nat} {f : FI} {g : FL} {a0 : Int32} (hs : StM sh fR B)
    (H : ((a0 = (nI 1) → Q (some (.int (nI 1))) (sh, f, g, fR)) ∧ (¬ a0 = (nI 1) → ((a0 = (nI 5) → Q (some (.int (nI 1))) (sh, f, g, fR)) ∧ (¬ a0 = (nI 5) → ((¬ a0 = (nI 6) → Q (some (.int (nI 0))) (sh, f, g, fR)) ∧ (a0 = (nI 6) → Q (some (.int (nI 1))) (sh, f, g, fR)))))))) :
    Cl l G d 0 0 mX12_isTest [.int a0] (sh, f, g, fR) Q := by
  refine Cl.of (L0 := [some (.int a0)]) miX12_isTest rfl rfl ?_
  refine S_iload_n (pc := 0) dX12_isTest_0 rfl rfl ?_
  refine S_iconst (pc := 1) dX12_isTest_1 ic1 ?_
  refine S_icmp_eq (pc := 2) (tgt := 16) dX12_isTest_2 rfl (fun hc1 => ?_) (fun hc1 => ?_)
  · replace H := H.1 hc1
    refine S_iconst (pc := 16) dX12_isTest_16 ic1 ?_
    refine S_goto (pc := 17) (tgt := 21) dX12_isTest_17 rfl ?_
    exact S_zreturn dX12_isTest_21 rfl (Or.inr rfl) H
  · replace H := H.2 hc1
    refine S_iload_n (pc := 5) dX12_isTest_5 rfl rfl ?_
    refine S_iconst (pc := 6) dX12_isTest_6 ic5 ?_
    refine S_icmp_eq (pc := 7) (tgt := 16) dX12_isTest_7 rfl (fun hc2 => ?_) (fun hc2 => ?_)
    · replace H := H.1 hc2
      refine S_iconst (pc := 16) dX12_isTest_16 ic1 ?_
      refine S_goto (pc := 17) (tgt := 21) dX12_isTest_17 rfl ?_
      exact S_zreturn dX12_isTest_21 rfl (Or.inr rfl) H
    · replace H := H.2 hc2
      refine S_iload_n (pc := 10) dX12_isTest_10 rfl rfl ?_
      refine S_bipush (pc := 11) dX12_isTest_11 bp6 ?_
      refine S_icmp_ne (pc := 13) (tgt := 20) dX12_isTest_13 rfl (fun hc3 => ?_) (fun hc3 => ?_)
      · replace H := H.1 hc3
        refine S_iconst (pc := 20) dX12_isTest_20 ic0 ?_
        exact S_zreturn dX12_isTest_21 rfl (Or.inl rfl) H
      · replace H := H.2 hc3
        refine S_iconst (pc := 16) dX12_isTest_16 ic1 ?_
        refine S_goto (pc := 17) (tgt := 21) dX12_isTest_17 rfl ?_
        exact S_zreturn dX12_isTest_21 rfl (Or.inr rfl) H
abbrev LpX12_operand_45 (l : Launch) (G : Gx) (d : Nat) (Q : Option Value → Hp → Prop) (sh : Sh) (fR : FRt) (B : Nat) (f : FI) (g : FL) (a1 : Int32) : Prop := WP l G (Zq G 0 0 Q) mX12_operand (rmd (d + 3) 0 0) 0 0 45 [some (.ref B), some (.int a1), none, none] [] (sh, f, g, fR)
abbrev LpX12_operand_110 (l : Launch) (G : Gx) (d : Nat) (Q : Option Value → Hp → Prop) (sh : Sh) (fR : FRt) (B : Nat) (f : FI) (g : FL) (a1 : Int32) (a2 : Int32) : Prop := WP l G (Zq G 0 0 Q) mX12_operand (rmd (d + 3) 0 0) 0 0 110 [some (.ref B), some (.int a1), some (.int a2), none] [] (sh, f, g, fR)
abbrev LpX12_operand_79 (l : Launch) (G : Gx) (d : Nat) (Q : Option Value → Hp → Prop) (sh : Sh) (fR : FRt) (B : Nat) (f : FI) (g : FL)  : Prop := WP l G (Zq G 0 0 Q) mX12_operand (rmd (d + 3) 0 0) 0 0 79 [some (.ref B), none, none, none] [] (sh, f, g, fR)
abbrev LpX12_operand_137 (l : Launch) (G : Gx) (d : Nat) (Q : Option Value → Hp → Prop) (sh : Sh) (fR : FRt) (B : Nat) (f : FI) (g : FL) (a1 : Int32) (a2 : Int32) : Prop := WP l G (Zq G 0 0 Q) mX12_operand (rmd (d + 3) 0 0) 0 0 137 [some (.ref B), some (.int a1), some (.int a2), none] [] (sh, f, g, fR)
abbrev LpX12_operand_171 (l : Launch) (G : Gx) (d : Nat) (Q : Option Value → Hp → Prop) (sh : Sh) (fR : FRt) (B : Nat) (f : FI) (g : FL)  : Prop := WP l G (Zq G 0 0 Q) mX12_operand (rmd (d + 3) 0 0) 0 0 171 [some (.ref B), none, none, none] [] (sh, f, g, fR)
abbrev LpX12_operand_217 (l : Launch) (G : Gx) (d : Nat) (Q : Option Value → Hp → Prop) (sh : Sh) (fR : FRt) (B : Nat) (f : FI) (g : FL)  : Prop := WP l G (Zq G 0 0 Q) mX12_operand (rmd (d + 3) 0 0) 0 0 217 [some (.ref B), none, none, none] [] (sh, f, g, fR)
abbrev LpX12_operand_492 (l : Launch) (G : Gx) (d : Nat) (Q : Option Value → Hp → Prop) (sh : Sh) (fR : FRt) (B : Nat) (f : FI) (g : FL) (a3 : Int32) : Prop := WP l G (Zq G 0 0 Q) mX12_operand (rmd (d + 3) 0 0) 0 0 492 [some (.ref B), none, none, some (.int a3)] [] (sh, f, g, fR)
abbrev LpX12_operand_276 (l : Launch) (G : Gx) (d : Nat) (Q : Option Value → Hp → Prop) (sh : Sh) (fR : FRt) (B : Nat) (f : FI) (g : FL) (a3 : Int32) : Prop := WP l G (Zq G 0 0 Q) mX12_operand (rmd (d + 3) 0 0) 0 0 276 [some (.ref B), none, none, some (.int a3)] [] (sh, f, g, fR)
abbrev LpX12_operand_506 (l : Launch) (G : Gx) (d : Nat) (Q : Option Value → Hp → Prop) (sh : Sh) (fR : FRt) (B : Nat) (f : FI) (g : FL) (a3 : Int32) : Prop := WP l G (Zq G 0 0 Q) mX12_operand (rmd (d + 3) 0 0) 0 0 506 [some (.ref B), none, none, some (.int a3)] [] (sh, f, g, fR)
set_option maxHeartbeats 2000000 in
set_option maxRecDepth 4000 in
theorem VX12_operand {l : Launch} {G : Gx} {d : Nat} {Q : Option Value → Hp → Prop} {sh : Sh} {fR : FRt} {B : Nat} {f : FI} {g : FL}  (hs : StM sh fR B)
    (H : Cl l G (d + 2) 0 0 mX12_lex [.ref B] (sh, f, g, fR) (qv sh fR fun f1 g2 => (((f1 B 8) ≤ 0 → (∀ w4 : Int32, w4 = (f1 B 36) - (nI 1) → inb w4 20 ∧ Cl l G (d + 2) 0 0 mX12_isTest [.int (f1 (B + 16) w4.toNatClampNeg)] (sh, f1, g2, fR) (qi sh fR fun x9 f7 g8 => ((x9 = 0 → LpX12_operand_45 l G d Q sh fR B f7 g8 w4) ∧ (¬ x9 = 0 → inb w4 20 ∧ (((f7 (B + 18) w4.toNatClampNeg) = 0 → LpX12_operand_45 l G d Q sh fR B f7 g8 w4) ∧ (¬ (f7 (B + 18) w4.toNatClampNeg) = 0 → Cl l G (d + 2) 0 0 mX12_isWord [.ref B, .long (lN 7237492)] (sh, f7, g8, fR) (qi sh fR fun x16 f14 g15 => ((x16 = 0 → LpX12_operand_110 l G d Q sh fR B f14 g15 w4 (nI 1)) ∧ (¬ x16 = 0 → ((¬ (f14 B 37) = (nI 7) → LpX12_operand_79 l G d Q sh fR B f14 g15) ∧ ((f14 B 37) = (nI 7) → Cl l G (d + 2) 0 0 mX12_blame [.ref B, .int (nI 5), .int (f14 B 4)] (sh, f14, g15, fR) (qv sh fR fun f19 g20 => LpX12_operand_79 l G d Q sh fR B f19 g20))))))))))))) ∧ (¬ (f1 B 8) ≤ 0 → Q (some (.int (nI 1))) (sh, f1, g2, fR))))) :
    Cl l G (d + 3) 0 0 mX12_operand [.ref B] (sh, f, g, fR) Q := by
  refine Cl.of (L0 := [some (.ref B), none, none, none]) miX12_operand rfl rfl ?_
  refine S_aload_n (pc := 0) dX12_operand_0 rfl rfl ?_
  refine S_callV (As := []) (mc := 0) (ms := 0) (pc := 1) dX12_operand_1 miX12_lex mvX12_lex mlX12_243 rfl (sM_0 hs) rfl rfl rfl (RmOK.of rfl) H ?_
  rintro _ _ ⟨f1, g2, rfl, rfl, H⟩
  show WP _ _ _ _ _ _ _ 4 [some (.ref B), none, none, none] [] (sh, f1, g2, fR)
  refine S_aload_n (pc := 4) dX12_operand_4 rfl rfl ?_
  refine S_get (pc := 5) (v := .int (f1 B 8)) dX12_operand_5 flX12_36 (sM_0 hs) rfl ?_
  refine S_if_le (pc := 8) (tgt := 13) dX12_operand_8 rfl (fun hc3 => ?_) (fun hc3 => ?_)
  · replace H := H.1 hc3
    refine S_aload_n (pc := 13) dX12_operand_13 rfl rfl ?_
    refine S_get (pc := 14) (v := .int (f1 B 36)) dX12_operand_14 flX12_122 (sM_0 hs) rfl ?_
    refine S_iconst (pc := 17) dX12_operand_17 ic1 ?_
    refine S_isub (pc := 18) dX12_operand_18 ?_
    refine S_namei (fun w4 e5 => ?_)
    replace H := H w4 e5
    refine S_istore_n (pc := 19) (L' := [some (.ref B), some (.int w4), none, none]) dX12_operand_19 rfl (by decide) rfl ?_
    refine S_aload_n (pc := 20) dX12_operand_20 rfl rfl ?_
    refine S_getR (pc := 21) dX12_operand_21 flX12_106 (sM_0 hs) rfl (rM_31 hs) ?_
    refine S_iload_n (pc := 24) dX12_operand_24 rfl rfl ?_
    obtain ⟨hb6, H⟩ := H
    refine S_iald (pc := 25) dX12_operand_25 (sM_16 hs) hb6 ?_
    refine S_callS (As := [.int (f1 (B + 16) w4.toNatClampNeg)]) (mc := 0) (ms := 0) (pc := 26) dX12_operand_26 miX12_isTest mvX12_isTest mlX12_323 rfl rfl (RmOK.of rfl) H ?_
    rintro _ _ ⟨x9, f7, g8, rfl, rfl, H⟩
    show WP _ _ _ _ _ _ _ 29 [some (.ref B), some (.int w4), none, none] [.int x9] (sh, f7, g8, fR)
    refine S_if_eq (pc := 29) (tgt := 45) dX12_operand_29 rfl (fun hc10 => ?_) (fun hc10 => ?_)
    · replace H := H.1 hc10
      exact H
    · replace H := H.2 hc10
      refine S_aload_n (pc := 32) dX12_operand_32 rfl rfl ?_
      refine S_getR (pc := 33) dX12_operand_33 flX12_112 (sM_0 hs) rfl (rM_33 hs) ?_
      refine S_iload_n (pc := 36) dX12_operand_36 rfl rfl ?_
      obtain ⟨hb11, H⟩ := H
      refine S_zald (pc := 37) dX12_operand_37 (sM_18 hs) hb11 ?_
      refine S_if_eq (pc := 38) (tgt := 45) dX12_operand_38 rfl (fun hc12 => ?_) (fun hc12 => ?_)
      · replace H := H.1 hc12
        exact H
      · replace H := H.2 hc12
        refine S_iconst (pc := 41) dX12_operand_41 ic1 ?_
        refine S_goto (pc := 42) (tgt := 46) dX12_operand_42 rfl ?_
        refine S_istore_n (pc := 46) (L' := [some (.ref B), some (.int w4), some (.int (nI 1)), none]) dX12_operand_46 rfl (by decide) rfl ?_
        refine S_iload_n (pc := 47) dX12_operand_47 rfl rfl ?_
        refine S_if_eq (pc := 48) (tgt := 110) dX12_operand_48 rfl (fun hc13 => by first | exact absurd hc13 (by decide) | exact absurd (by decide) hc13) (fun _ => ?_)
        refine S_aload_n (pc := 51) dX12_operand_51 rfl rfl ?_
        refine S_ldc2 (pc := 52) (v := lN 7237492) dX12_operand_52 (gw 1496 rfl rfl) ?_
        refine S_callV (As := [.long (lN 7237492)]) (mc := 0) (ms := 0) (pc := 55) dX12_operand_55 miX12_isWord mvX12_isWord mlX12_326 rfl (sM_0 hs) rfl rfl rfl (RmOK.of rfl) H ?_
        rintro _ _ ⟨x16, f14, g15, rfl, rfl, H⟩
        show WP _ _ _ _ _ _ _ 58 [some (.ref B), some (.int w4), some (.int (nI 1)), none] [.int x16] (sh, f14, g15, fR)
        refine S_if_eq (pc := 58) (tgt := 110) dX12_operand_58 rfl (fun hc17 => ?_) (fun hc17 => ?_)
        · replace H := H.1 hc17
          exact H
        · replace H := H.2 hc17
          refine S_aload_n (pc := 61) dX12_operand_61 rfl rfl ?_
          refine S_get (pc := 62) (v := .int (f14 B 37)) dX12_operand_62 flX12_125 (sM_0 hs) rfl ?_
          refine S_bipush (pc := 65) dX12_operand_65 bp7 ?_
          refine S_icmp_ne (pc := 67) (tgt := 79) dX12_operand_67 rfl (fun hc18 => ?_) (fun hc18 => ?_)
          · replace H := H.1 hc18
            exact S_weak (L' := [some (.ref B), none, none, none]) (ls_e (ls_n (ls_n (ls_e ls_0)))) H
          · replace H := H.2 hc18
            refine S_aload_n (pc := 70) dX12_operand_70 rfl rfl ?_
            refine S_iconst (pc := 71) dX12_operand_71 ic5 ?_
            refine S_aload_n (pc := 72) dX12_operand_72 rfl rfl ?_
            refine S_get (pc := 73) (v := .int (f14 B 4)) dX12_operand_73 flX12_23 (sM_0 hs) rfl ?_
            refine S_callV (As := [.int (nI 5), .int (f14 B 4)]) (mc := 0) (ms := 0) (pc := 76) dX12_operand_76 miX12_blame mvX12_blame mlX12_232 rfl (sM_0 hs) rfl rfl rfl (RmOK.of rfl) H ?_
            rintro _ _ ⟨f19, g20, rfl, rfl, H⟩
            show WP _ _ _ _ _ _ _ 79 [some (.ref B), some (.int w4), some (.int (nI 1)), none] [] (sh, f19, g20, fR)
            exact S_weak (L' := [some (.ref B), none, none, none]) (ls_e (ls_n (ls_n (ls_e ls_0)))) H
  · replace H := H.2 hc3
    refine S_iconst (pc := 11) dX12_operand_11 ic1 ?_
    exact S_zreturn dX12_operand_12 rfl (Or.inr rfl) H
set_option maxHeartbeats 2000000 in
set_option maxRecDepth 4000 in
theorem VX12_operand_45 {l : Launch} {G : Gx} {d : Nat} {Q : Option Value → Hp → Prop} {sh : Sh} {fR : FRt} {B : Nat} {f : FI} {g : FL} {a1 : Int32} (hs : StM sh fR B)
    (H : LpX12_operand_110 l G d Q sh fR B f g a1 (nI 0)) :
    LpX12_operand_45 l G d Q sh fR B f g a1 := by
  refine S_iconst (pc := 45) dX12_operand_45 ic0 ?_
  refine S_istore_n (pc := 46) (L' := [some (.ref B), some (.int a1), some (.int (nI 0)), none]) dX12_operand_46 rfl (by decide) rfl ?_
  refine S_iload_n (pc := 47) dX12_operand_47 rfl rfl ?_
  refine S_if_eq (pc := 48) (tgt := 110) dX12_operand_48 rfl (fun _ => ?_) (fun hc21 => by first | exact absurd (by decide) hc21 | exact absurd hc21 (by decide))
  exact H
set_option maxHeartbeats 2000000 in
set_option maxRecDepth 4000 in
theorem VX12_operand_110 {l : Launch} {G : Gx} {d : Nat} {Q : Option Value → Hp → Prop} {sh : Sh} {fR : FRt} {B : Nat} {f : FI} {g : FL} {a1 : Int32} {a2 : Int32} (hs : StM sh fR B)
    (H : inb a1 20 ∧ ((a2 = 0 → LpX12_operand_137 l G d Q sh fR B (up2 f (B + 18) a1.toNatClampNeg (nI 0)) g a1 a2) ∧ (¬ a2 = 0 → Cl l G (d + 2) 0 0 mX12_isSign [.ref B, .int (nI 91)] (sh, (up2 f (B + 18) a1.toNatClampNeg (nI 0)), g, fR) (qi sh fR fun x26 f24 g25 => ((x26 = 0 → LpX12_operand_137 l G d Q sh fR B f24 g25 a1 a2) ∧ (¬ x26 = 0 → Cl l G (d + 2) 0 0 mX12_opens [.ref B, .int (nI 5)] (sh, f24, g25, fR) (qv sh fR fun f28 g29 => Q (some (.int (nI 0))) (sh, f28, g29, fR)))))))) :
    LpX12_operand_110 l G d Q sh fR B f g a1 a2 := by
  refine S_aload_n (pc := 110) dX12_operand_110 rfl rfl ?_
  refine S_getR (pc := 111) dX12_operand_111 flX12_112 (sM_0 hs) rfl (rM_33 hs) ?_
  refine S_iload_n (pc := 114) dX12_operand_114 rfl rfl ?_
  refine S_iconst (pc := 115) dX12_operand_115 ic0 ?_
  obtain ⟨hb22, H⟩ := H
  refine S_zast (pc := 116) dX12_operand_116 (sM_18 hs) (Nat.succ_pos _) hb22 ?_
  show WP _ _ _ _ _ _ _ 117 _ _ (sh, (up2 f (B + 18) a1.toNatClampNeg (nI 0)), g, fR)
  refine S_iload_n (pc := 117) dX12_operand_117 rfl rfl ?_
  refine S_if_eq (pc := 118) (tgt := 137) dX12_operand_118 rfl (fun hc23 => ?_) (fun hc23 => ?_)
  · replace H := H.1 hc23
    exact H
  · replace H := H.2 hc23
    refine S_aload_n (pc := 121) dX12_operand_121 rfl rfl ?_
    refine S_bipush (pc := 122) dX12_operand_122 bp91 ?_
    refine S_callV (As := [.int (nI 91)]) (mc := 0) (ms := 0) (pc := 124) dX12_operand_124 miX12_isSign mvX12_isSign mlX12_246 rfl (sM_0 hs) rfl rfl rfl (RmOK.of rfl) H ?_
    rintro _ _ ⟨x26, f24, g25, rfl, rfl, H⟩
    show WP _ _ _ _ _ _ _ 127 [some (.ref B), some (.int a1), some (.int a2), none] [.int x26] (sh, f24, g25, fR)
    refine S_if_eq (pc := 127) (tgt := 137) dX12_operand_127 rfl (fun hc27 => ?_) (fun hc27 => ?_)
    · replace H := H.1 hc27
      exact H
    · replace H := H.2 hc27
      refine S_aload_n (pc := 130) dX12_operand_130 rfl rfl ?_
      refine S_iconst (pc := 131) dX12_operand_131 ic5 ?_
      refine S_callV (As := [.int (nI 5)]) (mc := 0) (ms := 0) (pc := 132) dX12_operand_132 miX12_opens mvX12_opens mlX12_333 rfl (sM_0 hs) rfl rfl rfl (RmOK.of rfl) H ?_
      rintro _ _ ⟨f28, g29, rfl, rfl, H⟩
      show WP _ _ _ _ _ _ _ 135 [some (.ref B), some (.int a1), some (.int a2), none] [] (sh, f28, g29, fR)
      refine S_iconst (pc := 135) dX12_operand_135 ic0 ?_
      exact S_zreturn dX12_operand_136 rfl (Or.inl rfl) H
set_option maxHeartbeats 2000000 in
set_option maxRecDepth 4000 in
theorem VX12_operand_79 {l : Launch} {G : Gx} {d : Nat} {Q : Option Value → Hp → Prop} {sh : Sh} {fR : FRt} {B : Nat} {f : FI} {g : FL}  (hs : StM sh fR B)
    (H : (((f B 8) ≤ 0 → inb (f B 39) 500 ∧ Cl l G (d + 2) 0 0 mX12_ahead [.ref B] (sh, (up2 (up2 (up2 f B 37 ((f B 37) + (nI 1))) (B + 21) (f B 39).toNatClampNeg (nI 43)) B 39 ((f B 39) + (nI 1))), g, fR) (qv sh fR fun f32 g33 => Q (some (.int (nI 0))) (sh, f32, g33, fR))) ∧ (¬ (f B 8) ≤ 0 → Q (some (.int (nI 1))) (sh, f, g, fR)))) :
    LpX12_operand_79 l G d Q sh fR B f g  := by
  refine S_aload_n (pc := 79) dX12_operand_79 rfl rfl ?_
  refine S_get (pc := 80) (v := .int (f B 8)) dX12_operand_80 flX12_36 (sM_0 hs) rfl ?_
  refine S_if_le (pc := 83) (tgt := 88) dX12_operand_83 rfl (fun hc30 => ?_) (fun hc30 => ?_)
  · replace H := H.1 hc30
    refine S_aload_n (pc := 88) dX12_operand_88 rfl rfl ?_
    refine S_dup (pc := 89) dX12_operand_89 rfl ?_
    refine S_get (pc := 90) (v := .int (f B 37)) dX12_operand_90 flX12_125 (sM_0 hs) rfl ?_
    refine S_iconst (pc := 93) dX12_operand_93 ic1 ?_
    refine S_iadd (pc := 94) dX12_operand_94 ?_
    refine S_putI (pc := 95) dX12_operand_95 flX12_125 (sM_0 hs) hs.2.2 (nf_12_37) rfl rfl (fun _ => rfl) ?_
    refine S_aload_n (pc := 98) dX12_operand_98 rfl rfl ?_
    refine S_bipush (pc := 99) dX12_operand_99 bp43 ?_
    refine S_callV (As := [.int (nI 43)]) (mc := 0) (ms := 0) (pc := 101) dX12_operand_101 miX12_holdsBack mvX12_holdsBack mlX12_330 rfl (sM_0 hs) rfl rfl rfl (RmOK.of rfl) (Q := fun r h => WP _ _ _ _ _ _ _ 104 [some (.ref B), none, none, none] (r.toList ++ []) h) (Cl.of miX12_holdsBack rfl rfl ?_) (fun _ _ q => q)
    refine S_aload_n (pc := 0) dX12_holdsBack_0 rfl rfl ?_
    refine S_getR (pc := 1) dX12_holdsBack_1 flX12_128 (sM_0 hs) rfl (rM_38 hs) ?_
    refine S_aload_n (pc := 4) dX12_holdsBack_4 rfl rfl ?_
    refine S_get (pc := 5) (v := .int ((up2 f B 37 ((f B 37) + (nI 1))) B 39)) dX12_holdsBack_5 flX12_131 (sM_0 hs) rfl ?_
    refine S_eqi (x := f B 39) ((up2_k (by decide)).trans rfl) ?_
    refine S_iload_n (pc := 8) dX12_holdsBack_8 rfl rfl ?_
    obtain ⟨hb31, H⟩ := H
    refine S_iast (pc := 9) dX12_holdsBack_9 (sM_21 hs) (Nat.succ_pos _) hb31 ?_
    refine S_aload_n (pc := 10) dX12_holdsBack_10 rfl rfl ?_
    refine S_dup (pc := 11) dX12_holdsBack_11 rfl ?_
    refine S_get (pc := 12) (v := .int ((up2 (up2 f B 37 ((f B 37) + (nI 1))) (B + 21) (f B 39).toNatClampNeg (nI 43)) B 39)) dX12_holdsBack_12 flX12_131 (sM_0 hs) rfl ?_
    refine S_eqi (x := f B 39) ((up2_r (by omega)).trans ((up2_k (by decide)).trans rfl)) ?_
    refine S_iconst (pc := 15) dX12_holdsBack_15 ic1 ?_
    refine S_iadd (pc := 16) dX12_holdsBack_16 ?_
    refine S_putI (pc := 17) dX12_holdsBack_17 flX12_131 (sM_0 hs) hs.2.2 (nf_12_39) rfl rfl (fun _ => rfl) ?_
    refine S_vreturn dX12_holdsBack_20 rfl ?_
    show WP _ _ _ _ _ _ _ 104 [some (.ref B), none, none, none] [] (sh, (up2 (up2 (up2 f B 37 ((f B 37) + (nI 1))) (B + 21) (f B 39).toNatClampNeg (nI 43)) B 39 ((f B 39) + (nI 1))), g, fR)
    refine S_aload_n (pc := 104) dX12_operand_104 rfl rfl ?_
    refine S_callV (As := []) (mc := 0) (ms := 0) (pc := 105) dX12_operand_105 miX12_ahead mvX12_ahead mlX12_249 rfl (sM_0 hs) rfl rfl rfl (RmOK.of rfl) H ?_
    rintro _ _ ⟨f32, g33, rfl, rfl, H⟩
    show WP _ _ _ _ _ _ _ 108 [some (.ref B), none, none, none] [] (sh, f32, g33, fR)
    refine S_iconst (pc := 108) dX12_operand_108 ic0 ?_
    exact S_zreturn dX12_operand_109 rfl (Or.inl rfl) H
  · replace H := H.2 hc30
    refine S_iconst (pc := 86) dX12_operand_86 ic1 ?_
    exact S_zreturn dX12_operand_87 rfl (Or.inr rfl) H
set_option maxHeartbeats 2000000 in
set_option maxRecDepth 4000 in
theorem VX12_operand_137 {l : Launch} {G : Gx} {d : Nat} {Q : Option Value → Hp → Prop} {sh : Sh} {fR : FRt} {B : Nat} {f : FI} {g : FL} {a1 : Int32} {a2 : Int32} (hs : StM sh fR B)
    (H : ((a2 = 0 → LpX12_operand_171 l G d Q sh fR B f g) ∧ (¬ a2 = 0 → Cl l G (d + 2) 0 0 mX12_isWord [.ref B, .long (lN 6384748)] (sh, f, g, fR) (qi sh fR fun x37 f35 g36 => ((x37 = 0 → LpX12_operand_171 l G d Q sh fR B f35 g36) ∧ (¬ x37 = 0 → inb (((nI 1600) * (f35 B 29)) + (f35 B 28)) 3200 ∧ inb (((nI 1600) * (f35 B 29)) + (f35 B 28)) 3200 ∧ inb a1 20 ∧ Cl l G (d + 2) 0 0 mX12_ahead [.ref B] (sh, (up2 (up2 (up2 (up2 f35 (B + 13) (((nI 1600) * (f35 B 29)) + (f35 B 28)).toNatClampNeg (nI 30)) (B + 14) (((nI 1600) * (f35 B 29)) + (f35 B 28)).toNatClampNeg (nI 0)) B 28 ((f35 B 28) + (nI 1))) (B + 17) a1.toNatClampNeg (nI 2)), g36, fR) (qv sh fR fun f42 g43 => Q (some (.int (nI 1))) (sh, f42, g43, fR)))))))) :
    LpX12_operand_137 l G d Q sh fR B f g a1 a2 := by
  refine S_iload_n (pc := 137) dX12_operand_137 rfl rfl ?_
  refine S_if_eq (pc := 138) (tgt := 171) dX12_operand_138 rfl (fun hc34 => ?_) (fun hc34 => ?_)
  · replace H := H.1 hc34
    exact S_weak (L' := [some (.ref B), none, none, none]) (ls_e (ls_n (ls_n (ls_e ls_0)))) H
  · replace H := H.2 hc34
    refine S_aload_n (pc := 141) dX12_operand_141 rfl rfl ?_
    refine S_ldc2 (pc := 142) (v := lN 6384748) dX12_operand_142 (gw 1497 rfl rfl) ?_
    refine S_callV (As := [.long (lN 6384748)]) (mc := 0) (ms := 0) (pc := 145) dX12_operand_145 miX12_isWord mvX12_isWord mlX12_326 rfl (sM_0 hs) rfl rfl rfl (RmOK.of rfl) H ?_
    rintro _ _ ⟨x37, f35, g36, rfl, rfl, H⟩
    show WP _ _ _ _ _ _ _ 148 [some (.ref B), some (.int a1), some (.int a2), none] [.int x37] (sh, f35, g36, fR)
    refine S_if_eq (pc := 148) (tgt := 171) dX12_operand_148 rfl (fun hc38 => ?_) (fun hc38 => ?_)
    · replace H := H.1 hc38
      exact S_weak (L' := [some (.ref B), none, none, none]) (ls_e (ls_n (ls_n (ls_e ls_0)))) H
    · replace H := H.2 hc38
      refine S_aload_n (pc := 151) dX12_operand_151 rfl rfl ?_
      refine S_bipush (pc := 152) dX12_operand_152 bp30 ?_
      refine S_iconst (pc := 154) dX12_operand_154 ic0 ?_
      refine S_callV (As := [.int (nI 30), .int (nI 0)]) (mc := 0) (ms := 0) (pc := 155) dX12_operand_155 miX12_add mvX12_add mlX12_317 rfl (sM_0 hs) rfl rfl rfl (RmOK.of rfl) (Q := fun r h => WP _ _ _ _ _ _ _ 158 [some (.ref B), some (.int a1), some (.int a2), none] (r.toList ++ []) h) (Cl.of miX12_add rfl rfl ?_) (fun _ _ q => q)
      refine S_aload_n (pc := 0) dX12_add_0 rfl rfl ?_
      refine S_getR (pc := 1) dX12_add_1 flX12_87 (sM_0 hs) rfl (rM_25 hs) ?_
      refine S_sipush (pc := 4) dX12_add_4 sp1600 ?_
      refine S_aload_n (pc := 7) dX12_add_7 rfl rfl ?_
      refine S_get (pc := 8) (v := .int (f35 B 29)) dX12_add_8 flX12_100 (sM_0 hs) rfl ?_
      refine S_imul (pc := 11) dX12_add_11 ?_
      refine S_aload_n (pc := 12) dX12_add_12 rfl rfl ?_
      refine S_get (pc := 13) (v := .int (f35 B 28)) dX12_add_13 flX12_97 (sM_0 hs) rfl ?_
      refine S_iadd (pc := 16) dX12_add_16 ?_
      refine S_iload_n (pc := 17) dX12_add_17 rfl rfl ?_
      obtain ⟨hb39, H⟩ := H
      refine S_iast (pc := 18) dX12_add_18 (sM_13 hs) (Nat.succ_pos _) hb39 ?_
      refine S_aload_n (pc := 19) dX12_add_19 rfl rfl ?_
      refine S_getR (pc := 20) dX12_add_20 flX12_90 (sM_0 hs) rfl (rM_26 hs) ?_
      refine S_sipush (pc := 23) dX12_add_23 sp1600 ?_
      refine S_aload_n (pc := 26) dX12_add_26 rfl rfl ?_
      refine S_get (pc := 27) (v := .int ((up2 f35 (B + 13) (((nI 1600) * (f35 B 29)) + (f35 B 28)).toNatClampNeg (nI 30)) B 29)) dX12_add_27 flX12_100 (sM_0 hs) rfl ?_
      refine S_eqi (x := f35 B 29) ((up2_r (by omega)).trans rfl) ?_
      refine S_imul (pc := 30) dX12_add_30 ?_
      refine S_aload_n (pc := 31) dX12_add_31 rfl rfl ?_
      refine S_get (pc := 32) (v := .int ((up2 f35 (B + 13) (((nI 1600) * (f35 B 29)) + (f35 B 28)).toNatClampNeg (nI 30)) B 28)) dX12_add_32 flX12_97 (sM_0 hs) rfl ?_
      refine S_eqi (x := f35 B 28) ((up2_r (by omega)).trans rfl) ?_
      refine S_iadd (pc := 35) dX12_add_35 ?_
      refine S_iload_n (pc := 36) dX12_add_36 rfl rfl ?_
      obtain ⟨hb40, H⟩ := H
      refine S_iast (pc := 37) dX12_add_37 (sM_14 hs) (Nat.succ_pos _) hb40 ?_
      refine S_aload_n (pc := 38) dX12_add_38 rfl rfl ?_
      refine S_dup (pc := 39) dX12_add_39 rfl ?_
      refine S_get (pc := 40) (v := .int ((up2 (up2 f35 (B + 13) (((nI 1600) * (f35 B 29)) + (f35 B 28)).toNatClampNeg (nI 30)) (B + 14) (((nI 1600) * (f35 B 29)) + (f35 B 28)).toNatClampNeg (nI 0)) B 28)) dX12_add_40 flX12_97 (sM_0 hs) rfl ?_
      refine S_eqi (x := f35 B 28) ((up2_r (by omega)).trans ((up2_r (by omega)).trans rfl)) ?_
      refine S_iconst (pc := 43) dX12_add_43 ic1 ?_
      refine S_iadd (pc := 44) dX12_add_44 ?_
      refine S_putI (pc := 45) dX12_add_45 flX12_97 (sM_0 hs) hs.2.2 (nf_12_28) rfl rfl (fun _ => rfl) ?_
      refine S_vreturn dX12_add_48 rfl ?_
      show WP _ _ _ _ _ _ _ 158 [some (.ref B), some (.int a1), some (.int a2), none] [] (sh, (up2 (up2 (up2 f35 (B + 13) (((nI 1600) * (f35 B 29)) + (f35 B 28)).toNatClampNeg (nI 30)) (B + 14) (((nI 1600) * (f35 B 29)) + (f35 B 28)).toNatClampNeg (nI 0)) B 28 ((f35 B 28) + (nI 1))), g36, fR)
      refine S_aload_n (pc := 158) dX12_operand_158 rfl rfl ?_
      refine S_getR (pc := 159) dX12_operand_159 flX12_109 (sM_0 hs) rfl (rM_32 hs) ?_
      refine S_iload_n (pc := 162) dX12_operand_162 rfl rfl ?_
      refine S_iconst (pc := 163) dX12_operand_163 ic2 ?_
      obtain ⟨hb41, H⟩ := H
      refine S_iast (pc := 164) dX12_operand_164 (sM_17 hs) (Nat.succ_pos _) hb41 ?_
      refine S_aload_n (pc := 165) dX12_operand_165 rfl rfl ?_
      refine S_callV (As := []) (mc := 0) (ms := 0) (pc := 166) dX12_operand_166 miX12_ahead mvX12_ahead mlX12_249 rfl (sM_0 hs) rfl rfl rfl (RmOK.of rfl) H ?_
      rintro _ _ ⟨f42, g43, rfl, rfl, H⟩
      show WP _ _ _ _ _ _ _ 169 [some (.ref B), some (.int a1), some (.int a2), none] [] (sh, f42, g43, fR)
      refine S_iconst (pc := 169) dX12_operand_169 ic1 ?_
      exact S_zreturn dX12_operand_170 rfl (Or.inr rfl) H
set_option maxHeartbeats 2000000 in
set_option maxRecDepth 4000 in
theorem VX12_operand_171 {l : Launch} {G : Gx} {d : Nat} {Q : Option Value → Hp → Prop} {sh : Sh} {fR : FRt} {B : Nat} {f : FI} {g : FL}  (hs : StM sh fR B)
    (H : Cl l G (d + 2) 0 0 mX12_isSign [.ref B, .int (nI 40)] (sh, f, g, fR) (qi sh fR fun x46 f44 g45 => ((x46 = 0 → Cl l G (d + 2) 0 0 mX12_isWord [.ref B, .long (lN 7170414)] (sh, f44, g45, fR) (qi sh fR fun x50 f48 g49 => ((¬ x50 = 0 → LpX12_operand_217 l G d Q sh fR B f48 g49) ∧ (x50 = 0 → Cl l G (d + 2) 0 0 mX12_isWord [.ref B, .long (lN 7168376)] (sh, f48, g49, fR) (qi sh fR fun x54 f52 g53 => ((¬ x54 = 0 → LpX12_operand_217 l G d Q sh fR B f52 g53) ∧ (x54 = 0 → Cl l G (d + 2) 0 0 mX12_isWord [.ref B, .long (lN 26982)] (sh, f52, g53, fR) (qi sh fR fun x58 f56 g57 => ((x58 = 0 → ((¬ (f56 B 3) = (nI 2) → Cl l G (d + 2) 0 0 mX12_isWord [.ref B, .long (lN 1953063787)] (sh, f56, g57, fR) (qi sh fR fun x63 f61 g62 => ((x63 = 0 → Cl l G (d + 2) 0 0 mX12_isWord [.ref B, .long (lN 1885434984)] (sh, f61, g62, fR) (qi sh fR fun x67 f65 g66 => ((x67 = 0 → Cl l G (d + 2) 0 0 mX12_isWord [.ref B, .long (lN 121450625394034)] (sh, f65, g66, fR) (qi sh fR fun x71 f69 g70 => ((x71 = 0 → Cl l G (d + 2) 0 0 mX12_isWord [.ref B, .long (lN 1718775661)] (sh, f69, g70, fR) (qi sh fR fun x75 f73 g74 => ((x75 = 0 → Cl l G (d + 2) 0 0 mX12_isWord [.ref B, .long (lN 431198331257)] (sh, f73, g74, fR) (qi sh fR fun x79 f77 g78 => ((x79 = 0 → Cl l G (d + 2) 0 0 mX12_isWord [.ref B, .long (lN 1668771428)] (sh, f77, g78, fR) (qi sh fR fun x83 f81 g82 => ((x83 = 0 → Cl l G (d + 2) 0 0 mX12_isWord [.ref B, .long (lN 112616079453799)] (sh, f81, g82, fR) (qi sh fR fun x87 f85 g86 => ((x87 = 0 → Cl l G (d + 2) 0 0 mX12_isWord [.ref B, .long (lN 439720963187)] (sh, f85, g86, fR) (qi sh fR fun x91 f89 g90 => ((x91 = 0 → Cl l G (d + 2) 0 0 mX12_isWord [.ref B, .long (lN 491327153273)] (sh, f89, g90, fR) (qi sh fR fun x95 f93 g94 => ((x95 = 0 → Cl l G (d + 2) 0 0 mX12_isWord [.ref B, .long (lN 418363302244)] (sh, f93, g94, fR) (qi sh fR fun x99 f97 g98 => ((x99 = 0 → LpX12_operand_492 l G d Q sh fR B f97 g98 (-1)) ∧ (¬ x99 = 0 → Cl l G (d + 2) 0 0 mX12_askedIn [.int (f97 B 30)] (sh, f97, g98, fR) (qi sh fR fun x105 f103 g104 => Cl l G (d + 2) 0 0 mX12_has2 [.int x105, .int (nI 10)] (sh, f103, g104, fR) (qi sh fR fun x108 f106 g107 => ((¬ x108 = 0 → LpX12_operand_492 l G d Q sh fR B f106 g107 (nI 10)) ∧ (x108 = 0 → LpX12_operand_492 l G d Q sh fR B f106 g107 (-1))))))))) ∧ (¬ x95 = 0 → Cl l G (d + 2) 0 0 mX12_askedIn [.int (f93 B 30)] (sh, f93, g94, fR) (qi sh fR fun x113 f111 g112 => Cl l G (d + 2) 0 0 mX12_has2 [.int x113, .int (nI 9)] (sh, f111, g112, fR) (qi sh fR fun x116 f114 g115 => ((¬ x116 = 0 → LpX12_operand_492 l G d Q sh fR B f114 g115 (nI 9)) ∧ (x116 = 0 → LpX12_operand_492 l G d Q sh fR B f114 g115 (-1))))))))) ∧ (¬ x91 = 0 → Cl l G (d + 2) 0 0 mX12_askedIn [.int (f89 B 30)] (sh, f89, g90, fR) (qi sh fR fun x121 f119 g120 => Cl l G (d + 2) 0 0 mX12_has2 [.int x121, .int (nI 8)] (sh, f119, g120, fR) (qi sh fR fun x124 f122 g123 => ((¬ x124 = 0 → LpX12_operand_492 l G d Q sh fR B f122 g123 (nI 8)) ∧ (x124 = 0 → LpX12_operand_492 l G d Q sh fR B f122 g123 (-1))))))))) ∧ (¬ x87 = 0 → Cl l G (d + 2) 0 0 mX12_askedIn [.int (f85 B 30)] (sh, f85, g86, fR) (qi sh fR fun x129 f127 g128 => Cl l G (d + 2) 0 0 mX12_has2 [.int x129, .int (nI 7)] (sh, f127, g128, fR) (qi sh fR fun x132 f130 g131 => ((¬ x132 = 0 → LpX12_operand_492 l G d Q sh fR B f130 g131 (nI 7)) ∧ (x132 = 0 → LpX12_operand_492 l G d Q sh fR B f130 g131 (-1))))))))) ∧ (¬ x83 = 0 → Cl l G (d + 2) 0 0 mX12_askedIn [.int (f81 B 30)] (sh, f81, g82, fR) (qi sh fR fun x137 f135 g136 => Cl l G (d + 2) 0 0 mX12_has2 [.int x137, .int (nI 6)] (sh, f135, g136, fR) (qi sh fR fun x140 f138 g139 => ((¬ x140 = 0 → LpX12_operand_492 l G d Q sh fR B f138 g139 (nI 6)) ∧ (x140 = 0 → LpX12_operand_492 l G d Q sh fR B f138 g139 (-1))))))))) ∧ (¬ x79 = 0 → Cl l G (d + 2) 0 0 mX12_askedIn [.int (f77 B 30)] (sh, f77, g78, fR) (qi sh fR fun x145 f143 g144 => Cl l G (d + 2) 0 0 mX12_has2 [.int x145, .int (nI 5)] (sh, f143, g144, fR) (qi sh fR fun x148 f146 g147 => ((¬ x148 = 0 → LpX12_operand_492 l G d Q sh fR B f146 g147 (nI 5)) ∧ (x148 = 0 → LpX12_operand_492 l G d Q sh fR B f146 g147 (-1))))))))) ∧ (¬ x75 = 0 → Cl l G (d + 2) 0 0 mX12_askedIn [.int (f73 B 30)] (sh, f73, g74, fR) (qi sh fR fun x153 f151 g152 => Cl l G (d + 2) 0 0 mX12_has2 [.int x153, .int (nI 4)] (sh, f151, g152, fR) (qi sh fR fun x156 f154 g155 => ((¬ x156 = 0 → LpX12_operand_492 l G d Q sh fR B f154 g155 (nI 4)) ∧ (x156 = 0 → LpX12_operand_492 l G d Q sh fR B f154 g155 (-1))))))))) ∧ (¬ x71 = 0 → Cl l G (d + 2) 0 0 mX12_askedIn [.int (f69 B 30)] (sh, f69, g70, fR) (qi sh fR fun x161 f159 g160 => Cl l G (d + 2) 0 0 mX12_has2 [.int x161, .int (nI 3)] (sh, f159, g160, fR) (qi sh fR fun x164 f162 g163 => ((¬ x164 = 0 → LpX12_operand_492 l G d Q sh fR B f162 g163 (nI 3)) ∧ (x164 = 0 → LpX12_operand_492 l G d Q sh fR B f162 g163 (-1))))))))) ∧ (¬ x67 = 0 → Cl l G (d + 2) 0 0 mX12_askedIn [.int (f65 B 30)] (sh, f65, g66, fR) (qi sh fR fun x169 f167 g168 => Cl l G (d + 2) 0 0 mX12_has2 [.int x169, .int (nI 2)] (sh, f167, g168, fR) (qi sh fR fun x172 f170 g171 => ((¬ x172 = 0 → LpX12_operand_492 l G d Q sh fR B f170 g171 (nI 2)) ∧ (x172 = 0 → LpX12_operand_492 l G d Q sh fR B f170 g171 (-1))))))))) ∧ (¬ x63 = 0 → Cl l G (d + 2) 0 0 mX12_askedIn [.int (f61 B 30)] (sh, f61, g62, fR) (qi sh fR fun x177 f175 g176 => Cl l G (d + 2) 0 0 mX12_has2 [.int x177, .int (nI 1)] (sh, f175, g176, fR) (qi sh fR fun x180 f178 g179 => ((¬ x180 = 0 → LpX12_operand_492 l G d Q sh fR B f178 g179 (nI 1)) ∧ (x180 = 0 → LpX12_operand_492 l G d Q sh fR B f178 g179 (-1))))))))) ∧ ((f56 B 3) = (nI 2) → LpX12_operand_492 l G d Q sh fR B f56 g57 (nI 0)))) ∧ (¬ x58 = 0 → LpX12_operand_217 l G d Q sh fR B f56 g57)))))))))) ∧ (¬ x46 = 0 → Cl l G (d + 2) 0 0 mX12_opens [.ref B, .int (nI 2)] (sh, f44, g45, fR) (qv sh fR fun f183 g184 => Q (some (.int (nI 0))) (sh, f183, g184, fR)))))) :
    LpX12_operand_171 l G d Q sh fR B f g  := by
  refine S_aload_n (pc := 171) dX12_operand_171 rfl rfl ?_
  refine S_bipush (pc := 172) dX12_operand_172 bp40 ?_
  refine S_callV (As := [.int (nI 40)]) (mc := 0) (ms := 0) (pc := 174) dX12_operand_174 miX12_isSign mvX12_isSign mlX12_246 rfl (sM_0 hs) rfl rfl rfl (RmOK.of rfl) H ?_
  rintro _ _ ⟨x46, f44, g45, rfl, rfl, H⟩
  show WP _ _ _ _ _ _ _ 177 [some (.ref B), none, none, none] [.int x46] (sh, f44, g45, fR)
  refine S_if_eq (pc := 177) (tgt := 187) dX12_operand_177 rfl (fun hc47 => ?_) (fun hc47 => ?_)
  · replace H := H.1 hc47
    refine S_aload_n (pc := 187) dX12_operand_187 rfl rfl ?_
    refine S_ldc2 (pc := 188) (v := lN 7170414) dX12_operand_188 (gw 1498 rfl rfl) ?_
    refine S_callV (As := [.long (lN 7170414)]) (mc := 0) (ms := 0) (pc := 191) dX12_operand_191 miX12_isWord mvX12_isWord mlX12_326 rfl (sM_0 hs) rfl rfl rfl (RmOK.of rfl) H ?_
    rintro _ _ ⟨x50, f48, g49, rfl, rfl, H⟩
    show WP _ _ _ _ _ _ _ 194 [some (.ref B), none, none, none] [.int x50] (sh, f48, g49, fR)
    refine S_if_ne (pc := 194) (tgt := 217) dX12_operand_194 rfl (fun hc51 => ?_) (fun hc51 => ?_)
    · replace H := H.1 hc51
      exact H
    · replace H := H.2 hc51
      refine S_aload_n (pc := 197) dX12_operand_197 rfl rfl ?_
      refine S_ldc2 (pc := 198) (v := lN 7168376) dX12_operand_198 (gw 1499 rfl rfl) ?_
      refine S_callV (As := [.long (lN 7168376)]) (mc := 0) (ms := 0) (pc := 201) dX12_operand_201 miX12_isWord mvX12_isWord mlX12_326 rfl (sM_0 hs) rfl rfl rfl (RmOK.of rfl) H ?_
      rintro _ _ ⟨x54, f52, g53, rfl, rfl, H⟩
      show WP _ _ _ _ _ _ _ 204 [some (.ref B), none, none, none] [.int x54] (sh, f52, g53, fR)
      refine S_if_ne (pc := 204) (tgt := 217) dX12_operand_204 rfl (fun hc55 => ?_) (fun hc55 => ?_)
      · replace H := H.1 hc55
        exact H
      · replace H := H.2 hc55
        refine S_aload_n (pc := 207) dX12_operand_207 rfl rfl ?_
        refine S_ldc2 (pc := 208) (v := lN 26982) dX12_operand_208 (gw 1493 rfl rfl) ?_
        refine S_callV (As := [.long (lN 26982)]) (mc := 0) (ms := 0) (pc := 211) dX12_operand_211 miX12_isWord mvX12_isWord mlX12_326 rfl (sM_0 hs) rfl rfl rfl (RmOK.of rfl) H ?_
        rintro _ _ ⟨x58, f56, g57, rfl, rfl, H⟩
        show WP _ _ _ _ _ _ _ 214 [some (.ref B), none, none, none] [.int x58] (sh, f56, g57, fR)
        refine S_if_eq (pc := 214) (tgt := 313) dX12_operand_214 rfl (fun hc59 => ?_) (fun hc59 => ?_)
        · replace H := H.1 hc59
          refine S_aload_n (pc := 313) dX12_operand_313 rfl rfl ?_
          refine S_get (pc := 314) (v := .int (f56 B 3)) dX12_operand_314 flX12_20 (sM_0 hs) rfl ?_
          refine S_iconst (pc := 317) dX12_operand_317 ic2 ?_
          refine S_icmp_ne (pc := 318) (tgt := 325) dX12_operand_318 rfl (fun hc60 => ?_) (fun hc60 => ?_)
          · replace H := H.1 hc60
            refine S_aload_n (pc := 325) dX12_operand_325 rfl rfl ?_
            refine S_ldc2 (pc := 326) (v := lN 1953063787) dX12_operand_326 (gw 1485 rfl rfl) ?_
            refine S_callV (As := [.long (lN 1953063787)]) (mc := 0) (ms := 0) (pc := 329) dX12_operand_329 miX12_isWord mvX12_isWord mlX12_326 rfl (sM_0 hs) rfl rfl rfl (RmOK.of rfl) H ?_
            rintro _ _ ⟨x63, f61, g62, rfl, rfl, H⟩
            show WP _ _ _ _ _ _ _ 332 [some (.ref B), none, none, none] [.int x63] (sh, f61, g62, fR)
            refine S_if_eq (pc := 332) (tgt := 339) dX12_operand_332 rfl (fun hc64 => ?_) (fun hc64 => ?_)
            · replace H := H.1 hc64
              refine S_aload_n (pc := 339) dX12_operand_339 rfl rfl ?_
              refine S_ldc2 (pc := 340) (v := lN 1885434984) dX12_operand_340 (gw 1463 rfl rfl) ?_
              refine S_callV (As := [.long (lN 1885434984)]) (mc := 0) (ms := 0) (pc := 343) dX12_operand_343 miX12_isWord mvX12_isWord mlX12_326 rfl (sM_0 hs) rfl rfl rfl (RmOK.of rfl) H ?_
              rintro _ _ ⟨x67, f65, g66, rfl, rfl, H⟩
              show WP _ _ _ _ _ _ _ 346 [some (.ref B), none, none, none] [.int x67] (sh, f65, g66, fR)
              refine S_if_eq (pc := 346) (tgt := 353) dX12_operand_346 rfl (fun hc68 => ?_) (fun hc68 => ?_)
              · replace H := H.1 hc68
                refine S_aload_n (pc := 353) dX12_operand_353 rfl rfl ?_
                refine S_ldc2 (pc := 354) (v := lN 121450625394034) dX12_operand_354 (gw 1486 rfl rfl) ?_
                refine S_callV (As := [.long (lN 121450625394034)]) (mc := 0) (ms := 0) (pc := 357) dX12_operand_357 miX12_isWord mvX12_isWord mlX12_326 rfl (sM_0 hs) rfl rfl rfl (RmOK.of rfl) H ?_
                rintro _ _ ⟨x71, f69, g70, rfl, rfl, H⟩
                show WP _ _ _ _ _ _ _ 360 [some (.ref B), none, none, none] [.int x71] (sh, f69, g70, fR)
                refine S_if_eq (pc := 360) (tgt := 367) dX12_operand_360 rfl (fun hc72 => ?_) (fun hc72 => ?_)
                · replace H := H.1 hc72
                  refine S_aload_n (pc := 367) dX12_operand_367 rfl rfl ?_
                  refine S_ldc2 (pc := 368) (v := lN 1718775661) dX12_operand_368 (gw 1487 rfl rfl) ?_
                  refine S_callV (As := [.long (lN 1718775661)]) (mc := 0) (ms := 0) (pc := 371) dX12_operand_371 miX12_isWord mvX12_isWord mlX12_326 rfl (sM_0 hs) rfl rfl rfl (RmOK.of rfl) H ?_
                  rintro _ _ ⟨x75, f73, g74, rfl, rfl, H⟩
                  show WP _ _ _ _ _ _ _ 374 [some (.ref B), none, none, none] [.int x75] (sh, f73, g74, fR)
                  refine S_if_eq (pc := 374) (tgt := 381) dX12_operand_374 rfl (fun hc76 => ?_) (fun hc76 => ?_)
                  · replace H := H.1 hc76
                    refine S_aload_n (pc := 381) dX12_operand_381 rfl rfl ?_
                    refine S_ldc2 (pc := 382) (v := lN 431198331257) dX12_operand_382 (gw 1476 rfl rfl) ?_
                    refine S_callV (As := [.long (lN 431198331257)]) (mc := 0) (ms := 0) (pc := 385) dX12_operand_385 miX12_isWord mvX12_isWord mlX12_326 rfl (sM_0 hs) rfl rfl rfl (RmOK.of rfl) H ?_
                    rintro _ _ ⟨x79, f77, g78, rfl, rfl, H⟩
                    show WP _ _ _ _ _ _ _ 388 [some (.ref B), none, none, none] [.int x79] (sh, f77, g78, fR)
                    refine S_if_eq (pc := 388) (tgt := 395) dX12_operand_388 rfl (fun hc80 => ?_) (fun hc80 => ?_)
                    · replace H := H.1 hc80
                      refine S_aload_n (pc := 395) dX12_operand_395 rfl rfl ?_
                      refine S_ldc2 (pc := 396) (v := lN 1668771428) dX12_operand_396 (gw 1488 rfl rfl) ?_
                      refine S_callV (As := [.long (lN 1668771428)]) (mc := 0) (ms := 0) (pc := 399) dX12_operand_399 miX12_isWord mvX12_isWord mlX12_326 rfl (sM_0 hs) rfl rfl rfl (RmOK.of rfl) H ?_
                      rintro _ _ ⟨x83, f81, g82, rfl, rfl, H⟩
                      show WP _ _ _ _ _ _ _ 402 [some (.ref B), none, none, none] [.int x83] (sh, f81, g82, fR)
                      refine S_if_eq (pc := 402) (tgt := 410) dX12_operand_402 rfl (fun hc84 => ?_) (fun hc84 => ?_)
                      · replace H := H.1 hc84
                        refine S_aload_n (pc := 410) dX12_operand_410 rfl rfl ?_
                        refine S_ldc2 (pc := 411) (v := lN 112616079453799) dX12_operand_411 (gw 1489 rfl rfl) ?_
                        refine S_callV (As := [.long (lN 112616079453799)]) (mc := 0) (ms := 0) (pc := 414) dX12_operand_414 miX12_isWord mvX12_isWord mlX12_326 rfl (sM_0 hs) rfl rfl rfl (RmOK.of rfl) H ?_
                        rintro _ _ ⟨x87, f85, g86, rfl, rfl, H⟩
                        show WP _ _ _ _ _ _ _ 417 [some (.ref B), none, none, none] [.int x87] (sh, f85, g86, fR)
                        refine S_if_eq (pc := 417) (tgt := 425) dX12_operand_417 rfl (fun hc88 => ?_) (fun hc88 => ?_)
                        · replace H := H.1 hc88
                          refine S_aload_n (pc := 425) dX12_operand_425 rfl rfl ?_
                          refine S_ldc2 (pc := 426) (v := lN 439720963187) dX12_operand_426 (gw 1490 rfl rfl) ?_
                          refine S_callV (As := [.long (lN 439720963187)]) (mc := 0) (ms := 0) (pc := 429) dX12_operand_429 miX12_isWord mvX12_isWord mlX12_326 rfl (sM_0 hs) rfl rfl rfl (RmOK.of rfl) H ?_
                          rintro _ _ ⟨x91, f89, g90, rfl, rfl, H⟩
                          show WP _ _ _ _ _ _ _ 432 [some (.ref B), none, none, none] [.int x91] (sh, f89, g90, fR)
                          refine S_if_eq (pc := 432) (tgt := 440) dX12_operand_432 rfl (fun hc92 => ?_) (fun hc92 => ?_)
                          · replace H := H.1 hc92
                            refine S_aload_n (pc := 440) dX12_operand_440 rfl rfl ?_
                            refine S_ldc2 (pc := 441) (v := lN 491327153273) dX12_operand_441 (gw 1491 rfl rfl) ?_
                            refine S_callV (As := [.long (lN 491327153273)]) (mc := 0) (ms := 0) (pc := 444) dX12_operand_444 miX12_isWord mvX12_isWord mlX12_326 rfl (sM_0 hs) rfl rfl rfl (RmOK.of rfl) H ?_
                            rintro _ _ ⟨x95, f93, g94, rfl, rfl, H⟩
                            show WP _ _ _ _ _ _ _ 447 [some (.ref B), none, none, none] [.int x95] (sh, f93, g94, fR)
                            refine S_if_eq (pc := 447) (tgt := 455) dX12_operand_447 rfl (fun hc96 => ?_) (fun hc96 => ?_)
                            · replace H := H.1 hc96
                              refine S_aload_n (pc := 455) dX12_operand_455 rfl rfl ?_
                              refine S_ldc2 (pc := 456) (v := lN 418363302244) dX12_operand_456 (gw 1492 rfl rfl) ?_
                              refine S_callV (As := [.long (lN 418363302244)]) (mc := 0) (ms := 0) (pc := 459) dX12_operand_459 miX12_isWord mvX12_isWord mlX12_326 rfl (sM_0 hs) rfl rfl rfl (RmOK.of rfl) H ?_
                              rintro _ _ ⟨x99, f97, g98, rfl, rfl, H⟩
                              show WP _ _ _ _ _ _ _ 462 [some (.ref B), none, none, none] [.int x99] (sh, f97, g98, fR)
                              refine S_if_eq (pc := 462) (tgt := 470) dX12_operand_462 rfl (fun hc100 => ?_) (fun hc100 => ?_)
                              · replace H := H.1 hc100
                                refine S_iconst (pc := 470) dX12_operand_470 icm1 ?_
                                refine S_istore_n (pc := 471) (L' := [some (.ref B), none, none, some (.int (-1))]) dX12_operand_471 rfl (by decide) rfl ?_
                                refine S_iload_n (pc := 472) dX12_operand_472 rfl rfl ?_
                                refine S_if_le (pc := 473) (tgt := 492) dX12_operand_473 rfl (fun _ => ?_) (fun hc101 => by first | exact absurd (by decide) hc101 | exact absurd hc101 (by decide))
                                exact H
                              · replace H := H.2 hc100
                                refine S_bipush (pc := 465) dX12_operand_465 bp10 ?_
                                refine S_goto (pc := 467) (tgt := 471) dX12_operand_467 rfl ?_
                                refine S_istore_n (pc := 471) (L' := [some (.ref B), none, none, some (.int (nI 10))]) dX12_operand_471 rfl (by decide) rfl ?_
                                refine S_iload_n (pc := 472) dX12_operand_472 rfl rfl ?_
                                refine S_if_le (pc := 473) (tgt := 492) dX12_operand_473 rfl (fun hc102 => by first | exact absurd hc102 (by decide) | exact absurd (by decide) hc102) (fun _ => ?_)
                                refine S_aload_n (pc := 476) dX12_operand_476 rfl rfl ?_
                                refine S_get (pc := 477) (v := .int (f97 B 30)) dX12_operand_477 flX12_103 (sM_0 hs) rfl ?_
                                refine S_callS (As := [.int (f97 B 30)]) (mc := 0) (ms := 0) (pc := 480) dX12_operand_480 miX12_askedIn mvX12_askedIn mlX12_336 rfl rfl (RmOK.of rfl) H ?_
                                rintro _ _ ⟨x105, f103, g104, rfl, rfl, H⟩
                                show WP _ _ _ _ _ _ _ 483 [some (.ref B), none, none, some (.int (nI 10))] [.int x105] (sh, f103, g104, fR)
                                refine S_iload_n (pc := 483) dX12_operand_483 rfl rfl ?_
                                refine S_callS (As := [.int x105, .int (nI 10)]) (mc := 0) (ms := 0) (pc := 484) dX12_operand_484 miX12_has2 mvX12_has2 mlX12_339 rfl rfl (RmOK.of rfl) H ?_
                                rintro _ _ ⟨x108, f106, g107, rfl, rfl, H⟩
                                show WP _ _ _ _ _ _ _ 487 [some (.ref B), none, none, some (.int (nI 10))] [.int x108] (sh, f106, g107, fR)
                                refine S_if_ne (pc := 487) (tgt := 492) dX12_operand_487 rfl (fun hc109 => ?_) (fun hc109 => ?_)
                                · replace H := H.1 hc109
                                  exact H
                                · replace H := H.2 hc109
                                  refine S_iconst (pc := 490) dX12_operand_490 icm1 ?_
                                  refine S_istore_n (pc := 491) (L' := [some (.ref B), none, none, some (.int (-1))]) dX12_operand_491 rfl (by decide) rfl ?_
                                  exact H
                            · replace H := H.2 hc96
                              refine S_bipush (pc := 450) dX12_operand_450 bp9 ?_
                              refine S_goto (pc := 452) (tgt := 471) dX12_operand_452 rfl ?_
                              refine S_istore_n (pc := 471) (L' := [some (.ref B), none, none, some (.int (nI 9))]) dX12_operand_471 rfl (by decide) rfl ?_
                              refine S_iload_n (pc := 472) dX12_operand_472 rfl rfl ?_
                              refine S_if_le (pc := 473) (tgt := 492) dX12_operand_473 rfl (fun hc110 => by first | exact absurd hc110 (by decide) | exact absurd (by decide) hc110) (fun _ => ?_)
                              refine S_aload_n (pc := 476) dX12_operand_476 rfl rfl ?_
                              refine S_get (pc := 477) (v := .int (f93 B 30)) dX12_operand_477 flX12_103 (sM_0 hs) rfl ?_
                              refine S_callS (As := [.int (f93 B 30)]) (mc := 0) (ms := 0) (pc := 480) dX12_operand_480 miX12_askedIn mvX12_askedIn mlX12_336 rfl rfl (RmOK.of rfl) H ?_
                              rintro _ _ ⟨x113, f111, g112, rfl, rfl, H⟩
                              show WP _ _ _ _ _ _ _ 483 [some (.ref B), none, none, some (.int (nI 9))] [.int x113] (sh, f111, g112, fR)
                              refine S_iload_n (pc := 483) dX12_operand_483 rfl rfl ?_
                              refine S_callS (As := [.int x113, .int (nI 9)]) (mc := 0) (ms := 0) (pc := 484) dX12_operand_484 miX12_has2 mvX12_has2 mlX12_339 rfl rfl (RmOK.of rfl) H ?_
                              rintro _ _ ⟨x116, f114, g115, rfl, rfl, H⟩
                              show WP _ _ _ _ _ _ _ 487 [some (.ref B), none, none, some (.int (nI 9))] [.int x116] (sh, f114, g115, fR)
                              refine S_if_ne (pc := 487) (tgt := 492) dX12_operand_487 rfl (fun hc117 => ?_) (fun hc117 => ?_)
                              · replace H := H.1 hc117
                                exact H
                              · replace H := H.2 hc117
                                refine S_iconst (pc := 490) dX12_operand_490 icm1 ?_
                                refine S_istore_n (pc := 491) (L' := [some (.ref B), none, none, some (.int (-1))]) dX12_operand_491 rfl (by decide) rfl ?_
                                exact H
                          · replace H := H.2 hc92
                            refine S_bipush (pc := 435) dX12_operand_435 bp8 ?_
                            refine S_goto (pc := 437) (tgt := 471) dX12_operand_437 rfl ?_
                            refine S_istore_n (pc := 471) (L' := [some (.ref B), none, none, some (.int (nI 8))]) dX12_operand_471 rfl (by decide) rfl ?_
                            refine S_iload_n (pc := 472) dX12_operand_472 rfl rfl ?_
                            refine S_if_le (pc := 473) (tgt := 492) dX12_operand_473 rfl (fun hc118 => by first | exact absurd hc118 (by decide) | exact absurd (by decide) hc118) (fun _ => ?_)
                            refine S_aload_n (pc := 476) dX12_operand_476 rfl rfl ?_
                            refine S_get (pc := 477) (v := .int (f89 B 30)) dX12_operand_477 flX12_103 (sM_0 hs) rfl ?_
                            refine S_callS (As := [.int (f89 B 30)]) (mc := 0) (ms := 0) (pc := 480) dX12_operand_480 miX12_askedIn mvX12_askedIn mlX12_336 rfl rfl (RmOK.of rfl) H ?_
                            rintro _ _ ⟨x121, f119, g120, rfl, rfl, H⟩
                            show WP _ _ _ _ _ _ _ 483 [some (.ref B), none, none, some (.int (nI 8))] [.int x121] (sh, f119, g120, fR)
                            refine S_iload_n (pc := 483) dX12_operand_483 rfl rfl ?_
                            refine S_callS (As := [.int x121, .int (nI 8)]) (mc := 0) (ms := 0) (pc := 484) dX12_operand_484 miX12_has2 mvX12_has2 mlX12_339 rfl rfl (RmOK.of rfl) H ?_
                            rintro _ _ ⟨x124, f122, g123, rfl, rfl, H⟩
                            show WP _ _ _ _ _ _ _ 487 [some (.ref B), none, none, some (.int (nI 8))] [.int x124] (sh, f122, g123, fR)
                            refine S_if_ne (pc := 487) (tgt := 492) dX12_operand_487 rfl (fun hc125 => ?_) (fun hc125 => ?_)
                            · replace H := H.1 hc125
                              exact H
                            · replace H := H.2 hc125
                              refine S_iconst (pc := 490) dX12_operand_490 icm1 ?_
                              refine S_istore_n (pc := 491) (L' := [some (.ref B), none, none, some (.int (-1))]) dX12_operand_491 rfl (by decide) rfl ?_
                              exact H
                        · replace H := H.2 hc88
                          refine S_bipush (pc := 420) dX12_operand_420 bp7 ?_
                          refine S_goto (pc := 422) (tgt := 471) dX12_operand_422 rfl ?_
                          refine S_istore_n (pc := 471) (L' := [some (.ref B), none, none, some (.int (nI 7))]) dX12_operand_471 rfl (by decide) rfl ?_
                          refine S_iload_n (pc := 472) dX12_operand_472 rfl rfl ?_
                          refine S_if_le (pc := 473) (tgt := 492) dX12_operand_473 rfl (fun hc126 => by first | exact absurd hc126 (by decide) | exact absurd (by decide) hc126) (fun _ => ?_)
                          refine S_aload_n (pc := 476) dX12_operand_476 rfl rfl ?_
                          refine S_get (pc := 477) (v := .int (f85 B 30)) dX12_operand_477 flX12_103 (sM_0 hs) rfl ?_
                          refine S_callS (As := [.int (f85 B 30)]) (mc := 0) (ms := 0) (pc := 480) dX12_operand_480 miX12_askedIn mvX12_askedIn mlX12_336 rfl rfl (RmOK.of rfl) H ?_
                          rintro _ _ ⟨x129, f127, g128, rfl, rfl, H⟩
                          show WP _ _ _ _ _ _ _ 483 [some (.ref B), none, none, some (.int (nI 7))] [.int x129] (sh, f127, g128, fR)
                          refine S_iload_n (pc := 483) dX12_operand_483 rfl rfl ?_
                          refine S_callS (As := [.int x129, .int (nI 7)]) (mc := 0) (ms := 0) (pc := 484) dX12_operand_484 miX12_has2 mvX12_has2 mlX12_339 rfl rfl (RmOK.of rfl) H ?_
                          rintro _ _ ⟨x132, f130, g131, rfl, rfl, H⟩
                          show WP _ _ _ _ _ _ _ 487 [some (.ref B), none, none, some (.int (nI 7))] [.int x132] (sh, f130, g131, fR)
                          refine S_if_ne (pc := 487) (tgt := 492) dX12_operand_487 rfl (fun hc133 => ?_) (fun hc133 => ?_)
                          · replace H := H.1 hc133
                            exact H
                          · replace H := H.2 hc133
                            refine S_iconst (pc := 490) dX12_operand_490 icm1 ?_
                            refine S_istore_n (pc := 491) (L' := [some (.ref B), none, none, some (.int (-1))]) dX12_operand_491 rfl (by decide) rfl ?_
                            exact H
                      · replace H := H.2 hc84
                        refine S_bipush (pc := 405) dX12_operand_405 bp6 ?_
                        refine S_goto (pc := 407) (tgt := 471) dX12_operand_407 rfl ?_
                        refine S_istore_n (pc := 471) (L' := [some (.ref B), none, none, some (.int (nI 6))]) dX12_operand_471 rfl (by decide) rfl ?_
                        refine S_iload_n (pc := 472) dX12_operand_472 rfl rfl ?_
                        refine S_if_le (pc := 473) (tgt := 492) dX12_operand_473 rfl (fun hc134 => by first | exact absurd hc134 (by decide) | exact absurd (by decide) hc134) (fun _ => ?_)
                        refine S_aload_n (pc := 476) dX12_operand_476 rfl rfl ?_
                        refine S_get (pc := 477) (v := .int (f81 B 30)) dX12_operand_477 flX12_103 (sM_0 hs) rfl ?_
                        refine S_callS (As := [.int (f81 B 30)]) (mc := 0) (ms := 0) (pc := 480) dX12_operand_480 miX12_askedIn mvX12_askedIn mlX12_336 rfl rfl (RmOK.of rfl) H ?_
                        rintro _ _ ⟨x137, f135, g136, rfl, rfl, H⟩
                        show WP _ _ _ _ _ _ _ 483 [some (.ref B), none, none, some (.int (nI 6))] [.int x137] (sh, f135, g136, fR)
                        refine S_iload_n (pc := 483) dX12_operand_483 rfl rfl ?_
                        refine S_callS (As := [.int x137, .int (nI 6)]) (mc := 0) (ms := 0) (pc := 484) dX12_operand_484 miX12_has2 mvX12_has2 mlX12_339 rfl rfl (RmOK.of rfl) H ?_
                        rintro _ _ ⟨x140, f138, g139, rfl, rfl, H⟩
                        show WP _ _ _ _ _ _ _ 487 [some (.ref B), none, none, some (.int (nI 6))] [.int x140] (sh, f138, g139, fR)
                        refine S_if_ne (pc := 487) (tgt := 492) dX12_operand_487 rfl (fun hc141 => ?_) (fun hc141 => ?_)
                        · replace H := H.1 hc141
                          exact H
                        · replace H := H.2 hc141
                          refine S_iconst (pc := 490) dX12_operand_490 icm1 ?_
                          refine S_istore_n (pc := 491) (L' := [some (.ref B), none, none, some (.int (-1))]) dX12_operand_491 rfl (by decide) rfl ?_
                          exact H
                    · replace H := H.2 hc80
                      refine S_iconst (pc := 391) dX12_operand_391 ic5 ?_
                      refine S_goto (pc := 392) (tgt := 471) dX12_operand_392 rfl ?_
                      refine S_istore_n (pc := 471) (L' := [some (.ref B), none, none, some (.int (nI 5))]) dX12_operand_471 rfl (by decide) rfl ?_
                      refine S_iload_n (pc := 472) dX12_operand_472 rfl rfl ?_
                      refine S_if_le (pc := 473) (tgt := 492) dX12_operand_473 rfl (fun hc142 => by first | exact absurd hc142 (by decide) | exact absurd (by decide) hc142) (fun _ => ?_)
                      refine S_aload_n (pc := 476) dX12_operand_476 rfl rfl ?_
                      refine S_get (pc := 477) (v := .int (f77 B 30)) dX12_operand_477 flX12_103 (sM_0 hs) rfl ?_
                      refine S_callS (As := [.int (f77 B 30)]) (mc := 0) (ms := 0) (pc := 480) dX12_operand_480 miX12_askedIn mvX12_askedIn mlX12_336 rfl rfl (RmOK.of rfl) H ?_
                      rintro _ _ ⟨x145, f143, g144, rfl, rfl, H⟩
                      show WP _ _ _ _ _ _ _ 483 [some (.ref B), none, none, some (.int (nI 5))] [.int x145] (sh, f143, g144, fR)
                      refine S_iload_n (pc := 483) dX12_operand_483 rfl rfl ?_
                      refine S_callS (As := [.int x145, .int (nI 5)]) (mc := 0) (ms := 0) (pc := 484) dX12_operand_484 miX12_has2 mvX12_has2 mlX12_339 rfl rfl (RmOK.of rfl) H ?_
                      rintro _ _ ⟨x148, f146, g147, rfl, rfl, H⟩
                      show WP _ _ _ _ _ _ _ 487 [some (.ref B), none, none, some (.int (nI 5))] [.int x148] (sh, f146, g147, fR)
                      refine S_if_ne (pc := 487) (tgt := 492) dX12_operand_487 rfl (fun hc149 => ?_) (fun hc149 => ?_)
                      · replace H := H.1 hc149
                        exact H
                      · replace H := H.2 hc149
                        refine S_iconst (pc := 490) dX12_operand_490 icm1 ?_
                        refine S_istore_n (pc := 491) (L' := [some (.ref B), none, none, some (.int (-1))]) dX12_operand_491 rfl (by decide) rfl ?_
                        exact H
                  · replace H := H.2 hc76
                    refine S_iconst (pc := 377) dX12_operand_377 ic4 ?_
                    refine S_goto (pc := 378) (tgt := 471) dX12_operand_378 rfl ?_
                    refine S_istore_n (pc := 471) (L' := [some (.ref B), none, none, some (.int (nI 4))]) dX12_operand_471 rfl (by decide) rfl ?_
                    refine S_iload_n (pc := 472) dX12_operand_472 rfl rfl ?_
                    refine S_if_le (pc := 473) (tgt := 492) dX12_operand_473 rfl (fun hc150 => by first | exact absurd hc150 (by decide) | exact absurd (by decide) hc150) (fun _ => ?_)
                    refine S_aload_n (pc := 476) dX12_operand_476 rfl rfl ?_
                    refine S_get (pc := 477) (v := .int (f73 B 30)) dX12_operand_477 flX12_103 (sM_0 hs) rfl ?_
                    refine S_callS (As := [.int (f73 B 30)]) (mc := 0) (ms := 0) (pc := 480) dX12_operand_480 miX12_askedIn mvX12_askedIn mlX12_336 rfl rfl (RmOK.of rfl) H ?_
                    rintro _ _ ⟨x153, f151, g152, rfl, rfl, H⟩
                    show WP _ _ _ _ _ _ _ 483 [some (.ref B), none, none, some (.int (nI 4))] [.int x153] (sh, f151, g152, fR)
                    refine S_iload_n (pc := 483) dX12_operand_483 rfl rfl ?_
                    refine S_callS (As := [.int x153, .int (nI 4)]) (mc := 0) (ms := 0) (pc := 484) dX12_operand_484 miX12_has2 mvX12_has2 mlX12_339 rfl rfl (RmOK.of rfl) H ?_
                    rintro _ _ ⟨x156, f154, g155, rfl, rfl, H⟩
                    show WP _ _ _ _ _ _ _ 487 [some (.ref B), none, none, some (.int (nI 4))] [.int x156] (sh, f154, g155, fR)
                    refine S_if_ne (pc := 487) (tgt := 492) dX12_operand_487 rfl (fun hc157 => ?_) (fun hc157 => ?_)
                    · replace H := H.1 hc157
                      exact H
                    · replace H := H.2 hc157
                      refine S_iconst (pc := 490) dX12_operand_490 icm1 ?_
                      refine S_istore_n (pc := 491) (L' := [some (.ref B), none, none, some (.int (-1))]) dX12_operand_491 rfl (by decide) rfl ?_
                      exact H
                · replace H := H.2 hc72
                  refine S_iconst (pc := 363) dX12_operand_363 ic3 ?_
                  refine S_goto (pc := 364) (tgt := 471) dX12_operand_364 rfl ?_
                  refine S_istore_n (pc := 471) (L' := [some (.ref B), none, none, some (.int (nI 3))]) dX12_operand_471 rfl (by decide) rfl ?_
                  refine S_iload_n (pc := 472) dX12_operand_472 rfl rfl ?_
                  refine S_if_le (pc := 473) (tgt := 492) dX12_operand_473 rfl (fun hc158 => by first | exact absurd hc158 (by decide) | exact absurd (by decide) hc158) (fun _ => ?_)
                  refine S_aload_n (pc := 476) dX12_operand_476 rfl rfl ?_
                  refine S_get (pc := 477) (v := .int (f69 B 30)) dX12_operand_477 flX12_103 (sM_0 hs) rfl ?_
                  refine S_callS (As := [.int (f69 B 30)]) (mc := 0) (ms := 0) (pc := 480) dX12_operand_480 miX12_askedIn mvX12_askedIn mlX12_336 rfl rfl (RmOK.of rfl) H ?_
                  rintro _ _ ⟨x161, f159, g160, rfl, rfl, H⟩
                  show WP _ _ _ _ _ _ _ 483 [some (.ref B), none, none, some (.int (nI 3))] [.int x161] (sh, f159, g160, fR)
                  refine S_iload_n (pc := 483) dX12_operand_483 rfl rfl ?_
                  refine S_callS (As := [.int x161, .int (nI 3)]) (mc := 0) (ms := 0) (pc := 484) dX12_operand_484 miX12_has2 mvX12_has2 mlX12_339 rfl rfl (RmOK.of rfl) H ?_
                  rintro _ _ ⟨x164, f162, g163, rfl, rfl, H⟩
                  show WP _ _ _ _ _ _ _ 487 [some (.ref B), none, none, some (.int (nI 3))] [.int x164] (sh, f162, g163, fR)
                  refine S_if_ne (pc := 487) (tgt := 492) dX12_operand_487 rfl (fun hc165 => ?_) (fun hc165 => ?_)
                  · replace H := H.1 hc165
                    exact H
                  · replace H := H.2 hc165
                    refine S_iconst (pc := 490) dX12_operand_490 icm1 ?_
                    refine S_istore_n (pc := 491) (L' := [some (.ref B), none, none, some (.int (-1))]) dX12_operand_491 rfl (by decide) rfl ?_
                    exact H
              · replace H := H.2 hc68
                refine S_iconst (pc := 349) dX12_operand_349 ic2 ?_
                refine S_goto (pc := 350) (tgt := 471) dX12_operand_350 rfl ?_
                refine S_istore_n (pc := 471) (L' := [some (.ref B), none, none, some (.int (nI 2))]) dX12_operand_471 rfl (by decide) rfl ?_
                refine S_iload_n (pc := 472) dX12_operand_472 rfl rfl ?_
                refine S_if_le (pc := 473) (tgt := 492) dX12_operand_473 rfl (fun hc166 => by first | exact absurd hc166 (by decide) | exact absurd (by decide) hc166) (fun _ => ?_)
                refine S_aload_n (pc := 476) dX12_operand_476 rfl rfl ?_
                refine S_get (pc := 477) (v := .int (f65 B 30)) dX12_operand_477 flX12_103 (sM_0 hs) rfl ?_
                refine S_callS (As := [.int (f65 B 30)]) (mc := 0) (ms := 0) (pc := 480) dX12_operand_480 miX12_askedIn mvX12_askedIn mlX12_336 rfl rfl (RmOK.of rfl) H ?_
                rintro _ _ ⟨x169, f167, g168, rfl, rfl, H⟩
                show WP _ _ _ _ _ _ _ 483 [some (.ref B), none, none, some (.int (nI 2))] [.int x169] (sh, f167, g168, fR)
                refine S_iload_n (pc := 483) dX12_operand_483 rfl rfl ?_
                refine S_callS (As := [.int x169, .int (nI 2)]) (mc := 0) (ms := 0) (pc := 484) dX12_operand_484 miX12_has2 mvX12_has2 mlX12_339 rfl rfl (RmOK.of rfl) H ?_
                rintro _ _ ⟨x172, f170, g171, rfl, rfl, H⟩
                show WP _ _ _ _ _ _ _ 487 [some (.ref B), none, none, some (.int (nI 2))] [.int x172] (sh, f170, g171, fR)
                refine S_if_ne (pc := 487) (tgt := 492) dX12_operand_487 rfl (fun hc173 => ?_) (fun hc173 => ?_)
                · replace H := H.1 hc173
                  exact H
                · replace H := H.2 hc173
                  refine S_iconst (pc := 490) dX12_operand_490 icm1 ?_
                  refine S_istore_n (pc := 491) (L' := [some (.ref B), none, none, some (.int (-1))]) dX12_operand_491 rfl (by decide) rfl ?_
                  exact H
            · replace H := H.2 hc64
              refine S_iconst (pc := 335) dX12_operand_335 ic1 ?_
              refine S_goto (pc := 336) (tgt := 471) dX12_operand_336 rfl ?_
              refine S_istore_n (pc := 471) (L' := [some (.ref B), none, none, some (.int (nI 1))]) dX12_operand_471 rfl (by decide) rfl ?_
              refine S_iload_n (pc := 472) dX12_operand_472 rfl rfl ?_
              refine S_if_le (pc := 473) (tgt := 492) dX12_operand_473 rfl (fun hc174 => by first | exact absurd hc174 (by decide) | exact absurd (by decide) hc174) (fun _ => ?_)
              refine S_aload_n (pc := 476) dX12_operand_476 rfl rfl ?_
              refine S_get (pc := 477) (v := .int (f61 B 30)) dX12_operand_477 flX12_103 (sM_0 hs) rfl ?_
              refine S_callS (As := [.int (f61 B 30)]) (mc := 0) (ms := 0) (pc := 480) dX12_operand_480 miX12_askedIn mvX12_askedIn mlX12_336 rfl rfl (RmOK.of rfl) H ?_
              rintro _ _ ⟨x177, f175, g176, rfl, rfl, H⟩
              show WP _ _ _ _ _ _ _ 483 [some (.ref B), none, none, some (.int (nI 1))] [.int x177] (sh, f175, g176, fR)
              refine S_iload_n (pc := 483) dX12_operand_483 rfl rfl ?_
              refine S_callS (As := [.int x177, .int (nI 1)]) (mc := 0) (ms := 0) (pc := 484) dX12_operand_484 miX12_has2 mvX12_has2 mlX12_339 rfl rfl (RmOK.of rfl) H ?_
              rintro _ _ ⟨x180, f178, g179, rfl, rfl, H⟩
              show WP _ _ _ _ _ _ _ 487 [some (.ref B), none, none, some (.int (nI 1))] [.int x180] (sh, f178, g179, fR)
              refine S_if_ne (pc := 487) (tgt := 492) dX12_operand_487 rfl (fun hc181 => ?_) (fun hc181 => ?_)
              · replace H := H.1 hc181
                exact H
              · replace H := H.2 hc181
                refine S_iconst (pc := 490) dX12_operand_490 icm1 ?_
                refine S_istore_n (pc := 491) (L' := [some (.ref B), none, none, some (.int (-1))]) dX12_operand_491 rfl (by decide) rfl ?_
                exact H
          · replace H := H.2 hc60
            refine S_iconst (pc := 321) dX12_operand_321 ic0 ?_
            refine S_goto (pc := 322) (tgt := 471) dX12_operand_322 rfl ?_
            refine S_istore_n (pc := 471) (L' := [some (.ref B), none, none, some (.int (nI 0))]) dX12_operand_471 rfl (by decide) rfl ?_
            refine S_iload_n (pc := 472) dX12_operand_472 rfl rfl ?_
            refine S_if_le (pc := 473) (tgt := 492) dX12_operand_473 rfl (fun _ => ?_) (fun hc182 => by first | exact absurd (by decide) hc182 | exact absurd hc182 (by decide))
            exact H
        · replace H := H.2 hc59
          exact H
  · replace H := H.2 hc47
    refine S_aload_n (pc := 180) dX12_operand_180 rfl rfl ?_
    refine S_iconst (pc := 181) dX12_operand_181 ic2 ?_
    refine S_callV (As := [.int (nI 2)]) (mc := 0) (ms := 0) (pc := 182) dX12_operand_182 miX12_opens mvX12_opens mlX12_333 rfl (sM_0 hs) rfl rfl rfl (RmOK.of rfl) H ?_
    rintro _ _ ⟨f183, g184, rfl, rfl, H⟩
    show WP _ _ _ _ _ _ _ 185 [some (.ref B), none, none, none] [] (sh, f183, g184, fR)
    refine S_iconst (pc := 185) dX12_operand_185 ic0 ?_
    exact S_zreturn dX12_operand_186 rfl (Or.inl rfl) H
set_option maxHeartbeats 2000000 in
set_option maxRecDepth 4000 in
theorem VX12_operand_217 {l : Launch} {G : Gx} {d : Nat} {Q : Option Value → Hp → Prop} {sh : Sh} {fR : FRt} {B : Nat} {f : FI} {g : FL}  (hs : StM sh fR B)
    (H : Cl l G (d + 2) 0 0 mX12_isWord [.ref B, .long (lN 7170414)] (sh, f, g, fR) (qi sh fR fun x187 f185 g186 => ((x187 = 0 → Cl l G (d + 2) 0 0 mX12_isWord [.ref B, .long (lN 7168376)] (sh, f185, g186, fR) (qi sh fR fun x191 f189 g190 => ((x191 = 0 → Cl l G (d + 2) 0 0 mX12_ahead [.ref B] (sh, f189, g190, fR) (qv sh fR fun f193 g194 => Cl l G (d + 2) 0 0 mX12_lex [.ref B] (sh, f193, g194, fR) (qv sh fR fun f195 g196 => Cl l G (d + 2) 0 0 mX12_isSign [.ref B, .int (nI 40)] (sh, f195, g196, fR) (qi sh fR fun x199 f197 g198 => ((¬ x199 = 0 → LpX12_operand_276 l G d Q sh fR B f197 g198 (nI 44)) ∧ (x199 = 0 → Cl l G (d + 2) 0 0 mX12_blame [.ref B, .int (nI 1), .int (f197 B 4)] (sh, f197, g198, fR) (qv sh fR fun f201 g202 => LpX12_operand_276 l G d Q sh fR B f201 g202 (nI 44)))))))) ∧ (¬ x191 = 0 → Cl l G (d + 2) 0 0 mX12_ahead [.ref B] (sh, f189, g190, fR) (qv sh fR fun f203 g204 => Cl l G (d + 2) 0 0 mX12_lex [.ref B] (sh, f203, g204, fR) (qv sh fR fun f205 g206 => Cl l G (d + 2) 0 0 mX12_isSign [.ref B, .int (nI 40)] (sh, f205, g206, fR) (qi sh fR fun x209 f207 g208 => ((¬ x209 = 0 → LpX12_operand_276 l G d Q sh fR B f207 g208 (nI 37)) ∧ (x209 = 0 → Cl l G (d + 2) 0 0 mX12_blame [.ref B, .int (nI 1), .int (f207 B 4)] (sh, f207, g208, fR) (qv sh fR fun f211 g212 => LpX12_operand_276 l G d Q sh fR B f211 g212 (nI 37))))))))))) ∧ (¬ x187 = 0 → Cl l G (d + 2) 0 0 mX12_ahead [.ref B] (sh, f185, g186, fR) (qv sh fR fun f213 g214 => Cl l G (d + 2) 0 0 mX12_lex [.ref B] (sh, f213, g214, fR) (qv sh fR fun f215 g216 => Cl l G (d + 2) 0 0 mX12_isSign [.ref B, .int (nI 40)] (sh, f215, g216, fR) (qi sh fR fun x219 f217 g218 => ((¬ x219 = 0 → LpX12_operand_276 l G d Q sh fR B f217 g218 (nI 36)) ∧ (x219 = 0 → Cl l G (d + 2) 0 0 mX12_blame [.ref B, .int (nI 1), .int (f217 B 4)] (sh, f217, g218, fR) (qv sh fR fun f221 g222 => LpX12_operand_276 l G d Q sh fR B f221 g222 (nI 36))))))))))) :
    LpX12_operand_217 l G d Q sh fR B f g  := by
  refine S_aload_n (pc := 217) dX12_operand_217 rfl rfl ?_
  refine S_ldc2 (pc := 218) (v := lN 7170414) dX12_operand_218 (gw 1498 rfl rfl) ?_
  refine S_callV (As := [.long (lN 7170414)]) (mc := 0) (ms := 0) (pc := 221) dX12_operand_221 miX12_isWord mvX12_isWord mlX12_326 rfl (sM_0 hs) rfl rfl rfl (RmOK.of rfl) H ?_
  rintro _ _ ⟨x187, f185, g186, rfl, rfl, H⟩
  show WP _ _ _ _ _ _ _ 224 [some (.ref B), none, none, none] [.int x187] (sh, f185, g186, fR)
  refine S_if_eq (pc := 224) (tgt := 232) dX12_operand_224 rfl (fun hc188 => ?_) (fun hc188 => ?_)
  · replace H := H.1 hc188
    refine S_aload_n (pc := 232) dX12_operand_232 rfl rfl ?_
    refine S_ldc2 (pc := 233) (v := lN 7168376) dX12_operand_233 (gw 1499 rfl rfl) ?_
    refine S_callV (As := [.long (lN 7168376)]) (mc := 0) (ms := 0) (pc := 236) dX12_operand_236 miX12_isWord mvX12_isWord mlX12_326 rfl (sM_0 hs) rfl rfl rfl (RmOK.of rfl) H ?_
    rintro _ _ ⟨x191, f189, g190, rfl, rfl, H⟩
    show WP _ _ _ _ _ _ _ 239 [some (.ref B), none, none, none] [.int x191] (sh, f189, g190, fR)
    refine S_if_eq (pc := 239) (tgt := 247) dX12_operand_239 rfl (fun hc192 => ?_) (fun hc192 => ?_)
    · replace H := H.1 hc192
      refine S_bipush (pc := 247) dX12_operand_247 bp44 ?_
      refine S_istore_n (pc := 249) (L' := [some (.ref B), none, none, some (.int (nI 44))]) dX12_operand_249 rfl (by decide) rfl ?_
      refine S_aload_n (pc := 250) dX12_operand_250 rfl rfl ?_
      refine S_callV (As := []) (mc := 0) (ms := 0) (pc := 251) dX12_operand_251 miX12_ahead mvX12_ahead mlX12_249 rfl (sM_0 hs) rfl rfl rfl (RmOK.of rfl) H ?_
      rintro _ _ ⟨f193, g194, rfl, rfl, H⟩
      show WP _ _ _ _ _ _ _ 254 [some (.ref B), none, none, some (.int (nI 44))] [] (sh, f193, g194, fR)
      refine S_aload_n (pc := 254) dX12_operand_254 rfl rfl ?_
      refine S_callV (As := []) (mc := 0) (ms := 0) (pc := 255) dX12_operand_255 miX12_lex mvX12_lex mlX12_243 rfl (sM_0 hs) rfl rfl rfl (RmOK.of rfl) H ?_
      rintro _ _ ⟨f195, g196, rfl, rfl, H⟩
      show WP _ _ _ _ _ _ _ 258 [some (.ref B), none, none, some (.int (nI 44))] [] (sh, f195, g196, fR)
      refine S_aload_n (pc := 258) dX12_operand_258 rfl rfl ?_
      refine S_bipush (pc := 259) dX12_operand_259 bp40 ?_
      refine S_callV (As := [.int (nI 40)]) (mc := 0) (ms := 0) (pc := 261) dX12_operand_261 miX12_isSign mvX12_isSign mlX12_246 rfl (sM_0 hs) rfl rfl rfl (RmOK.of rfl) H ?_
      rintro _ _ ⟨x199, f197, g198, rfl, rfl, H⟩
      show WP _ _ _ _ _ _ _ 264 [some (.ref B), none, none, some (.int (nI 44))] [.int x199] (sh, f197, g198, fR)
      refine S_if_ne (pc := 264) (tgt := 276) dX12_operand_264 rfl (fun hc200 => ?_) (fun hc200 => ?_)
      · replace H := H.1 hc200
        exact H
      · replace H := H.2 hc200
        refine S_aload_n (pc := 267) dX12_operand_267 rfl rfl ?_
        refine S_iconst (pc := 268) dX12_operand_268 ic1 ?_
        refine S_aload_n (pc := 269) dX12_operand_269 rfl rfl ?_
        refine S_get (pc := 270) (v := .int (f197 B 4)) dX12_operand_270 flX12_23 (sM_0 hs) rfl ?_
        refine S_callV (As := [.int (nI 1), .int (f197 B 4)]) (mc := 0) (ms := 0) (pc := 273) dX12_operand_273 miX12_blame mvX12_blame mlX12_232 rfl (sM_0 hs) rfl rfl rfl (RmOK.of rfl) H ?_
        rintro _ _ ⟨f201, g202, rfl, rfl, H⟩
        show WP _ _ _ _ _ _ _ 276 [some (.ref B), none, none, some (.int (nI 44))] [] (sh, f201, g202, fR)
        exact H
    · replace H := H.2 hc192
      refine S_bipush (pc := 242) dX12_operand_242 bp37 ?_
      refine S_goto (pc := 244) (tgt := 249) dX12_operand_244 rfl ?_
      refine S_istore_n (pc := 249) (L' := [some (.ref B), none, none, some (.int (nI 37))]) dX12_operand_249 rfl (by decide) rfl ?_
      refine S_aload_n (pc := 250) dX12_operand_250 rfl rfl ?_
      refine S_callV (As := []) (mc := 0) (ms := 0) (pc := 251) dX12_operand_251 miX12_ahead mvX12_ahead mlX12_249 rfl (sM_0 hs) rfl rfl rfl (RmOK.of rfl) H ?_
      rintro _ _ ⟨f203, g204, rfl, rfl, H⟩
      show WP _ _ _ _ _ _ _ 254 [some (.ref B), none, none, some (.int (nI 37))] [] (sh, f203, g204, fR)
      refine S_aload_n (pc := 254) dX12_operand_254 rfl rfl ?_
      refine S_callV (As := []) (mc := 0) (ms := 0) (pc := 255) dX12_operand_255 miX12_lex mvX12_lex mlX12_243 rfl (sM_0 hs) rfl rfl rfl (RmOK.of rfl) H ?_
      rintro _ _ ⟨f205, g206, rfl, rfl, H⟩
      show WP _ _ _ _ _ _ _ 258 [some (.ref B), none, none, some (.int (nI 37))] [] (sh, f205, g206, fR)
      refine S_aload_n (pc := 258) dX12_operand_258 rfl rfl ?_
      refine S_bipush (pc := 259) dX12_operand_259 bp40 ?_
      refine S_callV (As := [.int (nI 40)]) (mc := 0) (ms := 0) (pc := 261) dX12_operand_261 miX12_isSign mvX12_isSign mlX12_246 rfl (sM_0 hs) rfl rfl rfl (RmOK.of rfl) H ?_
      rintro _ _ ⟨x209, f207, g208, rfl, rfl, H⟩
      show WP _ _ _ _ _ _ _ 264 [some (.ref B), none, none, some (.int (nI 37))] [.int x209] (sh, f207, g208, fR)
      refine S_if_ne (pc := 264) (tgt := 276) dX12_operand_264 rfl (fun hc210 => ?_) (fun hc210 => ?_)
      · replace H := H.1 hc210
        exact H
      · replace H := H.2 hc210
        refine S_aload_n (pc := 267) dX12_operand_267 rfl rfl ?_
        refine S_iconst (pc := 268) dX12_operand_268 ic1 ?_
        refine S_aload_n (pc := 269) dX12_operand_269 rfl rfl ?_
        refine S_get (pc := 270) (v := .int (f207 B 4)) dX12_operand_270 flX12_23 (sM_0 hs) rfl ?_
        refine S_callV (As := [.int (nI 1), .int (f207 B 4)]) (mc := 0) (ms := 0) (pc := 273) dX12_operand_273 miX12_blame mvX12_blame mlX12_232 rfl (sM_0 hs) rfl rfl rfl (RmOK.of rfl) H ?_
        rintro _ _ ⟨f211, g212, rfl, rfl, H⟩
        show WP _ _ _ _ _ _ _ 276 [some (.ref B), none, none, some (.int (nI 37))] [] (sh, f211, g212, fR)
        exact H
  · replace H := H.2 hc188
    refine S_bipush (pc := 227) dX12_operand_227 bp36 ?_
    refine S_goto (pc := 229) (tgt := 249) dX12_operand_229 rfl ?_
    refine S_istore_n (pc := 249) (L' := [some (.ref B), none, none, some (.int (nI 36))]) dX12_operand_249 rfl (by decide) rfl ?_
    refine S_aload_n (pc := 250) dX12_operand_250 rfl rfl ?_
    refine S_callV (As := []) (mc := 0) (ms := 0) (pc := 251) dX12_operand_251 miX12_ahead mvX12_ahead mlX12_249 rfl (sM_0 hs) rfl rfl rfl (RmOK.of rfl) H ?_
    rintro _ _ ⟨f213, g214, rfl, rfl, H⟩
    show WP _ _ _ _ _ _ _ 254 [some (.ref B), none, none, some (.int (nI 36))] [] (sh, f213, g214, fR)
    refine S_aload_n (pc := 254) dX12_operand_254 rfl rfl ?_
    refine S_callV (As := []) (mc := 0) (ms := 0) (pc := 255) dX12_operand_255 miX12_lex mvX12_lex mlX12_243 rfl (sM_0 hs) rfl rfl rfl (RmOK.of rfl) H ?_
    rintro _ _ ⟨f215, g216, rfl, rfl, H⟩
    show WP _ _ _ _ _ _ _ 258 [some (.ref B), none, none, some (.int (nI 36))] [] (sh, f215, g216, fR)
    refine S_aload_n (pc := 258) dX12_operand_258 rfl rfl ?_
    refine S_bipush (pc := 259) dX12_operand_259 bp40 ?_
    refine S_callV (As := [.int (nI 40)]) (mc := 0) (ms := 0) (pc := 261) dX12_operand_261 miX12_isSign mvX12_isSign mlX12_246 rfl (sM_0 hs) rfl rfl rfl (RmOK.of rfl) H ?_
    rintro _ _ ⟨x219, f217, g218, rfl, rfl, H⟩
    show WP _ _ _ _ _ _ _ 264 [some (.ref B), none, none, some (.int (nI 36))] [.int x219] (sh, f217, g218, fR)
    refine S_if_ne (pc := 264) (tgt := 276) dX12_operand_264 rfl (fun hc220 => ?_) (fun hc220 => ?_)
    · replace H := H.1 hc220
      exact H
    · replace H := H.2 hc220
      refine S_aload_n (pc := 267) dX12_operand_267 rfl rfl ?_
      refine S_iconst (pc := 268) dX12_operand_268 ic1 ?_
      refine S_aload_n (pc := 269) dX12_operand_269 rfl rfl ?_
      refine S_get (pc := 270) (v := .int (f217 B 4)) dX12_operand_270 flX12_23 (sM_0 hs) rfl ?_
      refine S_callV (As := [.int (nI 1), .int (f217 B 4)]) (mc := 0) (ms := 0) (pc := 273) dX12_operand_273 miX12_blame mvX12_blame mlX12_232 rfl (sM_0 hs) rfl rfl rfl (RmOK.of rfl) H ?_
      rintro _ _ ⟨f221, g222, rfl, rfl, H⟩
      show WP _ _ _ _ _ _ _ 276 [some (.ref B), none, none, some (.int (nI 36))] [] (sh, f221, g222, fR)
      exact H
set_option maxHeartbeats 2000000 in
set_option maxRecDepth 4000 in
theorem VX12_operand_492 {l : Launch} {G : Gx} {d : Nat} {Q : Option Value → Hp → Prop} {sh : Sh} {fR : FRt} {B : Nat} {f : FI} {g : FL} {a3 : Int32} (hs : StM sh fR B)
    (H : ((¬ a3 = (-1) → LpX12_operand_506 l G d Q sh fR B f g a3) ∧ (a3 = (-1) → Cl l G (d + 2) 0 0 mX12_blame [.ref B, .int (nI 1), .int (f B 4)] (sh, f, g, fR) (qv sh fR fun f224 g225 => LpX12_operand_506 l G d Q sh fR B f224 g225 a3)))) :
    LpX12_operand_492 l G d Q sh fR B f g a3 := by
  refine S_iload_n (pc := 492) dX12_operand_492 rfl rfl ?_
  refine S_iconst (pc := 493) dX12_operand_493 icm1 ?_
  refine S_icmp_ne (pc := 494) (tgt := 506) dX12_operand_494 rfl (fun hc223 => ?_) (fun hc223 => ?_)
  · replace H := H.1 hc223
    exact H
  · replace H := H.2 hc223
    refine S_aload_n (pc := 497) dX12_operand_497 rfl rfl ?_
    refine S_iconst (pc := 498) dX12_operand_498 ic1 ?_
    refine S_aload_n (pc := 499) dX12_operand_499 rfl rfl ?_
    refine S_get (pc := 500) (v := .int (f B 4)) dX12_operand_500 flX12_23 (sM_0 hs) rfl ?_
    refine S_callV (As := [.int (nI 1), .int (f B 4)]) (mc := 0) (ms := 0) (pc := 503) dX12_operand_503 miX12_blame mvX12_blame mlX12_232 rfl (sM_0 hs) rfl rfl rfl (RmOK.of rfl) H ?_
    rintro _ _ ⟨f224, g225, rfl, rfl, H⟩
    show WP _ _ _ _ _ _ _ 506 [some (.ref B), none, none, some (.int a3)] [] (sh, f224, g225, fR)
    exact H
set_option maxHeartbeats 2000000 in
set_option maxRecDepth 4000 in
theorem VX12_operand_276 {l : Launch} {G : Gx} {d : Nat} {Q : Option Value → Hp → Prop} {sh : Sh} {fR : FRt} {B : Nat} {f : FI} {g : FL} {a3 : Int32} (hs : StM sh fR B)
    (H : ((¬ a3 = (nI 44) → Cl l G (d + 2) 0 0 mX12_opens [.ref B, .int (nI 3)] (sh, f, g, fR) (qv sh fR fun f227 g228 => ((¬ (f227 B 8) = 0 → Q (some (.int (nI 0))) (sh, f227, g228, fR)) ∧ ((f227 B 8) = 0 → inb ((f227 B 36) - (nI 1)) 20 ∧ Q (some (.int (nI 0))) (sh, (up2 f227 (B + 19) ((f227 B 36) - (nI 1)).toNatClampNeg a3), g228, fR))))) ∧ (a3 = (nI 44) → Cl l G (d + 2) 0 0 mX12_opens [.ref B, .int (nI 6)] (sh, f, g, fR) (qv sh fR fun f231 g232 => ((¬ (f231 B 8) = 0 → Q (some (.int (nI 0))) (sh, f231, g232, fR)) ∧ ((f231 B 8) = 0 → inb ((f231 B 36) - (nI 1)) 20 ∧ Q (some (.int (nI 0))) (sh, (up2 f231 (B + 19) ((f231 B 36) - (nI 1)).toNatClampNeg a3), g232, fR))))))) :
    LpX12_operand_276 l G d Q sh fR B f g a3 := by
  refine S_aload_n (pc := 276) dX12_operand_276 rfl rfl ?_
  refine S_iload_n (pc := 277) dX12_operand_277 rfl rfl ?_
  refine S_bipush (pc := 278) dX12_operand_278 bp44 ?_
  refine S_icmp_ne (pc := 280) (tgt := 288) dX12_operand_280 rfl (fun hc226 => ?_) (fun hc226 => ?_)
  · replace H := H.1 hc226
    refine S_iconst (pc := 288) dX12_operand_288 ic3 ?_
    refine S_callV (As := [.int (nI 3)]) (mc := 0) (ms := 0) (pc := 289) dX12_operand_289 miX12_opens mvX12_opens mlX12_333 rfl (sM_0 hs) rfl rfl rfl (RmOK.of rfl) H ?_
    rintro _ _ ⟨f227, g228, rfl, rfl, H⟩
    show WP _ _ _ _ _ _ _ 292 [some (.ref B), none, none, some (.int a3)] [] (sh, f227, g228, fR)
    refine S_aload_n (pc := 292) dX12_operand_292 rfl rfl ?_
    refine S_get (pc := 293) (v := .int (f227 B 8)) dX12_operand_293 flX12_36 (sM_0 hs) rfl ?_
    refine S_if_ne (pc := 296) (tgt := 311) dX12_operand_296 rfl (fun hc229 => ?_) (fun hc229 => ?_)
    · replace H := H.1 hc229
      refine S_iconst (pc := 311) dX12_operand_311 ic0 ?_
      exact S_zreturn dX12_operand_312 rfl (Or.inl rfl) H
    · replace H := H.2 hc229
      refine S_aload_n (pc := 299) dX12_operand_299 rfl rfl ?_
      refine S_getR (pc := 300) dX12_operand_300 flX12_116 (sM_0 hs) rfl (rM_34 hs) ?_
      refine S_aload_n (pc := 303) dX12_operand_303 rfl rfl ?_
      refine S_get (pc := 304) (v := .int (f227 B 36)) dX12_operand_304 flX12_122 (sM_0 hs) rfl ?_
      refine S_iconst (pc := 307) dX12_operand_307 ic1 ?_
      refine S_isub (pc := 308) dX12_operand_308 ?_
      refine S_iload_n (pc := 309) dX12_operand_309 rfl rfl ?_
      obtain ⟨hb230, H⟩ := H
      refine S_iast (pc := 310) dX12_operand_310 (sM_19 hs) (Nat.succ_pos _) hb230 ?_
      refine S_iconst (pc := 311) dX12_operand_311 ic0 ?_
      exact S_zreturn dX12_operand_312 rfl (Or.inl rfl) H
  · replace H := H.2 hc226
    refine S_bipush (pc := 283) dX12_operand_283 bp6 ?_
    refine S_goto (pc := 285) (tgt := 289) dX12_operand_285 rfl ?_
    refine S_callV (As := [.int (nI 6)]) (mc := 0) (ms := 0) (pc := 289) dX12_operand_289 miX12_opens mvX12_opens mlX12_333 rfl (sM_0 hs) rfl rfl rfl (RmOK.of rfl) H ?_
    rintro _ _ ⟨f231, g232, rfl, rfl, H⟩
    show WP _ _ _ _ _ _ _ 292 [some (.ref B), none, none, some (.int a3)] [] (sh, f231, g232, fR)
    refine S_aload_n (pc := 292) dX12_operand_292 rfl rfl ?_
    refine S_get (pc := 293) (v := .int (f231 B 8)) dX12_operand_293 flX12_36 (sM_0 hs) rfl ?_
    refine S_if_ne (pc := 296) (tgt := 311) dX12_operand_296 rfl (fun hc233 => ?_) (fun hc233 => ?_)
    · replace H := H.1 hc233
      refine S_iconst (pc := 311) dX12_operand_311 ic0 ?_
      exact S_zreturn dX12_operand_312 rfl (Or.inl rfl) H
    · replace H := H.2 hc233
      refine S_aload_n (pc := 299) dX12_operand_299 rfl rfl ?_
      refine S_getR (pc := 300) dX12_operand_300 flX12_116 (sM_0 hs) rfl (rM_34 hs) ?_
      refine S_aload_n (pc := 303) dX12_operand_303 rfl rfl ?_
      refine S_get (pc := 304) (v := .int (f231 B 36)) dX12_operand_304 flX12_122 (sM_0 hs) rfl ?_
      refine S_iconst (pc := 307) dX12_operand_307 ic1 ?_
      refine S_isub (pc := 308) dX12_operand_308 ?_
      refine S_iload_n (pc := 309) dX12_operand_309 rfl rfl ?_
      obtain ⟨hb234, H⟩ := H
      refine S_iast (pc := 310) dX12_operand_310 (sM_19 hs) (Nat.succ_pos _) hb234 ?_
      refine S_iconst (pc := 311) dX12_operand_311 ic0 ?_
      exact S_zreturn dX12_operand_312 rfl (Or.inl rfl) H
set_option maxHeartbeats 2000000 in
set_option maxRecDepth 4000 in
theorem VX12_operand_506 {l : Launch} {G : Gx} {d : Nat} {Q : Option Value → Hp → Prop} {sh : Sh} {fR : FRt} {B : Nat} {f : FI} {g : FL} {a3 : Int32} (hs : StM sh fR B)
    (H : (((f B 8) ≤ 0 → inb (((nI 1600) * (f B 29)) + (f B 28)) 3200 ∧ inb (((nI 1600) * (f B 29)) + (f B 28)) 3200 ∧ Cl l G (d + 2) 0 0 mX12_ahead [.ref B] (sh, (up2 (up2 (up2 f (B + 13) (((nI 1600) * (f B 29)) + (f B 28)).toNatClampNeg a3) (B + 14) (((nI 1600) * (f B 29)) + (f B 28)).toNatClampNeg (f B 6)) B 28 ((f B 28) + (nI 1))), g, fR) (qv sh fR fun f238 g239 => Q (some (.int (nI 1))) (sh, f238, g239, fR))) ∧ (¬ (f B 8) ≤ 0 → Q (some (.int (nI 1))) (sh, f, g, fR)))) :
    LpX12_operand_506 l G d Q sh fR B f g a3 := by
  refine S_aload_n (pc := 506) dX12_operand_506 rfl rfl ?_
  refine S_get (pc := 507) (v := .int (f B 8)) dX12_operand_507 flX12_36 (sM_0 hs) rfl ?_
  refine S_if_le (pc := 510) (tgt := 515) dX12_operand_510 rfl (fun hc235 => ?_) (fun hc235 => ?_)
  · replace H := H.1 hc235
    refine S_aload_n (pc := 515) dX12_operand_515 rfl rfl ?_
    refine S_iload_n (pc := 516) dX12_operand_516 rfl rfl ?_
    refine S_aload_n (pc := 517) dX12_operand_517 rfl rfl ?_
    refine S_get (pc := 518) (v := .int (f B 6)) dX12_operand_518 flX12_29 (sM_0 hs) rfl ?_
    refine S_callV (As := [.int a3, .int (f B 6)]) (mc := 0) (ms := 0) (pc := 521) dX12_operand_521 miX12_add mvX12_add mlX12_317 rfl (sM_0 hs) rfl rfl rfl (RmOK.of rfl) (Q := fun r h => WP _ _ _ _ _ _ _ 524 [some (.ref B), none, none, some (.int a3)] (r.toList ++ []) h) (Cl.of miX12_add rfl rfl ?_) (fun _ _ q => q)
    refine S_aload_n (pc := 0) dX12_add_0 rfl rfl ?_
    refine S_getR (pc := 1) dX12_add_1 flX12_87 (sM_0 hs) rfl (rM_25 hs) ?_
    refine S_sipush (pc := 4) dX12_add_4 sp1600 ?_
    refine S_aload_n (pc := 7) dX12_add_7 rfl rfl ?_
    refine S_get (pc := 8) (v := .int (f B 29)) dX12_add_8 flX12_100 (sM_0 hs) rfl ?_
    refine S_imul (pc := 11) dX12_add_11 ?_
    refine S_aload_n (pc := 12) dX12_add_12 rfl rfl ?_
    refine S_get (pc := 13) (v := .int (f B 28)) dX12_add_13 flX12_97 (sM_0 hs) rfl ?_
    refine S_iadd (pc := 16) dX12_add_16 ?_
    refine S_iload_n (pc := 17) dX12_add_17 rfl rfl ?_
    obtain ⟨hb236, H⟩ := H
    refine S_iast (pc := 18) dX12_add_18 (sM_13 hs) (Nat.succ_pos _) hb236 ?_
    refine S_aload_n (pc := 19) dX12_add_19 rfl rfl ?_
    refine S_getR (pc := 20) dX12_add_20 flX12_90 (sM_0 hs) rfl (rM_26 hs) ?_
    refine S_sipush (pc := 23) dX12_add_23 sp1600 ?_
    refine S_aload_n (pc := 26) dX12_add_26 rfl rfl ?_
    refine S_get (pc := 27) (v := .int ((up2 f (B + 13) (((nI 1600) * (f B 29)) + (f B 28)).toNatClampNeg a3) B 29)) dX12_add_27 flX12_100 (sM_0 hs) rfl ?_
    refine S_eqi (x := f B 29) ((up2_r (by omega)).trans rfl) ?_
    refine S_imul (pc := 30) dX12_add_30 ?_
    refine S_aload_n (pc := 31) dX12_add_31 rfl rfl ?_
    refine S_get (pc := 32) (v := .int ((up2 f (B + 13) (((nI 1600) * (f B 29)) + (f B 28)).toNatClampNeg a3) B 28)) dX12_add_32 flX12_97 (sM_0 hs) rfl ?_
    refine S_eqi (x := f B 28) ((up2_r (by omega)).trans rfl) ?_
    refine S_iadd (pc := 35) dX12_add_35 ?_
    refine S_iload_n (pc := 36) dX12_add_36 rfl rfl ?_
    obtain ⟨hb237, H⟩ := H
    refine S_iast (pc := 37) dX12_add_37 (sM_14 hs) (Nat.succ_pos _) hb237 ?_
    refine S_aload_n (pc := 38) dX12_add_38 rfl rfl ?_
    refine S_dup (pc := 39) dX12_add_39 rfl ?_
    refine S_get (pc := 40) (v := .int ((up2 (up2 f (B + 13) (((nI 1600) * (f B 29)) + (f B 28)).toNatClampNeg a3) (B + 14) (((nI 1600) * (f B 29)) + (f B 28)).toNatClampNeg (f B 6)) B 28)) dX12_add_40 flX12_97 (sM_0 hs) rfl ?_
    refine S_eqi (x := f B 28) ((up2_r (by omega)).trans ((up2_r (by omega)).trans rfl)) ?_
    refine S_iconst (pc := 43) dX12_add_43 ic1 ?_
    refine S_iadd (pc := 44) dX12_add_44 ?_
    refine S_putI (pc := 45) dX12_add_45 flX12_97 (sM_0 hs) hs.2.2 (nf_12_28) rfl rfl (fun _ => rfl) ?_
    refine S_vreturn dX12_add_48 rfl ?_
    show WP _ _ _ _ _ _ _ 524 [some (.ref B), none, none, some (.int a3)] [] (sh, (up2 (up2 (up2 f (B + 13) (((nI 1600) * (f B 29)) + (f B 28)).toNatClampNeg a3) (B + 14) (((nI 1600) * (f B 29)) + (f B 28)).toNatClampNeg (f B 6)) B 28 ((f B 28) + (nI 1))), g, fR)
    refine S_aload_n (pc := 524) dX12_operand_524 rfl rfl ?_
    refine S_callV (As := []) (mc := 0) (ms := 0) (pc := 525) dX12_operand_525 miX12_ahead mvX12_ahead mlX12_249 rfl (sM_0 hs) rfl rfl rfl (RmOK.of rfl) H ?_
    rintro _ _ ⟨f238, g239, rfl, rfl, H⟩
    show WP _ _ _ _ _ _ _ 528 [some (.ref B), none, none, some (.int a3)] [] (sh, f238, g239, fR)
    refine S_iconst (pc := 528) dX12_operand_528 ic1 ?_
    exact S_zreturn dX12_operand_529 rfl (Or.inr rfl) H
  · replace H := H.2 hc235
    refine S_iconst (pc := 513) dX12_operand_513 ic1 ?_
    exact S_zreturn dX12_operand_514 rfl (Or.inr rfl) H
abbrev LpX12_goesOn_188 (l : Launch) (G : Gx) (d : Nat) (Q : Option Value → Hp → Prop) (sh : Sh) (fR : FRt) (B : Nat) (f : FI) (g : FL) (a1 : Int32) (a2 : Int32) (a3 : Int32) : Prop := WP l G (Zq G 0 0 Q) mX12_goesOn (rmd (d + 2) 0 0) 0 0 188 [some (.ref B), some (.int a1), some (.int a2), some (.int a3), none] [] (sh, f, g, fR)
abbrev LpX12_goesOn_87 (l : Launch) (G : Gx) (d : Nat) (Q : Option Value → Hp → Prop) (sh : Sh) (fR : FRt) (B : Nat) (f : FI) (g : FL)  : Prop := WP l G (Zq G 0 0 Q) mX12_goesOn (rmd (d + 2) 0 0) 0 0 87 [some (.ref B), none, none, none, none] [] (sh, f, g, fR)
abbrev LpX12_goesOn_285 (l : Launch) (G : Gx) (d : Nat) (Q : Option Value → Hp → Prop) (sh : Sh) (fR : FRt) (B : Nat) (f : FI) (g : FL) (a1 : Int32) (a2 : Int32) (a3 : Int32) : Prop := WP l G (Zq G 0 0 Q) mX12_goesOn (rmd (d + 2) 0 0) 0 0 285 [some (.ref B), some (.int a1), some (.int a2), some (.int a3), none] [] (sh, f, g, fR)
abbrev LpX12_goesOn_228 (l : Launch) (G : Gx) (d : Nat) (Q : Option Value → Hp → Prop) (sh : Sh) (fR : FRt) (B : Nat) (f : FI) (g : FL) (a1 : Int32) : Prop := WP l G (Zq G 0 0 Q) mX12_goesOn (rmd (d + 2) 0 0) 0 0 228 [some (.ref B), some (.int a1), none, none, none] [] (sh, f, g, fR)
abbrev LpX12_goesOn_400 (l : Launch) (G : Gx) (d : Nat) (Q : Option Value → Hp → Prop) (sh : Sh) (fR : FRt) (B : Nat) (f : FI) (g : FL) (a1 : Int32) (a2 : Int32) (a3 : Int32) : Prop := WP l G (Zq G 0 0 Q) mX12_goesOn (rmd (d + 2) 0 0) 0 0 400 [some (.ref B), some (.int a1), some (.int a2), some (.int a3), none] [] (sh, f, g, fR)
abbrev LpX12_goesOn_309 (l : Launch) (G : Gx) (d : Nat) (Q : Option Value → Hp → Prop) (sh : Sh) (fR : FRt) (B : Nat) (f : FI) (g : FL) (a1 : Int32) : Prop := WP l G (Zq G 0 0 Q) mX12_goesOn (rmd (d + 2) 0 0) 0 0 309 [some (.ref B), some (.int a1), none, none, none] [] (sh, f, g, fR)
abbrev LpX12_goesOn_422 (l : Launch) (G : Gx) (d : Nat) (Q : Option Value → Hp → Prop) (sh : Sh) (fR : FRt) (B : Nat) (f : FI) (g : FL) (a1 : Int32) (a2 : Int32) : Prop := WP l G (Zq G 0 0 Q) mX12_goesOn (rmd (d + 2) 0 0) 0 0 422 [some (.ref B), some (.int a1), some (.int a2), none, none] [] (sh, f, g, fR)
abbrev LpX12_goesOn_327 (l : Launch) (G : Gx) (d : Nat) (Q : Option Value → Hp → Prop) (sh : Sh) (fR : FRt) (B : Nat) (f : FI) (g : FL) (a1 : Int32) : Prop := WP l G (Zq G 0 0 Q) mX12_goesOn (rmd (d + 2) 0 0) 0 0 327 [some (.ref B), some (.int a1), none, none, none] [] (sh, f, g, fR)
abbrev LpX12_goesOn_452 (l : Launch) (G : Gx) (d : Nat) (Q : Option Value → Hp → Prop) (sh : Sh) (fR : FRt) (B : Nat) (f : FI) (g : FL) (a1 : Int32) (a2 : Int32) : Prop := WP l G (Zq G 0 0 Q) mX12_goesOn (rmd (d + 2) 0 0) 0 0 452 [some (.ref B), some (.int a1), some (.int a2), none, none] [] (sh, f, g, fR)
abbrev LpX12_goesOn_546 (l : Launch) (G : Gx) (d : Nat) (Q : Option Value → Hp → Prop) (sh : Sh) (fR : FRt) (B : Nat) (f : FI) (g : FL) (a1 : Int32) (a2 : Int32) : Prop := WP l G (Zq G 0 0 Q) mX12_goesOn (rmd (d + 2) 0 0) 0 0 546 [some (.ref B), some (.int a1), some (.int a2), none, none] [] (sh, f, g, fR)
abbrev LpX12_goesOn_470 (l : Launch) (G : Gx) (d : Nat) (Q : Option Value → Hp → Prop) (sh : Sh) (fR : FRt) (B : Nat) (f : FI) (g : FL) (a1 : Int32) (a2 : Int32) : Prop := WP l G (Zq G 0 0 Q) mX12_goesOn (rmd (d + 2) 0 0) 0 0 470 [some (.ref B), some (.int a1), some (.int a2), none, none] [] (sh, f, g, fR)
abbrev LpX12_goesOn_596 (l : Launch) (G : Gx) (d : Nat) (Q : Option Value → Hp → Prop) (sh : Sh) (fR : FRt) (B : Nat) (f : FI) (g : FL) (a2 : Int32) : Prop := WP l G (Zq G 0 0 Q) mX12_goesOn (rmd (d + 2) 0 0) 0 0 596 [some (.ref B), none, some (.int a2), none, none] [] (sh, f, g, fR)
set_option maxHeartbeats 2000000 in
set_option maxRecDepth 4000 in
theorem VX12_goesOn {l : Launch} {G : Gx} {d : Nat} {Q : Option Value → Hp → Prop} {sh : Sh} {fR : FRt} {B : Nat} {f : FI} {g : FL}  (hs : StM sh fR B)
    (H : Cl l G (d + 1) 0 0 mX12_lex [.ref B] (sh, f, g, fR) (qv sh fR fun f1 g2 => (((f1 B 8) ≤ 0 → (∀ w4 : Int32, w4 = (f1 B 36) - (nI 1) → inb w4 20 ∧ (∀ w7 : Int32, w7 = f1 (B + 16) w4.toNatClampNeg → Cl l G (d + 1) 0 0 mX12_isTest [.int w7] (sh, f1, g2, fR) (qi sh fR fun x11 f9 g10 => inb w4 20 ∧ (((nI 2) ≤ (f9 (B + 17) w4.toNatClampNeg) → LpX12_goesOn_188 l G d Q sh fR B f9 g10 w4 w7 x11) ∧ (¬ (nI 2) ≤ (f9 (B + 17) w4.toNatClampNeg) → Cl l G (d + 1) 0 0 mX12_isSign [.ref B, .int (nI 43)] (sh, f9, g10, fR) (qi sh fR fun x16 f14 g15 => ((¬ x16 = 0 → LpX12_goesOn_87 l G d Q sh fR B f14 g15) ∧ (x16 = 0 → Cl l G (d + 1) 0 0 mX12_isSign [.ref B, .int (nI 45)] (sh, f14, g15, fR) (qi sh fR fun x20 f18 g19 => ((¬ x20 = 0 → LpX12_goesOn_87 l G d Q sh fR B f18 g19) ∧ (x20 = 0 → Cl l G (d + 1) 0 0 mX12_isSign [.ref B, .int (nI 42)] (sh, f18, g19, fR) (qi sh fR fun x24 f22 g23 => ((¬ x24 = 0 → LpX12_goesOn_87 l G d Q sh fR B f22 g23) ∧ (x24 = 0 → Cl l G (d + 1) 0 0 mX12_isSign [.ref B, .int (nI 47)] (sh, f22, g23, fR) (qi sh fR fun x28 f26 g27 => ((¬ x28 = 0 → LpX12_goesOn_87 l G d Q sh fR B f26 g27) ∧ (x28 = 0 → Cl l G (d + 1) 0 0 mX12_isSign [.ref B, .int (nI 37)] (sh, f26, g27, fR) (qi sh fR fun x32 f30 g31 => ((x32 = 0 → LpX12_goesOn_188 l G d Q sh fR B f30 g31 w4 w7 x11) ∧ (¬ x32 = 0 → LpX12_goesOn_87 l G d Q sh fR B f30 g31))))))))))))))))))))) ∧ (¬ (f1 B 8) ≤ 0 → Q (some (.int (nI 0))) (sh, f1, g2, fR))))) :
    Cl l G (d + 2) 0 0 mX12_goesOn [.ref B] (sh, f, g, fR) Q := by
  refine Cl.of (L0 := [some (.ref B), none, none, none, none]) miX12_goesOn rfl rfl ?_
  refine S_aload_n (pc := 0) dX12_goesOn_0 rfl rfl ?_
  refine S_callV (As := []) (mc := 0) (ms := 0) (pc := 1) dX12_goesOn_1 miX12_lex mvX12_lex mlX12_243 rfl (sM_0 hs) rfl rfl rfl (RmOK.of rfl) H ?_
  rintro _ _ ⟨f1, g2, rfl, rfl, H⟩
  show WP _ _ _ _ _ _ _ 4 [some (.ref B), none, none, none, none] [] (sh, f1, g2, fR)
  refine S_aload_n (pc := 4) dX12_goesOn_4 rfl rfl ?_
  refine S_get (pc := 5) (v := .int (f1 B 8)) dX12_goesOn_5 flX12_36 (sM_0 hs) rfl ?_
  refine S_if_le (pc := 8) (tgt := 13) dX12_goesOn_8 rfl (fun hc3 => ?_) (fun hc3 => ?_)
  · replace H := H.1 hc3
    refine S_aload_n (pc := 13) dX12_goesOn_13 rfl rfl ?_
    refine S_get (pc := 14) (v := .int (f1 B 36)) dX12_goesOn_14 flX12_122 (sM_0 hs) rfl ?_
    refine S_iconst (pc := 17) dX12_goesOn_17 ic1 ?_
    refine S_isub (pc := 18) dX12_goesOn_18 ?_
    refine S_namei (fun w4 e5 => ?_)
    replace H := H w4 e5
    refine S_istore_n (pc := 19) (L' := [some (.ref B), some (.int w4), none, none, none]) dX12_goesOn_19 rfl (by decide) rfl ?_
    refine S_aload_n (pc := 20) dX12_goesOn_20 rfl rfl ?_
    refine S_getR (pc := 21) dX12_goesOn_21 flX12_106 (sM_0 hs) rfl (rM_31 hs) ?_
    refine S_iload_n (pc := 24) dX12_goesOn_24 rfl rfl ?_
    obtain ⟨hb6, H⟩ := H
    refine S_iald (pc := 25) dX12_goesOn_25 (sM_16 hs) hb6 ?_
    refine S_namei (fun w7 e8 => ?_)
    replace H := H w7 e8
    refine S_istore_n (pc := 26) (L' := [some (.ref B), some (.int w4), some (.int w7), none, none]) dX12_goesOn_26 rfl (by decide) rfl ?_
    refine S_iload_n (pc := 27) dX12_goesOn_27 rfl rfl ?_
    refine S_callS (As := [.int w7]) (mc := 0) (ms := 0) (pc := 28) dX12_goesOn_28 miX12_isTest mvX12_isTest mlX12_323 rfl rfl (RmOK.of rfl) H ?_
    rintro _ _ ⟨x11, f9, g10, rfl, rfl, H⟩
    show WP _ _ _ _ _ _ _ 31 [some (.ref B), some (.int w4), some (.int w7), none, none] [.int x11] (sh, f9, g10, fR)
    refine S_istore_n (pc := 31) (L' := [some (.ref B), some (.int w4), some (.int w7), some (.int x11), none]) dX12_goesOn_31 rfl (by decide) rfl ?_
    refine S_aload_n (pc := 32) dX12_goesOn_32 rfl rfl ?_
    refine S_getR (pc := 33) dX12_goesOn_33 flX12_109 (sM_0 hs) rfl (rM_32 hs) ?_
    refine S_iload_n (pc := 36) dX12_goesOn_36 rfl rfl ?_
    obtain ⟨hb12, H⟩ := H
    refine S_iald (pc := 37) dX12_goesOn_37 (sM_17 hs) hb12 ?_
    refine S_iconst (pc := 38) dX12_goesOn_38 ic2 ?_
    refine S_icmp_ge (pc := 39) (tgt := 188) dX12_goesOn_39 rfl (fun hc13 => ?_) (fun hc13 => ?_)
    · replace H := H.1 hc13
      exact H
    · replace H := H.2 hc13
      refine S_aload_n (pc := 42) dX12_goesOn_42 rfl rfl ?_
      refine S_bipush (pc := 43) dX12_goesOn_43 bp43 ?_
      refine S_callV (As := [.int (nI 43)]) (mc := 0) (ms := 0) (pc := 45) dX12_goesOn_45 miX12_isSign mvX12_isSign mlX12_246 rfl (sM_0 hs) rfl rfl rfl (RmOK.of rfl) H ?_
      rintro _ _ ⟨x16, f14, g15, rfl, rfl, H⟩
      show WP _ _ _ _ _ _ _ 48 [some (.ref B), some (.int w4), some (.int w7), some (.int x11), none] [.int x16] (sh, f14, g15, fR)
      refine S_if_ne (pc := 48) (tgt := 87) dX12_goesOn_48 rfl (fun hc17 => ?_) (fun hc17 => ?_)
      · replace H := H.1 hc17
        exact S_weak (L' := [some (.ref B), none, none, none, none]) (ls_e (ls_n (ls_n (ls_n (ls_e ls_0))))) H
      · replace H := H.2 hc17
        refine S_aload_n (pc := 51) dX12_goesOn_51 rfl rfl ?_
        refine S_bipush (pc := 52) dX12_goesOn_52 bp45 ?_
        refine S_callV (As := [.int (nI 45)]) (mc := 0) (ms := 0) (pc := 54) dX12_goesOn_54 miX12_isSign mvX12_isSign mlX12_246 rfl (sM_0 hs) rfl rfl rfl (RmOK.of rfl) H ?_
        rintro _ _ ⟨x20, f18, g19, rfl, rfl, H⟩
        show WP _ _ _ _ _ _ _ 57 [some (.ref B), some (.int w4), some (.int w7), some (.int x11), none] [.int x20] (sh, f18, g19, fR)
        refine S_if_ne (pc := 57) (tgt := 87) dX12_goesOn_57 rfl (fun hc21 => ?_) (fun hc21 => ?_)
        · replace H := H.1 hc21
          exact S_weak (L' := [some (.ref B), none, none, none, none]) (ls_e (ls_n (ls_n (ls_n (ls_e ls_0))))) H
        · replace H := H.2 hc21
          refine S_aload_n (pc := 60) dX12_goesOn_60 rfl rfl ?_
          refine S_bipush (pc := 61) dX12_goesOn_61 bp42 ?_
          refine S_callV (As := [.int (nI 42)]) (mc := 0) (ms := 0) (pc := 63) dX12_goesOn_63 miX12_isSign mvX12_isSign mlX12_246 rfl (sM_0 hs) rfl rfl rfl (RmOK.of rfl) H ?_
          rintro _ _ ⟨x24, f22, g23, rfl, rfl, H⟩
          show WP _ _ _ _ _ _ _ 66 [some (.ref B), some (.int w4), some (.int w7), some (.int x11), none] [.int x24] (sh, f22, g23, fR)
          refine S_if_ne (pc := 66) (tgt := 87) dX12_goesOn_66 rfl (fun hc25 => ?_) (fun hc25 => ?_)
          · replace H := H.1 hc25
            exact S_weak (L' := [some (.ref B), none, none, none, none]) (ls_e (ls_n (ls_n (ls_n (ls_e ls_0))))) H
          · replace H := H.2 hc25
            refine S_aload_n (pc := 69) dX12_goesOn_69 rfl rfl ?_
            refine S_bipush (pc := 70) dX12_goesOn_70 bp47 ?_
            refine S_callV (As := [.int (nI 47)]) (mc := 0) (ms := 0) (pc := 72) dX12_goesOn_72 miX12_isSign mvX12_isSign mlX12_246 rfl (sM_0 hs) rfl rfl rfl (RmOK.of rfl) H ?_
            rintro _ _ ⟨x28, f26, g27, rfl, rfl, H⟩
            show WP _ _ _ _ _ _ _ 75 [some (.ref B), some (.int w4), some (.int w7), some (.int x11), none] [.int x28] (sh, f26, g27, fR)
            refine S_if_ne (pc := 75) (tgt := 87) dX12_goesOn_75 rfl (fun hc29 => ?_) (fun hc29 => ?_)
            · replace H := H.1 hc29
              exact S_weak (L' := [some (.ref B), none, none, none, none]) (ls_e (ls_n (ls_n (ls_n (ls_e ls_0))))) H
            · replace H := H.2 hc29
              refine S_aload_n (pc := 78) dX12_goesOn_78 rfl rfl ?_
              refine S_bipush (pc := 79) dX12_goesOn_79 bp37 ?_
              refine S_callV (As := [.int (nI 37)]) (mc := 0) (ms := 0) (pc := 81) dX12_goesOn_81 miX12_isSign mvX12_isSign mlX12_246 rfl (sM_0 hs) rfl rfl rfl (RmOK.of rfl) H ?_
              rintro _ _ ⟨x32, f30, g31, rfl, rfl, H⟩
              show WP _ _ _ _ _ _ _ 84 [some (.ref B), some (.int w4), some (.int w7), some (.int x11), none] [.int x32] (sh, f30, g31, fR)
              refine S_if_eq (pc := 84) (tgt := 188) dX12_goesOn_84 rfl (fun hc33 => ?_) (fun hc33 => ?_)
              · replace H := H.1 hc33
                exact H
              · replace H := H.2 hc33
                exact S_weak (L' := [some (.ref B), none, none, none, none]) (ls_e (ls_n (ls_n (ls_n (ls_e ls_0))))) H
  · replace H := H.2 hc3
    refine S_iconst (pc := 11) dX12_goesOn_11 ic0 ?_
    exact S_zreturn dX12_goesOn_12 rfl (Or.inl rfl) H
set_option maxHeartbeats 2000000 in
set_option maxRecDepth 4000 in
theorem VX12_goesOn_188 {l : Launch} {G : Gx} {d : Nat} {Q : Option Value → Hp → Prop} {sh : Sh} {fR : FRt} {B : Nat} {f : FI} {g : FL} {a1 : Int32} {a2 : Int32} {a3 : Int32} (hs : StM sh fR B)
    (H : ((a3 = 0 → LpX12_goesOn_285 l G d Q sh fR B f g a1 a2 a3) ∧ (¬ a3 = 0 → inb a1 20 ∧ ((¬ (f (B + 17) a1.toNatClampNeg) = 0 → LpX12_goesOn_285 l G d Q sh fR B f g a1 a2 a3) ∧ ((f (B + 17) a1.toNatClampNeg) = 0 → Cl l G (d + 1) 0 0 mX12_isSign [.ref B, .int (nI 60)] (sh, f, g, fR) (qi sh fR fun x39 f37 g38 => ((¬ x39 = 0 → LpX12_goesOn_228 l G d Q sh fR B f37 g38 a1) ∧ (x39 = 0 → Cl l G (d + 1) 0 0 mX12_isSign [.ref B, .int (nI 62)] (sh, f37, g38, fR) (qi sh fR fun x43 f41 g42 => ((¬ x43 = 0 → LpX12_goesOn_228 l G d Q sh fR B f41 g42 a1) ∧ (x43 = 0 → Cl l G (d + 1) 0 0 mX12_isSign [.ref B, .int (nI 61)] (sh, f41, g42, fR) (qi sh fR fun x47 f45 g46 => ((x47 = 0 → LpX12_goesOn_285 l G d Q sh fR B f45 g46 a1 a2 a3) ∧ (¬ x47 = 0 → LpX12_goesOn_228 l G d Q sh fR B f45 g46 a1)))))))))))))) :
    LpX12_goesOn_188 l G d Q sh fR B f g a1 a2 a3 := by
  refine S_iload_n (pc := 188) dX12_goesOn_188 rfl rfl ?_
  refine S_if_eq (pc := 189) (tgt := 285) dX12_goesOn_189 rfl (fun hc34 => ?_) (fun hc34 => ?_)
  · replace H := H.1 hc34
    exact H
  · replace H := H.2 hc34
    refine S_aload_n (pc := 192) dX12_goesOn_192 rfl rfl ?_
    refine S_getR (pc := 193) dX12_goesOn_193 flX12_109 (sM_0 hs) rfl (rM_32 hs) ?_
    refine S_iload_n (pc := 196) dX12_goesOn_196 rfl rfl ?_
    obtain ⟨hb35, H⟩ := H
    refine S_iald (pc := 197) dX12_goesOn_197 (sM_17 hs) hb35 ?_
    refine S_if_ne (pc := 198) (tgt := 285) dX12_goesOn_198 rfl (fun hc36 => ?_) (fun hc36 => ?_)
    · replace H := H.1 hc36
      exact H
    · replace H := H.2 hc36
      refine S_aload_n (pc := 201) dX12_goesOn_201 rfl rfl ?_
      refine S_bipush (pc := 202) dX12_goesOn_202 bp60 ?_
      refine S_callV (As := [.int (nI 60)]) (mc := 0) (ms := 0) (pc := 204) dX12_goesOn_204 miX12_isSign mvX12_isSign mlX12_246 rfl (sM_0 hs) rfl rfl rfl (RmOK.of rfl) H ?_
      rintro _ _ ⟨x39, f37, g38, rfl, rfl, H⟩
      show WP _ _ _ _ _ _ _ 207 [some (.ref B), some (.int a1), some (.int a2), some (.int a3), none] [.int x39] (sh, f37, g38, fR)
      refine S_if_ne (pc := 207) (tgt := 228) dX12_goesOn_207 rfl (fun hc40 => ?_) (fun hc40 => ?_)
      · replace H := H.1 hc40
        exact S_weak (L' := [some (.ref B), some (.int a1), none, none, none]) (ls_e (ls_e (ls_n (ls_n (ls_e ls_0))))) H
      · replace H := H.2 hc40
        refine S_aload_n (pc := 210) dX12_goesOn_210 rfl rfl ?_
        refine S_bipush (pc := 211) dX12_goesOn_211 bp62 ?_
        refine S_callV (As := [.int (nI 62)]) (mc := 0) (ms := 0) (pc := 213) dX12_goesOn_213 miX12_isSign mvX12_isSign mlX12_246 rfl (sM_0 hs) rfl rfl rfl (RmOK.of rfl) H ?_
        rintro _ _ ⟨x43, f41, g42, rfl, rfl, H⟩
        show WP _ _ _ _ _ _ _ 216 [some (.ref B), some (.int a1), some (.int a2), some (.int a3), none] [.int x43] (sh, f41, g42, fR)
        refine S_if_ne (pc := 216) (tgt := 228) dX12_goesOn_216 rfl (fun hc44 => ?_) (fun hc44 => ?_)
        · replace H := H.1 hc44
          exact S_weak (L' := [some (.ref B), some (.int a1), none, none, none]) (ls_e (ls_e (ls_n (ls_n (ls_e ls_0))))) H
        · replace H := H.2 hc44
          refine S_aload_n (pc := 219) dX12_goesOn_219 rfl rfl ?_
          refine S_bipush (pc := 220) dX12_goesOn_220 bp61 ?_
          refine S_callV (As := [.int (nI 61)]) (mc := 0) (ms := 0) (pc := 222) dX12_goesOn_222 miX12_isSign mvX12_isSign mlX12_246 rfl (sM_0 hs) rfl rfl rfl (RmOK.of rfl) H ?_
          rintro _ _ ⟨x47, f45, g46, rfl, rfl, H⟩
          show WP _ _ _ _ _ _ _ 225 [some (.ref B), some (.int a1), some (.int a2), some (.int a3), none] [.int x47] (sh, f45, g46, fR)
          refine S_if_eq (pc := 225) (tgt := 285) dX12_goesOn_225 rfl (fun hc48 => ?_) (fun hc48 => ?_)
          · replace H := H.1 hc48
            exact H
          · replace H := H.2 hc48
            exact S_weak (L' := [some (.ref B), some (.int a1), none, none, none]) (ls_e (ls_e (ls_n (ls_n (ls_e ls_0))))) H
set_option maxHeartbeats 2000000 in
set_option maxRecDepth 4000 in
theorem VX12_goesOn_87 {l : Launch} {G : Gx} {d : Nat} {Q : Option Value → Hp → Prop} {sh : Sh} {fR : FRt} {B : Nat} {f : FI} {g : FL}  (hs : StM sh fR B)
    (H : Cl l G (d + 1) 0 0 mX12_isSign [.ref B, .int (nI 43)] (sh, f, g, fR) (qi sh fR fun x51 f49 g50 => ((¬ x51 = 0 → Cl l G (d + 1) 0 0 mX12_joins [.ref B, .int (nI 5)] (sh, f49, g50, fR) (qv sh fR fun f53 g54 => Cl l G (d + 1) 0 0 mX12_isSign [.ref B, .int (nI 43)] (sh, f53, g54, fR) (qi sh fR fun x57 f55 g56 => ((x57 = 0 → Cl l G (d + 1) 0 0 mX12_isSign [.ref B, .int (nI 45)] (sh, f55, g56, fR) (qi sh fR fun x61 f59 g60 => ((x61 = 0 → Cl l G (d + 1) 0 0 mX12_isSign [.ref B, .int (nI 42)] (sh, f59, g60, fR) (qi sh fR fun x65 f63 g64 => ((x65 = 0 → Cl l G (d + 1) 0 0 mX12_isSign [.ref B, .int (nI 47)] (sh, f63, g64, fR) (qi sh fR fun x69 f67 g68 => ((x69 = 0 → inb (f67 B 39) 500 ∧ Cl l G (d + 1) 0 0 mX12_ahead [.ref B] (sh, (up2 (up2 f67 (B + 21) (f67 B 39).toNatClampNeg (nI 35)) B 39 ((f67 B 39) + (nI 1))), g68, fR) (qv sh fR fun f72 g73 => Q (some (.int (nI 1))) (sh, (up2 f72 B 40 (nI 0)), g73, fR))) ∧ (¬ x69 = 0 → inb (f67 B 39) 500 ∧ Cl l G (d + 1) 0 0 mX12_ahead [.ref B] (sh, (up2 (up2 f67 (B + 21) (f67 B 39).toNatClampNeg (nI 34)) B 39 ((f67 B 39) + (nI 1))), g68, fR) (qv sh fR fun f75 g76 => Q (some (.int (nI 1))) (sh, (up2 f75 B 40 (nI 0)), g76, fR)))))) ∧ (¬ x65 = 0 → inb (f63 B 39) 500 ∧ Cl l G (d + 1) 0 0 mX12_ahead [.ref B] (sh, (up2 (up2 f63 (B + 21) (f63 B 39).toNatClampNeg (nI 33)) B 39 ((f63 B 39) + (nI 1))), g64, fR) (qv sh fR fun f78 g79 => Q (some (.int (nI 1))) (sh, (up2 f78 B 40 (nI 0)), g79, fR)))))) ∧ (¬ x61 = 0 → inb (f59 B 39) 500 ∧ Cl l G (d + 1) 0 0 mX12_ahead [.ref B] (sh, (up2 (up2 f59 (B + 21) (f59 B 39).toNatClampNeg (nI 32)) B 39 ((f59 B 39) + (nI 1))), g60, fR) (qv sh fR fun f81 g82 => Q (some (.int (nI 1))) (sh, (up2 f81 B 40 (nI 0)), g82, fR)))))) ∧ (¬ x57 = 0 → inb (f55 B 39) 500 ∧ Cl l G (d + 1) 0 0 mX12_ahead [.ref B] (sh, (up2 (up2 f55 (B + 21) (f55 B 39).toNatClampNeg (nI 31)) B 39 ((f55 B 39) + (nI 1))), g56, fR) (qv sh fR fun f84 g85 => Q (some (.int (nI 1))) (sh, (up2 f84 B 40 (nI 0)), g85, fR))))))) ∧ (x51 = 0 → Cl l G (d + 1) 0 0 mX12_isSign [.ref B, .int (nI 45)] (sh, f49, g50, fR) (qi sh fR fun x88 f86 g87 => ((x88 = 0 → Cl l G (d + 1) 0 0 mX12_joins [.ref B, .int (nI 6)] (sh, f86, g87, fR) (qv sh fR fun f90 g91 => Cl l G (d + 1) 0 0 mX12_isSign [.ref B, .int (nI 43)] (sh, f90, g91, fR) (qi sh fR fun x94 f92 g93 => ((x94 = 0 → Cl l G (d + 1) 0 0 mX12_isSign [.ref B, .int (nI 45)] (sh, f92, g93, fR) (qi sh fR fun x98 f96 g97 => ((x98 = 0 → Cl l G (d + 1) 0 0 mX12_isSign [.ref B, .int (nI 42)] (sh, f96, g97, fR) (qi sh fR fun x102 f100 g101 => ((x102 = 0 → Cl l G (d + 1) 0 0 mX12_isSign [.ref B, .int (nI 47)] (sh, f100, g101, fR) (qi sh fR fun x106 f104 g105 => ((x106 = 0 → inb (f104 B 39) 500 ∧ Cl l G (d + 1) 0 0 mX12_ahead [.ref B] (sh, (up2 (up2 f104 (B + 21) (f104 B 39).toNatClampNeg (nI 35)) B 39 ((f104 B 39) + (nI 1))), g105, fR) (qv sh fR fun f109 g110 => Q (some (.int (nI 1))) (sh, (up2 f109 B 40 (nI 0)), g110, fR))) ∧ (¬ x106 = 0 → inb (f104 B 39) 500 ∧ Cl l G (d + 1) 0 0 mX12_ahead [.ref B] (sh, (up2 (up2 f104 (B + 21) (f104 B 39).toNatClampNeg (nI 34)) B 39 ((f104 B 39) + (nI 1))), g105, fR) (qv sh fR fun f112 g113 => Q (some (.int (nI 1))) (sh, (up2 f112 B 40 (nI 0)), g113, fR)))))) ∧ (¬ x102 = 0 → inb (f100 B 39) 500 ∧ Cl l G (d + 1) 0 0 mX12_ahead [.ref B] (sh, (up2 (up2 f100 (B + 21) (f100 B 39).toNatClampNeg (nI 33)) B 39 ((f100 B 39) + (nI 1))), g101, fR) (qv sh fR fun f115 g116 => Q (some (.int (nI 1))) (sh, (up2 f115 B 40 (nI 0)), g116, fR)))))) ∧ (¬ x98 = 0 → inb (f96 B 39) 500 ∧ Cl l G (d + 1) 0 0 mX12_ahead [.ref B] (sh, (up2 (up2 f96 (B + 21) (f96 B 39).toNatClampNeg (nI 32)) B 39 ((f96 B 39) + (nI 1))), g97, fR) (qv sh fR fun f118 g119 => Q (some (.int (nI 1))) (sh, (up2 f118 B 40 (nI 0)), g119, fR)))))) ∧ (¬ x94 = 0 → inb (f92 B 39) 500 ∧ Cl l G (d + 1) 0 0 mX12_ahead [.ref B] (sh, (up2 (up2 f92 (B + 21) (f92 B 39).toNatClampNeg (nI 31)) B 39 ((f92 B 39) + (nI 1))), g93, fR) (qv sh fR fun f121 g122 => Q (some (.int (nI 1))) (sh, (up2 f121 B 40 (nI 0)), g122, fR))))))) ∧ (¬ x88 = 0 → Cl l G (d + 1) 0 0 mX12_joins [.ref B, .int (nI 5)] (sh, f86, g87, fR) (qv sh fR fun f123 g124 => Cl l G (d + 1) 0 0 mX12_isSign [.ref B, .int (nI 43)] (sh, f123, g124, fR) (qi sh fR fun x127 f125 g126 => ((x127 = 0 → Cl l G (d + 1) 0 0 mX12_isSign [.ref B, .int (nI 45)] (sh, f125, g126, fR) (qi sh fR fun x131 f129 g130 => ((x131 = 0 → Cl l G (d + 1) 0 0 mX12_isSign [.ref B, .int (nI 42)] (sh, f129, g130, fR) (qi sh fR fun x135 f133 g134 => ((x135 = 0 → Cl l G (d + 1) 0 0 mX12_isSign [.ref B, .int (nI 47)] (sh, f133, g134, fR) (qi sh fR fun x139 f137 g138 => ((x139 = 0 → inb (f137 B 39) 500 ∧ Cl l G (d + 1) 0 0 mX12_ahead [.ref B] (sh, (up2 (up2 f137 (B + 21) (f137 B 39).toNatClampNeg (nI 35)) B 39 ((f137 B 39) + (nI 1))), g138, fR) (qv sh fR fun f142 g143 => Q (some (.int (nI 1))) (sh, (up2 f142 B 40 (nI 0)), g143, fR))) ∧ (¬ x139 = 0 → inb (f137 B 39) 500 ∧ Cl l G (d + 1) 0 0 mX12_ahead [.ref B] (sh, (up2 (up2 f137 (B + 21) (f137 B 39).toNatClampNeg (nI 34)) B 39 ((f137 B 39) + (nI 1))), g138, fR) (qv sh fR fun f145 g146 => Q (some (.int (nI 1))) (sh, (up2 f145 B 40 (nI 0)), g146, fR)))))) ∧ (¬ x135 = 0 → inb (f133 B 39) 500 ∧ Cl l G (d + 1) 0 0 mX12_ahead [.ref B] (sh, (up2 (up2 f133 (B + 21) (f133 B 39).toNatClampNeg (nI 33)) B 39 ((f133 B 39) + (nI 1))), g134, fR) (qv sh fR fun f148 g149 => Q (some (.int (nI 1))) (sh, (up2 f148 B 40 (nI 0)), g149, fR)))))) ∧ (¬ x131 = 0 → inb (f129 B 39) 500 ∧ Cl l G (d + 1) 0 0 mX12_ahead [.ref B] (sh, (up2 (up2 f129 (B + 21) (f129 B 39).toNatClampNeg (nI 32)) B 39 ((f129 B 39) + (nI 1))), g130, fR) (qv sh fR fun f151 g152 => Q (some (.int (nI 1))) (sh, (up2 f151 B 40 (nI 0)), g152, fR)))))) ∧ (¬ x127 = 0 → inb (f125 B 39) 500 ∧ Cl l G (d + 1) 0 0 mX12_ahead [.ref B] (sh, (up2 (up2 f125 (B + 21) (f125 B 39).toNatClampNeg (nI 31)) B 39 ((f125 B 39) + (nI 1))), g126, fR) (qv sh fR fun f154 g155 => Q (some (.int (nI 1))) (sh, (up2 f154 B 40 (nI 0)), g155, fR))))))))))))) :
    LpX12_goesOn_87 l G d Q sh fR B f g  := by
  refine S_aload_n (pc := 87) dX12_goesOn_87 rfl rfl ?_
  refine S_aload_n (pc := 88) dX12_goesOn_88 rfl rfl ?_
  refine S_bipush (pc := 89) dX12_goesOn_89 bp43 ?_
  refine S_callV (As := [.int (nI 43)]) (mc := 0) (ms := 0) (pc := 91) dX12_goesOn_91 miX12_isSign mvX12_isSign mlX12_246 rfl (sM_0 hs) rfl rfl rfl (RmOK.of rfl) H ?_
  rintro _ _ ⟨x51, f49, g50, rfl, rfl, H⟩
  show WP _ _ _ _ _ _ _ 94 [some (.ref B), none, none, none, none] [.int x51, .ref B] (sh, f49, g50, fR)
  refine S_if_ne (pc := 94) (tgt := 106) dX12_goesOn_94 rfl (fun hc52 => ?_) (fun hc52 => ?_)
  · replace H := H.1 hc52
    refine S_iconst (pc := 106) dX12_goesOn_106 ic5 ?_
    refine S_goto (pc := 107) (tgt := 112) dX12_goesOn_107 rfl ?_
    refine S_callV (As := [.int (nI 5)]) (mc := 0) (ms := 0) (pc := 112) dX12_goesOn_112 miX12_joins mvX12_joins mlX12_343 rfl (sM_0 hs) rfl rfl rfl (RmOK.of rfl) H ?_
    rintro _ _ ⟨f53, g54, rfl, rfl, H⟩
    show WP _ _ _ _ _ _ _ 115 [some (.ref B), none, none, none, none] [] (sh, f53, g54, fR)
    refine S_aload_n (pc := 115) dX12_goesOn_115 rfl rfl ?_
    refine S_aload_n (pc := 116) dX12_goesOn_116 rfl rfl ?_
    refine S_bipush (pc := 117) dX12_goesOn_117 bp43 ?_
    refine S_callV (As := [.int (nI 43)]) (mc := 0) (ms := 0) (pc := 119) dX12_goesOn_119 miX12_isSign mvX12_isSign mlX12_246 rfl (sM_0 hs) rfl rfl rfl (RmOK.of rfl) H ?_
    rintro _ _ ⟨x57, f55, g56, rfl, rfl, H⟩
    show WP _ _ _ _ _ _ _ 122 [some (.ref B), none, none, none, none] [.int x57, .ref B] (sh, f55, g56, fR)
    refine S_if_eq (pc := 122) (tgt := 130) dX12_goesOn_122 rfl (fun hc58 => ?_) (fun hc58 => ?_)
    · replace H := H.1 hc58
      refine S_aload_n (pc := 130) dX12_goesOn_130 rfl rfl ?_
      refine S_bipush (pc := 131) dX12_goesOn_131 bp45 ?_
      refine S_callV (As := [.int (nI 45)]) (mc := 0) (ms := 0) (pc := 133) dX12_goesOn_133 miX12_isSign mvX12_isSign mlX12_246 rfl (sM_0 hs) rfl rfl rfl (RmOK.of rfl) H ?_
      rintro _ _ ⟨x61, f59, g60, rfl, rfl, H⟩
      show WP _ _ _ _ _ _ _ 136 [some (.ref B), none, none, none, none] [.int x61, .ref B] (sh, f59, g60, fR)
      refine S_if_eq (pc := 136) (tgt := 144) dX12_goesOn_136 rfl (fun hc62 => ?_) (fun hc62 => ?_)
      · replace H := H.1 hc62
        refine S_aload_n (pc := 144) dX12_goesOn_144 rfl rfl ?_
        refine S_bipush (pc := 145) dX12_goesOn_145 bp42 ?_
        refine S_callV (As := [.int (nI 42)]) (mc := 0) (ms := 0) (pc := 147) dX12_goesOn_147 miX12_isSign mvX12_isSign mlX12_246 rfl (sM_0 hs) rfl rfl rfl (RmOK.of rfl) H ?_
        rintro _ _ ⟨x65, f63, g64, rfl, rfl, H⟩
        show WP _ _ _ _ _ _ _ 150 [some (.ref B), none, none, none, none] [.int x65, .ref B] (sh, f63, g64, fR)
        refine S_if_eq (pc := 150) (tgt := 158) dX12_goesOn_150 rfl (fun hc66 => ?_) (fun hc66 => ?_)
        · replace H := H.1 hc66
          refine S_aload_n (pc := 158) dX12_goesOn_158 rfl rfl ?_
          refine S_bipush (pc := 159) dX12_goesOn_159 bp47 ?_
          refine S_callV (As := [.int (nI 47)]) (mc := 0) (ms := 0) (pc := 161) dX12_goesOn_161 miX12_isSign mvX12_isSign mlX12_246 rfl (sM_0 hs) rfl rfl rfl (RmOK.of rfl) H ?_
          rintro _ _ ⟨x69, f67, g68, rfl, rfl, H⟩
          show WP _ _ _ _ _ _ _ 164 [some (.ref B), none, none, none, none] [.int x69, .ref B] (sh, f67, g68, fR)
          refine S_if_eq (pc := 164) (tgt := 172) dX12_goesOn_164 rfl (fun hc70 => ?_) (fun hc70 => ?_)
          · replace H := H.1 hc70
            refine S_bipush (pc := 172) dX12_goesOn_172 bp35 ?_
            refine S_callV (As := [.int (nI 35)]) (mc := 0) (ms := 0) (pc := 174) dX12_goesOn_174 miX12_holdsBack mvX12_holdsBack mlX12_330 rfl (sM_0 hs) rfl rfl rfl (RmOK.of rfl) (Q := fun r h => WP _ _ _ _ _ _ _ 177 [some (.ref B), none, none, none, none] (r.toList ++ []) h) (Cl.of miX12_holdsBack rfl rfl ?_) (fun _ _ q => q)
            refine S_aload_n (pc := 0) dX12_holdsBack_0 rfl rfl ?_
            refine S_getR (pc := 1) dX12_holdsBack_1 flX12_128 (sM_0 hs) rfl (rM_38 hs) ?_
            refine S_aload_n (pc := 4) dX12_holdsBack_4 rfl rfl ?_
            refine S_get (pc := 5) (v := .int (f67 B 39)) dX12_holdsBack_5 flX12_131 (sM_0 hs) rfl ?_
            refine S_iload_n (pc := 8) dX12_holdsBack_8 rfl rfl ?_
            obtain ⟨hb71, H⟩ := H
            refine S_iast (pc := 9) dX12_holdsBack_9 (sM_21 hs) (Nat.succ_pos _) hb71 ?_
            refine S_aload_n (pc := 10) dX12_holdsBack_10 rfl rfl ?_
            refine S_dup (pc := 11) dX12_holdsBack_11 rfl ?_
            refine S_get (pc := 12) (v := .int ((up2 f67 (B + 21) (f67 B 39).toNatClampNeg (nI 35)) B 39)) dX12_holdsBack_12 flX12_131 (sM_0 hs) rfl ?_
            refine S_eqi (x := f67 B 39) ((up2_r (by omega)).trans rfl) ?_
            refine S_iconst (pc := 15) dX12_holdsBack_15 ic1 ?_
            refine S_iadd (pc := 16) dX12_holdsBack_16 ?_
            refine S_putI (pc := 17) dX12_holdsBack_17 flX12_131 (sM_0 hs) hs.2.2 (nf_12_39) rfl rfl (fun _ => rfl) ?_
            refine S_vreturn dX12_holdsBack_20 rfl ?_
            show WP _ _ _ _ _ _ _ 177 [some (.ref B), none, none, none, none] [] (sh, (up2 (up2 f67 (B + 21) (f67 B 39).toNatClampNeg (nI 35)) B 39 ((f67 B 39) + (nI 1))), g68, fR)
            refine S_aload_n (pc := 177) dX12_goesOn_177 rfl rfl ?_
            refine S_callV (As := []) (mc := 0) (ms := 0) (pc := 178) dX12_goesOn_178 miX12_ahead mvX12_ahead mlX12_249 rfl (sM_0 hs) rfl rfl rfl (RmOK.of rfl) H ?_
            rintro _ _ ⟨f72, g73, rfl, rfl, H⟩
            show WP _ _ _ _ _ _ _ 181 [some (.ref B), none, none, none, none] [] (sh, f72, g73, fR)
            refine S_aload_n (pc := 181) dX12_goesOn_181 rfl rfl ?_
            refine S_iconst (pc := 182) dX12_goesOn_182 ic0 ?_
            refine S_putI (pc := 183) dX12_goesOn_183 flX12_134 (sM_0 hs) hs.2.2 (nf_12_40) nb0 rfl (fun _ => rfl) ?_
            refine S_iconst (pc := 186) dX12_goesOn_186 ic1 ?_
            exact S_zreturn dX12_goesOn_187 rfl (Or.inr rfl) H
          · replace H := H.2 hc70
            refine S_bipush (pc := 167) dX12_goesOn_167 bp34 ?_
            refine S_goto (pc := 169) (tgt := 174) dX12_goesOn_169 rfl ?_
            refine S_callV (As := [.int (nI 34)]) (mc := 0) (ms := 0) (pc := 174) dX12_goesOn_174 miX12_holdsBack mvX12_holdsBack mlX12_330 rfl (sM_0 hs) rfl rfl rfl (RmOK.of rfl) (Q := fun r h => WP _ _ _ _ _ _ _ 177 [some (.ref B), none, none, none, none] (r.toList ++ []) h) (Cl.of miX12_holdsBack rfl rfl ?_) (fun _ _ q => q)
            refine S_aload_n (pc := 0) dX12_holdsBack_0 rfl rfl ?_
            refine S_getR (pc := 1) dX12_holdsBack_1 flX12_128 (sM_0 hs) rfl (rM_38 hs) ?_
            refine S_aload_n (pc := 4) dX12_holdsBack_4 rfl rfl ?_
            refine S_get (pc := 5) (v := .int (f67 B 39)) dX12_holdsBack_5 flX12_131 (sM_0 hs) rfl ?_
            refine S_iload_n (pc := 8) dX12_holdsBack_8 rfl rfl ?_
            obtain ⟨hb74, H⟩ := H
            refine S_iast (pc := 9) dX12_holdsBack_9 (sM_21 hs) (Nat.succ_pos _) hb74 ?_
            refine S_aload_n (pc := 10) dX12_holdsBack_10 rfl rfl ?_
            refine S_dup (pc := 11) dX12_holdsBack_11 rfl ?_
            refine S_get (pc := 12) (v := .int ((up2 f67 (B + 21) (f67 B 39).toNatClampNeg (nI 34)) B 39)) dX12_holdsBack_12 flX12_131 (sM_0 hs) rfl ?_
            refine S_eqi (x := f67 B 39) ((up2_r (by omega)).trans rfl) ?_
            refine S_iconst (pc := 15) dX12_holdsBack_15 ic1 ?_
            refine S_iadd (pc := 16) dX12_holdsBack_16 ?_
            refine S_putI (pc := 17) dX12_holdsBack_17 flX12_131 (sM_0 hs) hs.2.2 (nf_12_39) rfl rfl (fun _ => rfl) ?_
            refine S_vreturn dX12_holdsBack_20 rfl ?_
            show WP _ _ _ _ _ _ _ 177 [some (.ref B), none, none, none, none] [] (sh, (up2 (up2 f67 (B + 21) (f67 B 39).toNatClampNeg (nI 34)) B 39 ((f67 B 39) + (nI 1))), g68, fR)
            refine S_aload_n (pc := 177) dX12_goesOn_177 rfl rfl ?_
            refine S_callV (As := []) (mc := 0) (ms := 0) (pc := 178) dX12_goesOn_178 miX12_ahead mvX12_ahead mlX12_249 rfl (sM_0 hs) rfl rfl rfl (RmOK.of rfl) H ?_
            rintro _ _ ⟨f75, g76, rfl, rfl, H⟩
            show WP _ _ _ _ _ _ _ 181 [some (.ref B), none, none, none, none] [] (sh, f75, g76, fR)
            refine S_aload_n (pc := 181) dX12_goesOn_181 rfl rfl ?_
            refine S_iconst (pc := 182) dX12_goesOn_182 ic0 ?_
            refine S_putI (pc := 183) dX12_goesOn_183 flX12_134 (sM_0 hs) hs.2.2 (nf_12_40) nb0 rfl (fun _ => rfl) ?_
            refine S_iconst (pc := 186) dX12_goesOn_186 ic1 ?_
            exact S_zreturn dX12_goesOn_187 rfl (Or.inr rfl) H
        · replace H := H.2 hc66
          refine S_bipush (pc := 153) dX12_goesOn_153 bp33 ?_
          refine S_goto (pc := 155) (tgt := 174) dX12_goesOn_155 rfl ?_
          refine S_callV (As := [.int (nI 33)]) (mc := 0) (ms := 0) (pc := 174) dX12_goesOn_174 miX12_holdsBack mvX12_holdsBack mlX12_330 rfl (sM_0 hs) rfl rfl rfl (RmOK.of rfl) (Q := fun r h => WP _ _ _ _ _ _ _ 177 [some (.ref B), none, none, none, none] (r.toList ++ []) h) (Cl.of miX12_holdsBack rfl rfl ?_) (fun _ _ q => q)
          refine S_aload_n (pc := 0) dX12_holdsBack_0 rfl rfl ?_
          refine S_getR (pc := 1) dX12_holdsBack_1 flX12_128 (sM_0 hs) rfl (rM_38 hs) ?_
          refine S_aload_n (pc := 4) dX12_holdsBack_4 rfl rfl ?_
          refine S_get (pc := 5) (v := .int (f63 B 39)) dX12_holdsBack_5 flX12_131 (sM_0 hs) rfl ?_
          refine S_iload_n (pc := 8) dX12_holdsBack_8 rfl rfl ?_
          obtain ⟨hb77, H⟩ := H
          refine S_iast (pc := 9) dX12_holdsBack_9 (sM_21 hs) (Nat.succ_pos _) hb77 ?_
          refine S_aload_n (pc := 10) dX12_holdsBack_10 rfl rfl ?_
          refine S_dup (pc := 11) dX12_holdsBack_11 rfl ?_
          refine S_get (pc := 12) (v := .int ((up2 f63 (B + 21) (f63 B 39).toNatClampNeg (nI 33)) B 39)) dX12_holdsBack_12 flX12_131 (sM_0 hs) rfl ?_
          refine S_eqi (x := f63 B 39) ((up2_r (by omega)).trans rfl) ?_
          refine S_iconst (pc := 15) dX12_holdsBack_15 ic1 ?_
          refine S_iadd (pc := 16) dX12_holdsBack_16 ?_
          refine S_putI (pc := 17) dX12_holdsBack_17 flX12_131 (sM_0 hs) hs.2.2 (nf_12_39) rfl rfl (fun _ => rfl) ?_
          refine S_vreturn dX12_holdsBack_20 rfl ?_
          show WP _ _ _ _ _ _ _ 177 [some (.ref B), none, none, none, none] [] (sh, (up2 (up2 f63 (B + 21) (f63 B 39).toNatClampNeg (nI 33)) B 39 ((f63 B 39) + (nI 1))), g64, fR)
          refine S_aload_n (pc := 177) dX12_goesOn_177 rfl rfl ?_
          refine S_callV (As := []) (mc := 0) (ms := 0) (pc := 178) dX12_goesOn_178 miX12_ahead mvX12_ahead mlX12_249 rfl (sM_0 hs) rfl rfl rfl (RmOK.of rfl) H ?_
          rintro _ _ ⟨f78, g79, rfl, rfl, H⟩
          show WP _ _ _ _ _ _ _ 181 [some (.ref B), none, none, none, none] [] (sh, f78, g79, fR)
          refine S_aload_n (pc := 181) dX12_goesOn_181 rfl rfl ?_
          refine S_iconst (pc := 182) dX12_goesOn_182 ic0 ?_
          refine S_putI (pc := 183) dX12_goesOn_183 flX12_134 (sM_0 hs) hs.2.2 (nf_12_40) nb0 rfl (fun _ => rfl) ?_
          refine S_iconst (pc := 186) dX12_goesOn_186 ic1 ?_
          exact S_zreturn dX12_goesOn_187 rfl (Or.inr rfl) H
      · replace H := H.2 hc62
        refine S_bipush (pc := 139) dX12_goesOn_139 bp32 ?_
        refine S_goto (pc := 141) (tgt := 174) dX12_goesOn_141 rfl ?_
        refine S_callV (As := [.int (nI 32)]) (mc := 0) (ms := 0) (pc := 174) dX12_goesOn_174 miX12_holdsBack mvX12_holdsBack mlX12_330 rfl (sM_0 hs) rfl rfl rfl (RmOK.of rfl) (Q := fun r h => WP _ _ _ _ _ _ _ 177 [some (.ref B), none, none, none, none] (r.toList ++ []) h) (Cl.of miX12_holdsBack rfl rfl ?_) (fun _ _ q => q)
        refine S_aload_n (pc := 0) dX12_holdsBack_0 rfl rfl ?_
        refine S_getR (pc := 1) dX12_holdsBack_1 flX12_128 (sM_0 hs) rfl (rM_38 hs) ?_
        refine S_aload_n (pc := 4) dX12_holdsBack_4 rfl rfl ?_
        refine S_get (pc := 5) (v := .int (f59 B 39)) dX12_holdsBack_5 flX12_131 (sM_0 hs) rfl ?_
        refine S_iload_n (pc := 8) dX12_holdsBack_8 rfl rfl ?_
        obtain ⟨hb80, H⟩ := H
        refine S_iast (pc := 9) dX12_holdsBack_9 (sM_21 hs) (Nat.succ_pos _) hb80 ?_
        refine S_aload_n (pc := 10) dX12_holdsBack_10 rfl rfl ?_
        refine S_dup (pc := 11) dX12_holdsBack_11 rfl ?_
        refine S_get (pc := 12) (v := .int ((up2 f59 (B + 21) (f59 B 39).toNatClampNeg (nI 32)) B 39)) dX12_holdsBack_12 flX12_131 (sM_0 hs) rfl ?_
        refine S_eqi (x := f59 B 39) ((up2_r (by omega)).trans rfl) ?_
        refine S_iconst (pc := 15) dX12_holdsBack_15 ic1 ?_
        refine S_iadd (pc := 16) dX12_holdsBack_16 ?_
        refine S_putI (pc := 17) dX12_holdsBack_17 flX12_131 (sM_0 hs) hs.2.2 (nf_12_39) rfl rfl (fun _ => rfl) ?_
        refine S_vreturn dX12_holdsBack_20 rfl ?_
        show WP _ _ _ _ _ _ _ 177 [some (.ref B), none, none, none, none] [] (sh, (up2 (up2 f59 (B + 21) (f59 B 39).toNatClampNeg (nI 32)) B 39 ((f59 B 39) + (nI 1))), g60, fR)
        refine S_aload_n (pc := 177) dX12_goesOn_177 rfl rfl ?_
        refine S_callV (As := []) (mc := 0) (ms := 0) (pc := 178) dX12_goesOn_178 miX12_ahead mvX12_ahead mlX12_249 rfl (sM_0 hs) rfl rfl rfl (RmOK.of rfl) H ?_
        rintro _ _ ⟨f81, g82, rfl, rfl, H⟩
        show WP _ _ _ _ _ _ _ 181 [some (.ref B), none, none, none, none] [] (sh, f81, g82, fR)
        refine S_aload_n (pc := 181) dX12_goesOn_181 rfl rfl ?_
        refine S_iconst (pc := 182) dX12_goesOn_182 ic0 ?_
        refine S_putI (pc := 183) dX12_goesOn_183 flX12_134 (sM_0 hs) hs.2.2 (nf_12_40) nb0 rfl (fun _ => rfl) ?_
        refine S_iconst (pc := 186) dX12_goesOn_186 ic1 ?_
        exact S_zreturn dX12_goesOn_187 rfl (Or.inr rfl) H
    · replace H := H.2 hc58
      refine S_bipush (pc := 125) dX12_goesOn_125 bp31 ?_
      refine S_goto (pc := 127) (tgt := 174) dX12_goesOn_127 rfl ?_
      refine S_callV (As := [.int (nI 31)]) (mc := 0) (ms := 0) (pc := 174) dX12_goesOn_174 miX12_holdsBack mvX12_holdsBack mlX12_330 rfl (sM_0 hs) rfl rfl rfl (RmOK.of rfl) (Q := fun r h => WP _ _ _ _ _ _ _ 177 [some (.ref B), none, none, none, none] (r.toList ++ []) h) (Cl.of miX12_holdsBack rfl rfl ?_) (fun _ _ q => q)
      refine S_aload_n (pc := 0) dX12_holdsBack_0 rfl rfl ?_
      refine S_getR (pc := 1) dX12_holdsBack_1 flX12_128 (sM_0 hs) rfl (rM_38 hs) ?_
      refine S_aload_n (pc := 4) dX12_holdsBack_4 rfl rfl ?_
      refine S_get (pc := 5) (v := .int (f55 B 39)) dX12_holdsBack_5 flX12_131 (sM_0 hs) rfl ?_
      refine S_iload_n (pc := 8) dX12_holdsBack_8 rfl rfl ?_
      obtain ⟨hb83, H⟩ := H
      refine S_iast (pc := 9) dX12_holdsBack_9 (sM_21 hs) (Nat.succ_pos _) hb83 ?_
      refine S_aload_n (pc := 10) dX12_holdsBack_10 rfl rfl ?_
      refine S_dup (pc := 11) dX12_holdsBack_11 rfl ?_
      refine S_get (pc := 12) (v := .int ((up2 f55 (B + 21) (f55 B 39).toNatClampNeg (nI 31)) B 39)) dX12_holdsBack_12 flX12_131 (sM_0 hs) rfl ?_
      refine S_eqi (x := f55 B 39) ((up2_r (by omega)).trans rfl) ?_
      refine S_iconst (pc := 15) dX12_holdsBack_15 ic1 ?_
      refine S_iadd (pc := 16) dX12_holdsBack_16 ?_
      refine S_putI (pc := 17) dX12_holdsBack_17 flX12_131 (sM_0 hs) hs.2.2 (nf_12_39) rfl rfl (fun _ => rfl) ?_
      refine S_vreturn dX12_holdsBack_20 rfl ?_
      show WP _ _ _ _ _ _ _ 177 [some (.ref B), none, none, none, none] [] (sh, (up2 (up2 f55 (B + 21) (f55 B 39).toNatClampNeg (nI 31)) B 39 ((f55 B 39) + (nI 1))), g56, fR)
      refine S_aload_n (pc := 177) dX12_goesOn_177 rfl rfl ?_
      refine S_callV (As := []) (mc := 0) (ms := 0) (pc := 178) dX12_goesOn_178 miX12_ahead mvX12_ahead mlX12_249 rfl (sM_0 hs) rfl rfl rfl (RmOK.of rfl) H ?_
      rintro _ _ ⟨f84, g85, rfl, rfl, H⟩
      show WP _ _ _ _ _ _ _ 181 [some (.ref B), none, none, none, none] [] (sh, f84, g85, fR)
      refine S_aload_n (pc := 181) dX12_goesOn_181 rfl rfl ?_
      refine S_iconst (pc := 182) dX12_goesOn_182 ic0 ?_
      refine S_putI (pc := 183) dX12_goesOn_183 flX12_134 (sM_0 hs) hs.2.2 (nf_12_40) nb0 rfl (fun _ => rfl) ?_
      refine S_iconst (pc := 186) dX12_goesOn_186 ic1 ?_
      exact S_zreturn dX12_goesOn_187 rfl (Or.inr rfl) H
  · replace H := H.2 hc52
    refine S_aload_n (pc := 97) dX12_goesOn_97 rfl rfl ?_
    refine S_bipush (pc := 98) dX12_goesOn_98 bp45 ?_
    refine S_callV (As := [.int (nI 45)]) (mc := 0) (ms := 0) (pc := 100) dX12_goesOn_100 miX12_isSign mvX12_isSign mlX12_246 rfl (sM_0 hs) rfl rfl rfl (RmOK.of rfl) H ?_
    rintro _ _ ⟨x88, f86, g87, rfl, rfl, H⟩
    show WP _ _ _ _ _ _ _ 103 [some (.ref B), none, none, none, none] [.int x88, .ref B] (sh, f86, g87, fR)
    refine S_if_eq (pc := 103) (tgt := 110) dX12_goesOn_103 rfl (fun hc89 => ?_) (fun hc89 => ?_)
    · replace H := H.1 hc89
      refine S_bipush (pc := 110) dX12_goesOn_110 bp6 ?_
      refine S_callV (As := [.int (nI 6)]) (mc := 0) (ms := 0) (pc := 112) dX12_goesOn_112 miX12_joins mvX12_joins mlX12_343 rfl (sM_0 hs) rfl rfl rfl (RmOK.of rfl) H ?_
      rintro _ _ ⟨f90, g91, rfl, rfl, H⟩
      show WP _ _ _ _ _ _ _ 115 [some (.ref B), none, none, none, none] [] (sh, f90, g91, fR)
      refine S_aload_n (pc := 115) dX12_goesOn_115 rfl rfl ?_
      refine S_aload_n (pc := 116) dX12_goesOn_116 rfl rfl ?_
      refine S_bipush (pc := 117) dX12_goesOn_117 bp43 ?_
      refine S_callV (As := [.int (nI 43)]) (mc := 0) (ms := 0) (pc := 119) dX12_goesOn_119 miX12_isSign mvX12_isSign mlX12_246 rfl (sM_0 hs) rfl rfl rfl (RmOK.of rfl) H ?_
      rintro _ _ ⟨x94, f92, g93, rfl, rfl, H⟩
      show WP _ _ _ _ _ _ _ 122 [some (.ref B), none, none, none, none] [.int x94, .ref B] (sh, f92, g93, fR)
      refine S_if_eq (pc := 122) (tgt := 130) dX12_goesOn_122 rfl (fun hc95 => ?_) (fun hc95 => ?_)
      · replace H := H.1 hc95
        refine S_aload_n (pc := 130) dX12_goesOn_130 rfl rfl ?_
        refine S_bipush (pc := 131) dX12_goesOn_131 bp45 ?_
        refine S_callV (As := [.int (nI 45)]) (mc := 0) (ms := 0) (pc := 133) dX12_goesOn_133 miX12_isSign mvX12_isSign mlX12_246 rfl (sM_0 hs) rfl rfl rfl (RmOK.of rfl) H ?_
        rintro _ _ ⟨x98, f96, g97, rfl, rfl, H⟩
        show WP _ _ _ _ _ _ _ 136 [some (.ref B), none, none, none, none] [.int x98, .ref B] (sh, f96, g97, fR)
        refine S_if_eq (pc := 136) (tgt := 144) dX12_goesOn_136 rfl (fun hc99 => ?_) (fun hc99 => ?_)
        · replace H := H.1 hc99
          refine S_aload_n (pc := 144) dX12_goesOn_144 rfl rfl ?_
          refine S_bipush (pc := 145) dX12_goesOn_145 bp42 ?_
          refine S_callV (As := [.int (nI 42)]) (mc := 0) (ms := 0) (pc := 147) dX12_goesOn_147 miX12_isSign mvX12_isSign mlX12_246 rfl (sM_0 hs) rfl rfl rfl (RmOK.of rfl) H ?_
          rintro _ _ ⟨x102, f100, g101, rfl, rfl, H⟩
          show WP _ _ _ _ _ _ _ 150 [some (.ref B), none, none, none, none] [.int x102, .ref B] (sh, f100, g101, fR)
          refine S_if_eq (pc := 150) (tgt := 158) dX12_goesOn_150 rfl (fun hc103 => ?_) (fun hc103 => ?_)
          · replace H := H.1 hc103
            refine S_aload_n (pc := 158) dX12_goesOn_158 rfl rfl ?_
            refine S_bipush (pc := 159) dX12_goesOn_159 bp47 ?_
            refine S_callV (As := [.int (nI 47)]) (mc := 0) (ms := 0) (pc := 161) dX12_goesOn_161 miX12_isSign mvX12_isSign mlX12_246 rfl (sM_0 hs) rfl rfl rfl (RmOK.of rfl) H ?_
            rintro _ _ ⟨x106, f104, g105, rfl, rfl, H⟩
            show WP _ _ _ _ _ _ _ 164 [some (.ref B), none, none, none, none] [.int x106, .ref B] (sh, f104, g105, fR)
            refine S_if_eq (pc := 164) (tgt := 172) dX12_goesOn_164 rfl (fun hc107 => ?_) (fun hc107 => ?_)
            · replace H := H.1 hc107
              refine S_bipush (pc := 172) dX12_goesOn_172 bp35 ?_
              refine S_callV (As := [.int (nI 35)]) (mc := 0) (ms := 0) (pc := 174) dX12_goesOn_174 miX12_holdsBack mvX12_holdsBack mlX12_330 rfl (sM_0 hs) rfl rfl rfl (RmOK.of rfl) (Q := fun r h => WP _ _ _ _ _ _ _ 177 [some (.ref B), none, none, none, none] (r.toList ++ []) h) (Cl.of miX12_holdsBack rfl rfl ?_) (fun _ _ q => q)
              refine S_aload_n (pc := 0) dX12_holdsBack_0 rfl rfl ?_
              refine S_getR (pc := 1) dX12_holdsBack_1 flX12_128 (sM_0 hs) rfl (rM_38 hs) ?_
              refine S_aload_n (pc := 4) dX12_holdsBack_4 rfl rfl ?_
              refine S_get (pc := 5) (v := .int (f104 B 39)) dX12_holdsBack_5 flX12_131 (sM_0 hs) rfl ?_
              refine S_iload_n (pc := 8) dX12_holdsBack_8 rfl rfl ?_
              obtain ⟨hb108, H⟩ := H
              refine S_iast (pc := 9) dX12_holdsBack_9 (sM_21 hs) (Nat.succ_pos _) hb108 ?_
              refine S_aload_n (pc := 10) dX12_holdsBack_10 rfl rfl ?_
              refine S_dup (pc := 11) dX12_holdsBack_11 rfl ?_
              refine S_get (pc := 12) (v := .int ((up2 f104 (B + 21) (f104 B 39).toNatClampNeg (nI 35)) B 39)) dX12_holdsBack_12 flX12_131 (sM_0 hs) rfl ?_
              refine S_eqi (x := f104 B 39) ((up2_r (by omega)).trans rfl) ?_
              refine S_iconst (pc := 15) dX12_holdsBack_15 ic1 ?_
              refine S_iadd (pc := 16) dX12_holdsBack_16 ?_
              refine S_putI (pc := 17) dX12_holdsBack_17 flX12_131 (sM_0 hs) hs.2.2 (nf_12_39) rfl rfl (fun _ => rfl) ?_
              refine S_vreturn dX12_holdsBack_20 rfl ?_
              show WP _ _ _ _ _ _ _ 177 [some (.ref B), none, none, none, none] [] (sh, (up2 (up2 f104 (B + 21) (f104 B 39).toNatClampNeg (nI 35)) B 39 ((f104 B 39) + (nI 1))), g105, fR)
              refine S_aload_n (pc := 177) dX12_goesOn_177 rfl rfl ?_
              refine S_callV (As := []) (mc := 0) (ms := 0) (pc := 178) dX12_goesOn_178 miX12_ahead mvX12_ahead mlX12_249 rfl (sM_0 hs) rfl rfl rfl (RmOK.of rfl) H ?_
              rintro _ _ ⟨f109, g110, rfl, rfl, H⟩
              show WP _ _ _ _ _ _ _ 181 [some (.ref B), none, none, none, none] [] (sh, f109, g110, fR)
              refine S_aload_n (pc := 181) dX12_goesOn_181 rfl rfl ?_
              refine S_iconst (pc := 182) dX12_goesOn_182 ic0 ?_
              refine S_putI (pc := 183) dX12_goesOn_183 flX12_134 (sM_0 hs) hs.2.2 (nf_12_40) nb0 rfl (fun _ => rfl) ?_
              refine S_iconst (pc := 186) dX12_goesOn_186 ic1 ?_
              exact S_zreturn dX12_goesOn_187 rfl (Or.inr rfl) H
            · replace H := H.2 hc107
              refine S_bipush (pc := 167) dX12_goesOn_167 bp34 ?_
              refine S_goto (pc := 169) (tgt := 174) dX12_goesOn_169 rfl ?_
              refine S_callV (As := [.int (nI 34)]) (mc := 0) (ms := 0) (pc := 174) dX12_goesOn_174 miX12_holdsBack mvX12_holdsBack mlX12_330 rfl (sM_0 hs) rfl rfl rfl (RmOK.of rfl) (Q := fun r h => WP _ _ _ _ _ _ _ 177 [some (.ref B), none, none, none, none] (r.toList ++ []) h) (Cl.of miX12_holdsBack rfl rfl ?_) (fun _ _ q => q)
              refine S_aload_n (pc := 0) dX12_holdsBack_0 rfl rfl ?_
              refine S_getR (pc := 1) dX12_holdsBack_1 flX12_128 (sM_0 hs) rfl (rM_38 hs) ?_
              refine S_aload_n (pc := 4) dX12_holdsBack_4 rfl rfl ?_
              refine S_get (pc := 5) (v := .int (f104 B 39)) dX12_holdsBack_5 flX12_131 (sM_0 hs) rfl ?_
              refine S_iload_n (pc := 8) dX12_holdsBack_8 rfl rfl ?_
              obtain ⟨hb111, H⟩ := H
              refine S_iast (pc := 9) dX12_holdsBack_9 (sM_21 hs) (Nat.succ_pos _) hb111 ?_
              refine S_aload_n (pc := 10) dX12_holdsBack_10 rfl rfl ?_
              refine S_dup (pc := 11) dX12_holdsBack_11 rfl ?_
              refine S_get (pc := 12) (v := .int ((up2 f104 (B + 21) (f104 B 39).toNatClampNeg (nI 34)) B 39)) dX12_holdsBack_12 flX12_131 (sM_0 hs) rfl ?_
              refine S_eqi (x := f104 B 39) ((up2_r (by omega)).trans rfl) ?_
              refine S_iconst (pc := 15) dX12_holdsBack_15 ic1 ?_
              refine S_iadd (pc := 16) dX12_holdsBack_16 ?_
              refine S_putI (pc := 17) dX12_holdsBack_17 flX12_131 (sM_0 hs) hs.2.2 (nf_12_39) rfl rfl (fun _ => rfl) ?_
              refine S_vreturn dX12_holdsBack_20 rfl ?_
              show WP _ _ _ _ _ _ _ 177 [some (.ref B), none, none, none, none] [] (sh, (up2 (up2 f104 (B + 21) (f104 B 39).toNatClampNeg (nI 34)) B 39 ((f104 B 39) + (nI 1))), g105, fR)
              refine S_aload_n (pc := 177) dX12_goesOn_177 rfl rfl ?_
              refine S_callV (As := []) (mc := 0) (ms := 0) (pc := 178) dX12_goesOn_178 miX12_ahead mvX12_ahead mlX12_249 rfl (sM_0 hs) rfl rfl rfl (RmOK.of rfl) H ?_
              rintro _ _ ⟨f112, g113, rfl, rfl, H⟩
              show WP _ _ _ _ _ _ _ 181 [some (.ref B), none, none, none, none] [] (sh, f112, g113, fR)
              refine S_aload_n (pc := 181) dX12_goesOn_181 rfl rfl ?_
              refine S_iconst (pc := 182) dX12_goesOn_182 ic0 ?_
              refine S_putI (pc := 183) dX12_goesOn_183 flX12_134 (sM_0 hs) hs.2.2 (nf_12_40) nb0 rfl (fun _ => rfl) ?_
              refine S_iconst (pc := 186) dX12_goesOn_186 ic1 ?_
              exact S_zreturn dX12_goesOn_187 rfl (Or.inr rfl) H
          · replace H := H.2 hc103
            refine S_bipush (pc := 153) dX12_goesOn_153 bp33 ?_
            refine S_goto (pc := 155) (tgt := 174) dX12_goesOn_155 rfl ?_
            refine S_callV (As := [.int (nI 33)]) (mc := 0) (ms := 0) (pc := 174) dX12_goesOn_174 miX12_holdsBack mvX12_holdsBack mlX12_330 rfl (sM_0 hs) rfl rfl rfl (RmOK.of rfl) (Q := fun r h => WP _ _ _ _ _ _ _ 177 [some (.ref B), none, none, none, none] (r.toList ++ []) h) (Cl.of miX12_holdsBack rfl rfl ?_) (fun _ _ q => q)
            refine S_aload_n (pc := 0) dX12_holdsBack_0 rfl rfl ?_
            refine S_getR (pc := 1) dX12_holdsBack_1 flX12_128 (sM_0 hs) rfl (rM_38 hs) ?_
            refine S_aload_n (pc := 4) dX12_holdsBack_4 rfl rfl ?_
            refine S_get (pc := 5) (v := .int (f100 B 39)) dX12_holdsBack_5 flX12_131 (sM_0 hs) rfl ?_
            refine S_iload_n (pc := 8) dX12_holdsBack_8 rfl rfl ?_
            obtain ⟨hb114, H⟩ := H
            refine S_iast (pc := 9) dX12_holdsBack_9 (sM_21 hs) (Nat.succ_pos _) hb114 ?_
            refine S_aload_n (pc := 10) dX12_holdsBack_10 rfl rfl ?_
            refine S_dup (pc := 11) dX12_holdsBack_11 rfl ?_
            refine S_get (pc := 12) (v := .int ((up2 f100 (B + 21) (f100 B 39).toNatClampNeg (nI 33)) B 39)) dX12_holdsBack_12 flX12_131 (sM_0 hs) rfl ?_
            refine S_eqi (x := f100 B 39) ((up2_r (by omega)).trans rfl) ?_
            refine S_iconst (pc := 15) dX12_holdsBack_15 ic1 ?_
            refine S_iadd (pc := 16) dX12_holdsBack_16 ?_
            refine S_putI (pc := 17) dX12_holdsBack_17 flX12_131 (sM_0 hs) hs.2.2 (nf_12_39) rfl rfl (fun _ => rfl) ?_
            refine S_vreturn dX12_holdsBack_20 rfl ?_
            show WP _ _ _ _ _ _ _ 177 [some (.ref B), none, none, none, none] [] (sh, (up2 (up2 f100 (B + 21) (f100 B 39).toNatClampNeg (nI 33)) B 39 ((f100 B 39) + (nI 1))), g101, fR)
            refine S_aload_n (pc := 177) dX12_goesOn_177 rfl rfl ?_
            refine S_callV (As := []) (mc := 0) (ms := 0) (pc := 178) dX12_goesOn_178 miX12_ahead mvX12_ahead mlX12_249 rfl (sM_0 hs) rfl rfl rfl (RmOK.of rfl) H ?_
            rintro _ _ ⟨f115, g116, rfl, rfl, H⟩
            show WP _ _ _ _ _ _ _ 181 [some (.ref B), none, none, none, none] [] (sh, f115, g116, fR)
            refine S_aload_n (pc := 181) dX12_goesOn_181 rfl rfl ?_
            refine S_iconst (pc := 182) dX12_goesOn_182 ic0 ?_
            refine S_putI (pc := 183) dX12_goesOn_183 flX12_134 (sM_0 hs) hs.2.2 (nf_12_40) nb0 rfl (fun _ => rfl) ?_
            refine S_iconst (pc := 186) dX12_goesOn_186 ic1 ?_
            exact S_zreturn dX12_goesOn_187 rfl (Or.inr rfl) H
        · replace H := H.2 hc99
          refine S_bipush (pc := 139) dX12_goesOn_139 bp32 ?_
          refine S_goto (pc := 141) (tgt := 174) dX12_goesOn_141 rfl ?_
          refine S_callV (As := [.int (nI 32)]) (mc := 0) (ms := 0) (pc := 174) dX12_goesOn_174 miX12_holdsBack mvX12_holdsBack mlX12_330 rfl (sM_0 hs) rfl rfl rfl (RmOK.of rfl) (Q := fun r h => WP _ _ _ _ _ _ _ 177 [some (.ref B), none, none, none, none] (r.toList ++ []) h) (Cl.of miX12_holdsBack rfl rfl ?_) (fun _ _ q => q)
          refine S_aload_n (pc := 0) dX12_holdsBack_0 rfl rfl ?_
          refine S_getR (pc := 1) dX12_holdsBack_1 flX12_128 (sM_0 hs) rfl (rM_38 hs) ?_
          refine S_aload_n (pc := 4) dX12_holdsBack_4 rfl rfl ?_
          refine S_get (pc := 5) (v := .int (f96 B 39)) dX12_holdsBack_5 flX12_131 (sM_0 hs) rfl ?_
          refine S_iload_n (pc := 8) dX12_holdsBack_8 rfl rfl ?_
          obtain ⟨hb117, H⟩ := H
          refine S_iast (pc := 9) dX12_holdsBack_9 (sM_21 hs) (Nat.succ_pos _) hb117 ?_
          refine S_aload_n (pc := 10) dX12_holdsBack_10 rfl rfl ?_
          refine S_dup (pc := 11) dX12_holdsBack_11 rfl ?_
          refine S_get (pc := 12) (v := .int ((up2 f96 (B + 21) (f96 B 39).toNatClampNeg (nI 32)) B 39)) dX12_holdsBack_12 flX12_131 (sM_0 hs) rfl ?_
          refine S_eqi (x := f96 B 39) ((up2_r (by omega)).trans rfl) ?_
          refine S_iconst (pc := 15) dX12_holdsBack_15 ic1 ?_
          refine S_iadd (pc := 16) dX12_holdsBack_16 ?_
          refine S_putI (pc := 17) dX12_holdsBack_17 flX12_131 (sM_0 hs) hs.2.2 (nf_12_39) rfl rfl (fun _ => rfl) ?_
          refine S_vreturn dX12_holdsBack_20 rfl ?_
          show WP _ _ _ _ _ _ _ 177 [some (.ref B), none, none, none, none] [] (sh, (up2 (up2 f96 (B + 21) (f96 B 39).toNatClampNeg (nI 32)) B 39 ((f96 B 39) + (nI 1))), g97, fR)
          refine S_aload_n (pc := 177) dX12_goesOn_177 rfl rfl ?_
          refine S_callV (As := []) (mc := 0) (ms := 0) (pc := 178) dX12_goesOn_178 miX12_ahead mvX12_ahead mlX12_249 rfl (sM_0 hs) rfl rfl rfl (RmOK.of rfl) H ?_
          rintro _ _ ⟨f118, g119, rfl, rfl, H⟩
          show WP _ _ _ _ _ _ _ 181 [some (.ref B), none, none, none, none] [] (sh, f118, g119, fR)
          refine S_aload_n (pc := 181) dX12_goesOn_181 rfl rfl ?_
          refine S_iconst (pc := 182) dX12_goesOn_182 ic0 ?_
          refine S_putI (pc := 183) dX12_goesOn_183 flX12_134 (sM_0 hs) hs.2.2 (nf_12_40) nb0 rfl (fun _ => rfl) ?_
          refine S_iconst (pc := 186) dX12_goesOn_186 ic1 ?_
          exact S_zreturn dX12_goesOn_187 rfl (Or.inr rfl) H
      · replace H := H.2 hc95
        refine S_bipush (pc := 125) dX12_goesOn_125 bp31 ?_
        refine S_goto (pc := 127) (tgt := 174) dX12_goesOn_127 rfl ?_
        refine S_callV (As := [.int (nI 31)]) (mc := 0) (ms := 0) (pc := 174) dX12_goesOn_174 miX12_holdsBack mvX12_holdsBack mlX12_330 rfl (sM_0 hs) rfl rfl rfl (RmOK.of rfl) (Q := fun r h => WP _ _ _ _ _ _ _ 177 [some (.ref B), none, none, none, none] (r.toList ++ []) h) (Cl.of miX12_holdsBack rfl rfl ?_) (fun _ _ q => q)
        refine S_aload_n (pc := 0) dX12_holdsBack_0 rfl rfl ?_
        refine S_getR (pc := 1) dX12_holdsBack_1 flX12_128 (sM_0 hs) rfl (rM_38 hs) ?_
        refine S_aload_n (pc := 4) dX12_holdsBack_4 rfl rfl ?_
        refine S_get (pc := 5) (v := .int (f92 B 39)) dX12_holdsBack_5 flX12_131 (sM_0 hs) rfl ?_
        refine S_iload_n (pc := 8) dX12_holdsBack_8 rfl rfl ?_
        obtain ⟨hb120, H⟩ := H
        refine S_iast (pc := 9) dX12_holdsBack_9 (sM_21 hs) (Nat.succ_pos _) hb120 ?_
        refine S_aload_n (pc := 10) dX12_holdsBack_10 rfl rfl ?_
        refine S_dup (pc := 11) dX12_holdsBack_11 rfl ?_
        refine S_get (pc := 12) (v := .int ((up2 f92 (B + 21) (f92 B 39).toNatClampNeg (nI 31)) B 39)) dX12_holdsBack_12 flX12_131 (sM_0 hs) rfl ?_
        refine S_eqi (x := f92 B 39) ((up2_r (by omega)).trans rfl) ?_
        refine S_iconst (pc := 15) dX12_holdsBack_15 ic1 ?_
        refine S_iadd (pc := 16) dX12_holdsBack_16 ?_
        refine S_putI (pc := 17) dX12_holdsBack_17 flX12_131 (sM_0 hs) hs.2.2 (nf_12_39) rfl rfl (fun _ => rfl) ?_
        refine S_vreturn dX12_holdsBack_20 rfl ?_
        show WP _ _ _ _ _ _ _ 177 [some (.ref B), none, none, none, none] [] (sh, (up2 (up2 f92 (B + 21) (f92 B 39).toNatClampNeg (nI 31)) B 39 ((f92 B 39) + (nI 1))), g93, fR)
        refine S_aload_n (pc := 177) dX12_goesOn_177 rfl rfl ?_
        refine S_callV (As := []) (mc := 0) (ms := 0) (pc := 178) dX12_goesOn_178 miX12_ahead mvX12_ahead mlX12_249 rfl (sM_0 hs) rfl rfl rfl (RmOK.of rfl) H ?_
        rintro _ _ ⟨f121, g122, rfl, rfl, H⟩
        show WP _ _ _ _ _ _ _ 181 [some (.ref B), none, none, none, none] [] (sh, f121, g122, fR)
        refine S_aload_n (pc := 181) dX12_goesOn_181 rfl rfl ?_
        refine S_iconst (pc := 182) dX12_goesOn_182 ic0 ?_
        refine S_putI (pc := 183) dX12_goesOn_183 flX12_134 (sM_0 hs) hs.2.2 (nf_12_40) nb0 rfl (fun _ => rfl) ?_
        refine S_iconst (pc := 186) dX12_goesOn_186 ic1 ?_
        exact S_zreturn dX12_goesOn_187 rfl (Or.inr rfl) H
    · replace H := H.2 hc89
      refine S_iconst (pc := 106) dX12_goesOn_106 ic5 ?_
      refine S_goto (pc := 107) (tgt := 112) dX12_goesOn_107 rfl ?_
      refine S_callV (As := [.int (nI 5)]) (mc := 0) (ms := 0) (pc := 112) dX12_goesOn_112 miX12_joins mvX12_joins mlX12_343 rfl (sM_0 hs) rfl rfl rfl (RmOK.of rfl) H ?_
      rintro _ _ ⟨f123, g124, rfl, rfl, H⟩
      show WP _ _ _ _ _ _ _ 115 [some (.ref B), none, none, none, none] [] (sh, f123, g124, fR)
      refine S_aload_n (pc := 115) dX12_goesOn_115 rfl rfl ?_
      refine S_aload_n (pc := 116) dX12_goesOn_116 rfl rfl ?_
      refine S_bipush (pc := 117) dX12_goesOn_117 bp43 ?_
      refine S_callV (As := [.int (nI 43)]) (mc := 0) (ms := 0) (pc := 119) dX12_goesOn_119 miX12_isSign mvX12_isSign mlX12_246 rfl (sM_0 hs) rfl rfl rfl (RmOK.of rfl) H ?_
      rintro _ _ ⟨x127, f125, g126, rfl, rfl, H⟩
      show WP _ _ _ _ _ _ _ 122 [some (.ref B), none, none, none, none] [.int x127, .ref B] (sh, f125, g126, fR)
      refine S_if_eq (pc := 122) (tgt := 130) dX12_goesOn_122 rfl (fun hc128 => ?_) (fun hc128 => ?_)
      · replace H := H.1 hc128
        refine S_aload_n (pc := 130) dX12_goesOn_130 rfl rfl ?_
        refine S_bipush (pc := 131) dX12_goesOn_131 bp45 ?_
        refine S_callV (As := [.int (nI 45)]) (mc := 0) (ms := 0) (pc := 133) dX12_goesOn_133 miX12_isSign mvX12_isSign mlX12_246 rfl (sM_0 hs) rfl rfl rfl (RmOK.of rfl) H ?_
        rintro _ _ ⟨x131, f129, g130, rfl, rfl, H⟩
        show WP _ _ _ _ _ _ _ 136 [some (.ref B), none, none, none, none] [.int x131, .ref B] (sh, f129, g130, fR)
        refine S_if_eq (pc := 136) (tgt := 144) dX12_goesOn_136 rfl (fun hc132 => ?_) (fun hc132 => ?_)
        · replace H := H.1 hc132
          refine S_aload_n (pc := 144) dX12_goesOn_144 rfl rfl ?_
          refine S_bipush (pc := 145) dX12_goesOn_145 bp42 ?_
          refine S_callV (As := [.int (nI 42)]) (mc := 0) (ms := 0) (pc := 147) dX12_goesOn_147 miX12_isSign mvX12_isSign mlX12_246 rfl (sM_0 hs) rfl rfl rfl (RmOK.of rfl) H ?_
          rintro _ _ ⟨x135, f133, g134, rfl, rfl, H⟩
          show WP _ _ _ _ _ _ _ 150 [some (.ref B), none, none, none, none] [.int x135, .ref B] (sh, f133, g134, fR)
          refine S_if_eq (pc := 150) (tgt := 158) dX12_goesOn_150 rfl (fun hc136 => ?_) (fun hc136 => ?_)
          · replace H := H.1 hc136
            refine S_aload_n (pc := 158) dX12_goesOn_158 rfl rfl ?_
            refine S_bipush (pc := 159) dX12_goesOn_159 bp47 ?_
            refine S_callV (As := [.int (nI 47)]) (mc := 0) (ms := 0) (pc := 161) dX12_goesOn_161 miX12_isSign mvX12_isSign mlX12_246 rfl (sM_0 hs) rfl rfl rfl (RmOK.of rfl) H ?_
            rintro _ _ ⟨x139, f137, g138, rfl, rfl, H⟩
            show WP _ _ _ _ _ _ _ 164 [some (.ref B), none, none, none, none] [.int x139, .ref B] (sh, f137, g138, fR)
            refine S_if_eq (pc := 164) (tgt := 172) dX12_goesOn_164 rfl (fun hc140 => ?_) (fun hc140 => ?_)
            · replace H := H.1 hc140
              refine S_bipush (pc := 172) dX12_goesOn_172 bp35 ?_
              refine S_callV (As := [.int (nI 35)]) (mc := 0) (ms := 0) (pc := 174) dX12_goesOn_174 miX12_holdsBack mvX12_holdsBack mlX12_330 rfl (sM_0 hs) rfl rfl rfl (RmOK.of rfl) (Q := fun r h => WP _ _ _ _ _ _ _ 177 [some (.ref B), none, none, none, none] (r.toList ++ []) h) (Cl.of miX12_holdsBack rfl rfl ?_) (fun _ _ q => q)
              refine S_aload_n (pc := 0) dX12_holdsBack_0 rfl rfl ?_
              refine S_getR (pc := 1) dX12_holdsBack_1 flX12_128 (sM_0 hs) rfl (rM_38 hs) ?_
              refine S_aload_n (pc := 4) dX12_holdsBack_4 rfl rfl ?_
              refine S_get (pc := 5) (v := .int (f137 B 39)) dX12_holdsBack_5 flX12_131 (sM_0 hs) rfl ?_
              refine S_iload_n (pc := 8) dX12_holdsBack_8 rfl rfl ?_
              obtain ⟨hb141, H⟩ := H
              refine S_iast (pc := 9) dX12_holdsBack_9 (sM_21 hs) (Nat.succ_pos _) hb141 ?_
              refine S_aload_n (pc := 10) dX12_holdsBack_10 rfl rfl ?_
              refine S_dup (pc := 11) dX12_holdsBack_11 rfl ?_
              refine S_get (pc := 12) (v := .int ((up2 f137 (B + 21) (f137 B 39).toNatClampNeg (nI 35)) B 39)) dX12_holdsBack_12 flX12_131 (sM_0 hs) rfl ?_
              refine S_eqi (x := f137 B 39) ((up2_r (by omega)).trans rfl) ?_
              refine S_iconst (pc := 15) dX12_holdsBack_15 ic1 ?_
              refine S_iadd (pc := 16) dX12_holdsBack_16 ?_
              refine S_putI (pc := 17) dX12_holdsBack_17 flX12_131 (sM_0 hs) hs.2.2 (nf_12_39) rfl rfl (fun _ => rfl) ?_
              refine S_vreturn dX12_holdsBack_20 rfl ?_
              show WP _ _ _ _ _ _ _ 177 [some (.ref B), none, none, none, none] [] (sh, (up2 (up2 f137 (B + 21) (f137 B 39).toNatClampNeg (nI 35)) B 39 ((f137 B 39) + (nI 1))), g138, fR)
              refine S_aload_n (pc := 177) dX12_goesOn_177 rfl rfl ?_
              refine S_callV (As := []) (mc := 0) (ms := 0) (pc := 178) dX12_goesOn_178 miX12_ahead mvX12_ahead mlX12_249 rfl (sM_0 hs) rfl rfl rfl (RmOK.of rfl) H ?_
              rintro _ _ ⟨f142, g143, rfl, rfl, H⟩
              show WP _ _ _ _ _ _ _ 181 [some (.ref B), none, none, none, none] [] (sh, f142, g143, fR)
              refine S_aload_n (pc := 181) dX12_goesOn_181 rfl rfl ?_
              refine S_iconst (pc := 182) dX12_goesOn_182 ic0 ?_
              refine S_putI (pc := 183) dX12_goesOn_183 flX12_134 (sM_0 hs) hs.2.2 (nf_12_40) nb0 rfl (fun _ => rfl) ?_
              refine S_iconst (pc := 186) dX12_goesOn_186 ic1 ?_
              exact S_zreturn dX12_goesOn_187 rfl (Or.inr rfl) H
            · replace H := H.2 hc140
              refine S_bipush (pc := 167) dX12_goesOn_167 bp34 ?_
              refine S_goto (pc := 169) (tgt := 174) dX12_goesOn_169 rfl ?_
              refine S_callV (As := [.int (nI 34)]) (mc := 0) (ms := 0) (pc := 174) dX12_goesOn_174 miX12_holdsBack mvX12_holdsBack mlX12_330 rfl (sM_0 hs) rfl rfl rfl (RmOK.of rfl) (Q := fun r h => WP _ _ _ _ _ _ _ 177 [some (.ref B), none, none, none, none] (r.toList ++ []) h) (Cl.of miX12_holdsBack rfl rfl ?_) (fun _ _ q => q)
              refine S_aload_n (pc := 0) dX12_holdsBack_0 rfl rfl ?_
              refine S_getR (pc := 1) dX12_holdsBack_1 flX12_128 (sM_0 hs) rfl (rM_38 hs) ?_
              refine S_aload_n (pc := 4) dX12_holdsBack_4 rfl rfl ?_
              refine S_get (pc := 5) (v := .int (f137 B 39)) dX12_holdsBack_5 flX12_131 (sM_0 hs) rfl ?_
              refine S_iload_n (pc := 8) dX12_holdsBack_8 rfl rfl ?_
              obtain ⟨hb144, H⟩ := H
              refine S_iast (pc := 9) dX12_holdsBack_9 (sM_21 hs) (Nat.succ_pos _) hb144 ?_
              refine S_aload_n (pc := 10) dX12_holdsBack_10 rfl rfl ?_
              refine S_dup (pc := 11) dX12_holdsBack_11 rfl ?_
              refine S_get (pc := 12) (v := .int ((up2 f137 (B + 21) (f137 B 39).toNatClampNeg (nI 34)) B 39)) dX12_holdsBack_12 flX12_131 (sM_0 hs) rfl ?_
              refine S_eqi (x := f137 B 39) ((up2_r (by omega)).trans rfl) ?_
              refine S_iconst (pc := 15) dX12_holdsBack_15 ic1 ?_
              refine S_iadd (pc := 16) dX12_holdsBack_16 ?_
              refine S_putI (pc := 17) dX12_holdsBack_17 flX12_131 (sM_0 hs) hs.2.2 (nf_12_39) rfl rfl (fun _ => rfl) ?_
              refine S_vreturn dX12_holdsBack_20 rfl ?_
              show WP _ _ _ _ _ _ _ 177 [some (.ref B), none, none, none, none] [] (sh, (up2 (up2 f137 (B + 21) (f137 B 39).toNatClampNeg (nI 34)) B 39 ((f137 B 39) + (nI 1))), g138, fR)
              refine S_aload_n (pc := 177) dX12_goesOn_177 rfl rfl ?_
              refine S_callV (As := []) (mc := 0) (ms := 0) (pc := 178) dX12_goesOn_178 miX12_ahead mvX12_ahead mlX12_249 rfl (sM_0 hs) rfl rfl rfl (RmOK.of rfl) H ?_
              rintro _ _ ⟨f145, g146, rfl, rfl, H⟩
              show WP _ _ _ _ _ _ _ 181 [some (.ref B), none, none, none, none] [] (sh, f145, g146, fR)
              refine S_aload_n (pc := 181) dX12_goesOn_181 rfl rfl ?_
              refine S_iconst (pc := 182) dX12_goesOn_182 ic0 ?_
              refine S_putI (pc := 183) dX12_goesOn_183 flX12_134 (sM_0 hs) hs.2.2 (nf_12_40) nb0 rfl (fun _ => rfl) ?_
              refine S_iconst (pc := 186) dX12_goesOn_186 ic1 ?_
              exact S_zreturn dX12_goesOn_187 rfl (Or.inr rfl) H
          · replace H := H.2 hc136
            refine S_bipush (pc := 153) dX12_goesOn_153 bp33 ?_
            refine S_goto (pc := 155) (tgt := 174) dX12_goesOn_155 rfl ?_
            refine S_callV (As := [.int (nI 33)]) (mc := 0) (ms := 0) (pc := 174) dX12_goesOn_174 miX12_holdsBack mvX12_holdsBack mlX12_330 rfl (sM_0 hs) rfl rfl rfl (RmOK.of rfl) (Q := fun r h => WP _ _ _ _ _ _ _ 177 [some (.ref B), none, none, none, none] (r.toList ++ []) h) (Cl.of miX12_holdsBack rfl rfl ?_) (fun _ _ q => q)
            refine S_aload_n (pc := 0) dX12_holdsBack_0 rfl rfl ?_
            refine S_getR (pc := 1) dX12_holdsBack_1 flX12_128 (sM_0 hs) rfl (rM_38 hs) ?_
            refine S_aload_n (pc := 4) dX12_holdsBack_4 rfl rfl ?_
            refine S_get (pc := 5) (v := .int (f133 B 39)) dX12_holdsBack_5 flX12_131 (sM_0 hs) rfl ?_
            refine S_iload_n (pc := 8) dX12_holdsBack_8 rfl rfl ?_
            obtain ⟨hb147, H⟩ := H
            refine S_iast (pc := 9) dX12_holdsBack_9 (sM_21 hs) (Nat.succ_pos _) hb147 ?_
            refine S_aload_n (pc := 10) dX12_holdsBack_10 rfl rfl ?_
            refine S_dup (pc := 11) dX12_holdsBack_11 rfl ?_
            refine S_get (pc := 12) (v := .int ((up2 f133 (B + 21) (f133 B 39).toNatClampNeg (nI 33)) B 39)) dX12_holdsBack_12 flX12_131 (sM_0 hs) rfl ?_
            refine S_eqi (x := f133 B 39) ((up2_r (by omega)).trans rfl) ?_
            refine S_iconst (pc := 15) dX12_holdsBack_15 ic1 ?_
            refine S_iadd (pc := 16) dX12_holdsBack_16 ?_
            refine S_putI (pc := 17) dX12_holdsBack_17 flX12_131 (sM_0 hs) hs.2.2 (nf_12_39) rfl rfl (fun _ => rfl) ?_
            refine S_vreturn dX12_holdsBack_20 rfl ?_
            show WP _ _ _ _ _ _ _ 177 [some (.ref B), none, none, none, none] [] (sh, (up2 (up2 f133 (B + 21) (f133 B 39).toNatClampNeg (nI 33)) B 39 ((f133 B 39) + (nI 1))), g134, fR)
            refine S_aload_n (pc := 177) dX12_goesOn_177 rfl rfl ?_
            refine S_callV (As := []) (mc := 0) (ms := 0) (pc := 178) dX12_goesOn_178 miX12_ahead mvX12_ahead mlX12_249 rfl (sM_0 hs) rfl rfl rfl (RmOK.of rfl) H ?_
            rintro _ _ ⟨f148, g149, rfl, rfl, H⟩
            show WP _ _ _ _ _ _ _ 181 [some (.ref B), none, none, none, none] [] (sh, f148, g149, fR)
            refine S_aload_n (pc := 181) dX12_goesOn_181 rfl rfl ?_
            refine S_iconst (pc := 182) dX12_goesOn_182 ic0 ?_
            refine S_putI (pc := 183) dX12_goesOn_183 flX12_134 (sM_0 hs) hs.2.2 (nf_12_40) nb0 rfl (fun _ => rfl) ?_
            refine S_iconst (pc := 186) dX12_goesOn_186 ic1 ?_
            exact S_zreturn dX12_goesOn_187 rfl (Or.inr rfl) H
        · replace H := H.2 hc132
          refine S_bipush (pc := 139) dX12_goesOn_139 bp32 ?_
          refine S_goto (pc := 141) (tgt := 174) dX12_goesOn_141 rfl ?_
          refine S_callV (As := [.int (nI 32)]) (mc := 0) (ms := 0) (pc := 174) dX12_goesOn_174 miX12_holdsBack mvX12_holdsBack mlX12_330 rfl (sM_0 hs) rfl rfl rfl (RmOK.of rfl) (Q := fun r h => WP _ _ _ _ _ _ _ 177 [some (.ref B), none, none, none, none] (r.toList ++ []) h) (Cl.of miX12_holdsBack rfl rfl ?_) (fun _ _ q => q)
          refine S_aload_n (pc := 0) dX12_holdsBack_0 rfl rfl ?_
          refine S_getR (pc := 1) dX12_holdsBack_1 flX12_128 (sM_0 hs) rfl (rM_38 hs) ?_
          refine S_aload_n (pc := 4) dX12_holdsBack_4 rfl rfl ?_
          refine S_get (pc := 5) (v := .int (f129 B 39)) dX12_holdsBack_5 flX12_131 (sM_0 hs) rfl ?_
          refine S_iload_n (pc := 8) dX12_holdsBack_8 rfl rfl ?_
          obtain ⟨hb150, H⟩ := H
          refine S_iast (pc := 9) dX12_holdsBack_9 (sM_21 hs) (Nat.succ_pos _) hb150 ?_
          refine S_aload_n (pc := 10) dX12_holdsBack_10 rfl rfl ?_
          refine S_dup (pc := 11) dX12_holdsBack_11 rfl ?_
          refine S_get (pc := 12) (v := .int ((up2 f129 (B + 21) (f129 B 39).toNatClampNeg (nI 32)) B 39)) dX12_holdsBack_12 flX12_131 (sM_0 hs) rfl ?_
          refine S_eqi (x := f129 B 39) ((up2_r (by omega)).trans rfl) ?_
          refine S_iconst (pc := 15) dX12_holdsBack_15 ic1 ?_
          refine S_iadd (pc := 16) dX12_holdsBack_16 ?_
          refine S_putI (pc := 17) dX12_holdsBack_17 flX12_131 (sM_0 hs) hs.2.2 (nf_12_39) rfl rfl (fun _ => rfl) ?_
          refine S_vreturn dX12_holdsBack_20 rfl ?_
          show WP _ _ _ _ _ _ _ 177 [some (.ref B), none, none, none, none] [] (sh, (up2 (up2 f129 (B + 21) (f129 B 39).toNatClampNeg (nI 32)) B 39 ((f129 B 39) + (nI 1))), g130, fR)
          refine S_aload_n (pc := 177) dX12_goesOn_177 rfl rfl ?_
          refine S_callV (As := []) (mc := 0) (ms := 0) (pc := 178) dX12_goesOn_178 miX12_ahead mvX12_ahead mlX12_249 rfl (sM_0 hs) rfl rfl rfl (RmOK.of rfl) H ?_
          rintro _ _ ⟨f151, g152, rfl, rfl, H⟩
          show WP _ _ _ _ _ _ _ 181 [some (.ref B), none, none, none, none] [] (sh, f151, g152, fR)
          refine S_aload_n (pc := 181) dX12_goesOn_181 rfl rfl ?_
          refine S_iconst (pc := 182) dX12_goesOn_182 ic0 ?_
          refine S_putI (pc := 183) dX12_goesOn_183 flX12_134 (sM_0 hs) hs.2.2 (nf_12_40) nb0 rfl (fun _ => rfl) ?_
          refine S_iconst (pc := 186) dX12_goesOn_186 ic1 ?_
          exact S_zreturn dX12_goesOn_187 rfl (Or.inr rfl) H
      · replace H := H.2 hc128
        refine S_bipush (pc := 125) dX12_goesOn_125 bp31 ?_
        refine S_goto (pc := 127) (tgt := 174) dX12_goesOn_127 rfl ?_
        refine S_callV (As := [.int (nI 31)]) (mc := 0) (ms := 0) (pc := 174) dX12_goesOn_174 miX12_holdsBack mvX12_holdsBack mlX12_330 rfl (sM_0 hs) rfl rfl rfl (RmOK.of rfl) (Q := fun r h => WP _ _ _ _ _ _ _ 177 [some (.ref B), none, none, none, none] (r.toList ++ []) h) (Cl.of miX12_holdsBack rfl rfl ?_) (fun _ _ q => q)
        refine S_aload_n (pc := 0) dX12_holdsBack_0 rfl rfl ?_
        refine S_getR (pc := 1) dX12_holdsBack_1 flX12_128 (sM_0 hs) rfl (rM_38 hs) ?_
        refine S_aload_n (pc := 4) dX12_holdsBack_4 rfl rfl ?_
        refine S_get (pc := 5) (v := .int (f125 B 39)) dX12_holdsBack_5 flX12_131 (sM_0 hs) rfl ?_
        refine S_iload_n (pc := 8) dX12_holdsBack_8 rfl rfl ?_
        obtain ⟨hb153, H⟩ := H
        refine S_iast (pc := 9) dX12_holdsBack_9 (sM_21 hs) (Nat.succ_pos _) hb153 ?_
        refine S_aload_n (pc := 10) dX12_holdsBack_10 rfl rfl ?_
        refine S_dup (pc := 11) dX12_holdsBack_11 rfl ?_
        refine S_get (pc := 12) (v := .int ((up2 f125 (B + 21) (f125 B 39).toNatClampNeg (nI 31)) B 39)) dX12_holdsBack_12 flX12_131 (sM_0 hs) rfl ?_
        refine S_eqi (x := f125 B 39) ((up2_r (by omega)).trans rfl) ?_
        refine S_iconst (pc := 15) dX12_holdsBack_15 ic1 ?_
        refine S_iadd (pc := 16) dX12_holdsBack_16 ?_
        refine S_putI (pc := 17) dX12_holdsBack_17 flX12_131 (sM_0 hs) hs.2.2 (nf_12_39) rfl rfl (fun _ => rfl) ?_
        refine S_vreturn dX12_holdsBack_20 rfl ?_
        show WP _ _ _ _ _ _ _ 177 [some (.ref B), none, none, none, none] [] (sh, (up2 (up2 f125 (B + 21) (f125 B 39).toNatClampNeg (nI 31)) B 39 ((f125 B 39) + (nI 1))), g126, fR)
        refine S_aload_n (pc := 177) dX12_goesOn_177 rfl rfl ?_
        refine S_callV (As := []) (mc := 0) (ms := 0) (pc := 178) dX12_goesOn_178 miX12_ahead mvX12_ahead mlX12_249 rfl (sM_0 hs) rfl rfl rfl (RmOK.of rfl) H ?_
        rintro _ _ ⟨f154, g155, rfl, rfl, H⟩
        show WP _ _ _ _ _ _ _ 181 [some (.ref B), none, none, none, none] [] (sh, f154, g155, fR)
        refine S_aload_n (pc := 181) dX12_goesOn_181 rfl rfl ?_
        refine S_iconst (pc := 182) dX12_goesOn_182 ic0 ?_
        refine S_putI (pc := 183) dX12_goesOn_183 flX12_134 (sM_0 hs) hs.2.2 (nf_12_40) nb0 rfl (fun _ => rfl) ?_
        refine S_iconst (pc := 186) dX12_goesOn_186 ic1 ?_
        exact S_zreturn dX12_goesOn_187 rfl (Or.inr rfl) H
set_option maxHeartbeats 2000000 in
set_option maxRecDepth 4000 in
theorem VX12_goesOn_285 {l : Launch} {G : Gx} {d : Nat} {Q : Option Value → Hp → Prop} {sh : Sh} {fR : FRt} {B : Nat} {f : FI} {g : FL} {a1 : Int32} {a2 : Int32} {a3 : Int32} (hs : StM sh fR B)
    (H : ((a3 = 0 → LpX12_goesOn_400 l G d Q sh fR B f g a1 a2 a3) ∧ (¬ a3 = 0 → Cl l G (d + 1) 0 0 mX12_isWord [.ref B, .long (lN 6385252)] (sh, f, g, fR) (qi sh fR fun x159 f157 g158 => ((¬ x159 = 0 → LpX12_goesOn_309 l G d Q sh fR B f157 g158 a1) ∧ (x159 = 0 → Cl l G (d + 1) 0 0 mX12_isWord [.ref B, .long (lN 28530)] (sh, f157, g158, fR) (qi sh fR fun x163 f161 g162 => ((x163 = 0 → LpX12_goesOn_400 l G d Q sh fR B f161 g162 a1 a2 a3) ∧ (¬ x163 = 0 → LpX12_goesOn_309 l G d Q sh fR B f161 g162 a1))))))))) :
    LpX12_goesOn_285 l G d Q sh fR B f g a1 a2 a3 := by
  refine S_iload_n (pc := 285) dX12_goesOn_285 rfl rfl ?_
  refine S_if_eq (pc := 286) (tgt := 400) dX12_goesOn_286 rfl (fun hc156 => ?_) (fun hc156 => ?_)
  · replace H := H.1 hc156
    exact H
  · replace H := H.2 hc156
    refine S_aload_n (pc := 289) dX12_goesOn_289 rfl rfl ?_
    refine S_ldc2 (pc := 290) (v := lN 6385252) dX12_goesOn_290 (gw 1495 rfl rfl) ?_
    refine S_callV (As := [.long (lN 6385252)]) (mc := 0) (ms := 0) (pc := 293) dX12_goesOn_293 miX12_isWord mvX12_isWord mlX12_326 rfl (sM_0 hs) rfl rfl rfl (RmOK.of rfl) H ?_
    rintro _ _ ⟨x159, f157, g158, rfl, rfl, H⟩
    show WP _ _ _ _ _ _ _ 296 [some (.ref B), some (.int a1), some (.int a2), some (.int a3), none] [.int x159] (sh, f157, g158, fR)
    refine S_if_ne (pc := 296) (tgt := 309) dX12_goesOn_296 rfl (fun hc160 => ?_) (fun hc160 => ?_)
    · replace H := H.1 hc160
      exact S_weak (L' := [some (.ref B), some (.int a1), none, none, none]) (ls_e (ls_e (ls_n (ls_n (ls_e ls_0))))) H
    · replace H := H.2 hc160
      refine S_aload_n (pc := 299) dX12_goesOn_299 rfl rfl ?_
      refine S_ldc2 (pc := 300) (v := lN 28530) dX12_goesOn_300 (gw 1494 rfl rfl) ?_
      refine S_callV (As := [.long (lN 28530)]) (mc := 0) (ms := 0) (pc := 303) dX12_goesOn_303 miX12_isWord mvX12_isWord mlX12_326 rfl (sM_0 hs) rfl rfl rfl (RmOK.of rfl) H ?_
      rintro _ _ ⟨x163, f161, g162, rfl, rfl, H⟩
      show WP _ _ _ _ _ _ _ 306 [some (.ref B), some (.int a1), some (.int a2), some (.int a3), none] [.int x163] (sh, f161, g162, fR)
      refine S_if_eq (pc := 306) (tgt := 400) dX12_goesOn_306 rfl (fun hc164 => ?_) (fun hc164 => ?_)
      · replace H := H.1 hc164
        exact H
      · replace H := H.2 hc164
        exact S_weak (L' := [some (.ref B), some (.int a1), none, none, none]) (ls_e (ls_e (ls_n (ls_n (ls_e ls_0))))) H
set_option maxHeartbeats 2000000 in
set_option maxRecDepth 4000 in
theorem VX12_goesOn_228 {l : Launch} {G : Gx} {d : Nat} {Q : Option Value → Hp → Prop} {sh : Sh} {fR : FRt} {B : Nat} {f : FI} {g : FL} {a1 : Int32} (hs : StM sh fR B)
    (H : Cl l G (d + 1) 0 0 mX12_joins [.ref B, .int (nI 5)] (sh, f, g, fR) (qv sh fR fun f165 g166 => Cl l G (d + 1) 0 0 mX12_isSign [.ref B, .int (nI 60)] (sh, f165, g166, fR) (qi sh fR fun x169 f167 g168 => ((x169 = 0 → Cl l G (d + 1) 0 0 mX12_isSign [.ref B, .int (nI 62)] (sh, f167, g168, fR) (qi sh fR fun x173 f171 g172 => ((x173 = 0 → inb (f171 B 39) 500 ∧ inb a1 20 ∧ Cl l G (d + 1) 0 0 mX12_ahead [.ref B] (sh, (up2 (up2 (up2 f171 (B + 21) (f171 B 39).toNatClampNeg (nI 40)) B 39 ((f171 B 39) + (nI 1))) (B + 17) a1.toNatClampNeg (nI 1)), g172, fR) (qv sh fR fun f177 g178 => Q (some (.int (nI 1))) (sh, (up2 f177 B 40 (nI 0)), g178, fR))) ∧ (¬ x173 = 0 → inb (f171 B 39) 500 ∧ inb a1 20 ∧ Cl l G (d + 1) 0 0 mX12_ahead [.ref B] (sh, (up2 (up2 (up2 f171 (B + 21) (f171 B 39).toNatClampNeg (nI 39)) B 39 ((f171 B 39) + (nI 1))) (B + 17) a1.toNatClampNeg (nI 1)), g172, fR) (qv sh fR fun f181 g182 => Q (some (.int (nI 1))) (sh, (up2 f181 B 40 (nI 0)), g182, fR)))))) ∧ (¬ x169 = 0 → inb (f167 B 39) 500 ∧ inb a1 20 ∧ Cl l G (d + 1) 0 0 mX12_ahead [.ref B] (sh, (up2 (up2 (up2 f167 (B + 21) (f167 B 39).toNatClampNeg (nI 38)) B 39 ((f167 B 39) + (nI 1))) (B + 17) a1.toNatClampNeg (nI 1)), g168, fR) (qv sh fR fun f185 g186 => Q (some (.int (nI 1))) (sh, (up2 f185 B 40 (nI 0)), g186, fR))))))) :
    LpX12_goesOn_228 l G d Q sh fR B f g a1 := by
  refine S_aload_n (pc := 228) dX12_goesOn_228 rfl rfl ?_
  refine S_iconst (pc := 229) dX12_goesOn_229 ic5 ?_
  refine S_callV (As := [.int (nI 5)]) (mc := 0) (ms := 0) (pc := 230) dX12_goesOn_230 miX12_joins mvX12_joins mlX12_343 rfl (sM_0 hs) rfl rfl rfl (RmOK.of rfl) H ?_
  rintro _ _ ⟨f165, g166, rfl, rfl, H⟩
  show WP _ _ _ _ _ _ _ 233 [some (.ref B), some (.int a1), none, none, none] [] (sh, f165, g166, fR)
  refine S_aload_n (pc := 233) dX12_goesOn_233 rfl rfl ?_
  refine S_aload_n (pc := 234) dX12_goesOn_234 rfl rfl ?_
  refine S_bipush (pc := 235) dX12_goesOn_235 bp60 ?_
  refine S_callV (As := [.int (nI 60)]) (mc := 0) (ms := 0) (pc := 237) dX12_goesOn_237 miX12_isSign mvX12_isSign mlX12_246 rfl (sM_0 hs) rfl rfl rfl (RmOK.of rfl) H ?_
  rintro _ _ ⟨x169, f167, g168, rfl, rfl, H⟩
  show WP _ _ _ _ _ _ _ 240 [some (.ref B), some (.int a1), none, none, none] [.int x169, .ref B] (sh, f167, g168, fR)
  refine S_if_eq (pc := 240) (tgt := 248) dX12_goesOn_240 rfl (fun hc170 => ?_) (fun hc170 => ?_)
  · replace H := H.1 hc170
    refine S_aload_n (pc := 248) dX12_goesOn_248 rfl rfl ?_
    refine S_bipush (pc := 249) dX12_goesOn_249 bp62 ?_
    refine S_callV (As := [.int (nI 62)]) (mc := 0) (ms := 0) (pc := 251) dX12_goesOn_251 miX12_isSign mvX12_isSign mlX12_246 rfl (sM_0 hs) rfl rfl rfl (RmOK.of rfl) H ?_
    rintro _ _ ⟨x173, f171, g172, rfl, rfl, H⟩
    show WP _ _ _ _ _ _ _ 254 [some (.ref B), some (.int a1), none, none, none] [.int x173, .ref B] (sh, f171, g172, fR)
    refine S_if_eq (pc := 254) (tgt := 262) dX12_goesOn_254 rfl (fun hc174 => ?_) (fun hc174 => ?_)
    · replace H := H.1 hc174
      refine S_bipush (pc := 262) dX12_goesOn_262 bp40 ?_
      refine S_callV (As := [.int (nI 40)]) (mc := 0) (ms := 0) (pc := 264) dX12_goesOn_264 miX12_holdsBack mvX12_holdsBack mlX12_330 rfl (sM_0 hs) rfl rfl rfl (RmOK.of rfl) (Q := fun r h => WP _ _ _ _ _ _ _ 267 [some (.ref B), some (.int a1), none, none, none] (r.toList ++ []) h) (Cl.of miX12_holdsBack rfl rfl ?_) (fun _ _ q => q)
      refine S_aload_n (pc := 0) dX12_holdsBack_0 rfl rfl ?_
      refine S_getR (pc := 1) dX12_holdsBack_1 flX12_128 (sM_0 hs) rfl (rM_38 hs) ?_
      refine S_aload_n (pc := 4) dX12_holdsBack_4 rfl rfl ?_
      refine S_get (pc := 5) (v := .int (f171 B 39)) dX12_holdsBack_5 flX12_131 (sM_0 hs) rfl ?_
      refine S_iload_n (pc := 8) dX12_holdsBack_8 rfl rfl ?_
      obtain ⟨hb175, H⟩ := H
      refine S_iast (pc := 9) dX12_holdsBack_9 (sM_21 hs) (Nat.succ_pos _) hb175 ?_
      refine S_aload_n (pc := 10) dX12_holdsBack_10 rfl rfl ?_
      refine S_dup (pc := 11) dX12_holdsBack_11 rfl ?_
      refine S_get (pc := 12) (v := .int ((up2 f171 (B + 21) (f171 B 39).toNatClampNeg (nI 40)) B 39)) dX12_holdsBack_12 flX12_131 (sM_0 hs) rfl ?_
      refine S_eqi (x := f171 B 39) ((up2_r (by omega)).trans rfl) ?_
      refine S_iconst (pc := 15) dX12_holdsBack_15 ic1 ?_
      refine S_iadd (pc := 16) dX12_holdsBack_16 ?_
      refine S_putI (pc := 17) dX12_holdsBack_17 flX12_131 (sM_0 hs) hs.2.2 (nf_12_39) rfl rfl (fun _ => rfl) ?_
      refine S_vreturn dX12_holdsBack_20 rfl ?_
      show WP _ _ _ _ _ _ _ 267 [some (.ref B), some (.int a1), none, none, none] [] (sh, (up2 (up2 f171 (B + 21) (f171 B 39).toNatClampNeg (nI 40)) B 39 ((f171 B 39) + (nI 1))), g172, fR)
      refine S_aload_n (pc := 267) dX12_goesOn_267 rfl rfl ?_
      refine S_getR (pc := 268) dX12_goesOn_268 flX12_109 (sM_0 hs) rfl (rM_32 hs) ?_
      refine S_iload_n (pc := 271) dX12_goesOn_271 rfl rfl ?_
      refine S_iconst (pc := 272) dX12_goesOn_272 ic1 ?_
      obtain ⟨hb176, H⟩ := H
      refine S_iast (pc := 273) dX12_goesOn_273 (sM_17 hs) (Nat.succ_pos _) hb176 ?_
      refine S_aload_n (pc := 274) dX12_goesOn_274 rfl rfl ?_
      refine S_callV (As := []) (mc := 0) (ms := 0) (pc := 275) dX12_goesOn_275 miX12_ahead mvX12_ahead mlX12_249 rfl (sM_0 hs) rfl rfl rfl (RmOK.of rfl) H ?_
      rintro _ _ ⟨f177, g178, rfl, rfl, H⟩
      show WP _ _ _ _ _ _ _ 278 [some (.ref B), some (.int a1), none, none, none] [] (sh, f177, g178, fR)
      refine S_aload_n (pc := 278) dX12_goesOn_278 rfl rfl ?_
      refine S_iconst (pc := 279) dX12_goesOn_279 ic0 ?_
      refine S_putI (pc := 280) dX12_goesOn_280 flX12_134 (sM_0 hs) hs.2.2 (nf_12_40) nb0 rfl (fun _ => rfl) ?_
      refine S_iconst (pc := 283) dX12_goesOn_283 ic1 ?_
      exact S_zreturn dX12_goesOn_284 rfl (Or.inr rfl) H
    · replace H := H.2 hc174
      refine S_bipush (pc := 257) dX12_goesOn_257 bp39 ?_
      refine S_goto (pc := 259) (tgt := 264) dX12_goesOn_259 rfl ?_
      refine S_callV (As := [.int (nI 39)]) (mc := 0) (ms := 0) (pc := 264) dX12_goesOn_264 miX12_holdsBack mvX12_holdsBack mlX12_330 rfl (sM_0 hs) rfl rfl rfl (RmOK.of rfl) (Q := fun r h => WP _ _ _ _ _ _ _ 267 [some (.ref B), some (.int a1), none, none, none] (r.toList ++ []) h) (Cl.of miX12_holdsBack rfl rfl ?_) (fun _ _ q => q)
      refine S_aload_n (pc := 0) dX12_holdsBack_0 rfl rfl ?_
      refine S_getR (pc := 1) dX12_holdsBack_1 flX12_128 (sM_0 hs) rfl (rM_38 hs) ?_
      refine S_aload_n (pc := 4) dX12_holdsBack_4 rfl rfl ?_
      refine S_get (pc := 5) (v := .int (f171 B 39)) dX12_holdsBack_5 flX12_131 (sM_0 hs) rfl ?_
      refine S_iload_n (pc := 8) dX12_holdsBack_8 rfl rfl ?_
      obtain ⟨hb179, H⟩ := H
      refine S_iast (pc := 9) dX12_holdsBack_9 (sM_21 hs) (Nat.succ_pos _) hb179 ?_
      refine S_aload_n (pc := 10) dX12_holdsBack_10 rfl rfl ?_
      refine S_dup (pc := 11) dX12_holdsBack_11 rfl ?_
      refine S_get (pc := 12) (v := .int ((up2 f171 (B + 21) (f171 B 39).toNatClampNeg (nI 39)) B 39)) dX12_holdsBack_12 flX12_131 (sM_0 hs) rfl ?_
      refine S_eqi (x := f171 B 39) ((up2_r (by omega)).trans rfl) ?_
      refine S_iconst (pc := 15) dX12_holdsBack_15 ic1 ?_
      refine S_iadd (pc := 16) dX12_holdsBack_16 ?_
      refine S_putI (pc := 17) dX12_holdsBack_17 flX12_131 (sM_0 hs) hs.2.2 (nf_12_39) rfl rfl (fun _ => rfl) ?_
      refine S_vreturn dX12_holdsBack_20 rfl ?_
      show WP _ _ _ _ _ _ _ 267 [some (.ref B), some (.int a1), none, none, none] [] (sh, (up2 (up2 f171 (B + 21) (f171 B 39).toNatClampNeg (nI 39)) B 39 ((f171 B 39) + (nI 1))), g172, fR)
      refine S_aload_n (pc := 267) dX12_goesOn_267 rfl rfl ?_
      refine S_getR (pc := 268) dX12_goesOn_268 flX12_109 (sM_0 hs) rfl (rM_32 hs) ?_
      refine S_iload_n (pc := 271) dX12_goesOn_271 rfl rfl ?_
      refine S_iconst (pc := 272) dX12_goesOn_272 ic1 ?_
      obtain ⟨hb180, H⟩ := H
      refine S_iast (pc := 273) dX12_goesOn_273 (sM_17 hs) (Nat.succ_pos _) hb180 ?_
      refine S_aload_n (pc := 274) dX12_goesOn_274 rfl rfl ?_
      refine S_callV (As := []) (mc := 0) (ms := 0) (pc := 275) dX12_goesOn_275 miX12_ahead mvX12_ahead mlX12_249 rfl (sM_0 hs) rfl rfl rfl (RmOK.of rfl) H ?_
      rintro _ _ ⟨f181, g182, rfl, rfl, H⟩
      show WP _ _ _ _ _ _ _ 278 [some (.ref B), some (.int a1), none, none, none] [] (sh, f181, g182, fR)
      refine S_aload_n (pc := 278) dX12_goesOn_278 rfl rfl ?_
      refine S_iconst (pc := 279) dX12_goesOn_279 ic0 ?_
      refine S_putI (pc := 280) dX12_goesOn_280 flX12_134 (sM_0 hs) hs.2.2 (nf_12_40) nb0 rfl (fun _ => rfl) ?_
      refine S_iconst (pc := 283) dX12_goesOn_283 ic1 ?_
      exact S_zreturn dX12_goesOn_284 rfl (Or.inr rfl) H
  · replace H := H.2 hc170
    refine S_bipush (pc := 243) dX12_goesOn_243 bp38 ?_
    refine S_goto (pc := 245) (tgt := 264) dX12_goesOn_245 rfl ?_
    refine S_callV (As := [.int (nI 38)]) (mc := 0) (ms := 0) (pc := 264) dX12_goesOn_264 miX12_holdsBack mvX12_holdsBack mlX12_330 rfl (sM_0 hs) rfl rfl rfl (RmOK.of rfl) (Q := fun r h => WP _ _ _ _ _ _ _ 267 [some (.ref B), some (.int a1), none, none, none] (r.toList ++ []) h) (Cl.of miX12_holdsBack rfl rfl ?_) (fun _ _ q => q)
    refine S_aload_n (pc := 0) dX12_holdsBack_0 rfl rfl ?_
    refine S_getR (pc := 1) dX12_holdsBack_1 flX12_128 (sM_0 hs) rfl (rM_38 hs) ?_
    refine S_aload_n (pc := 4) dX12_holdsBack_4 rfl rfl ?_
    refine S_get (pc := 5) (v := .int (f167 B 39)) dX12_holdsBack_5 flX12_131 (sM_0 hs) rfl ?_
    refine S_iload_n (pc := 8) dX12_holdsBack_8 rfl rfl ?_
    obtain ⟨hb183, H⟩ := H
    refine S_iast (pc := 9) dX12_holdsBack_9 (sM_21 hs) (Nat.succ_pos _) hb183 ?_
    refine S_aload_n (pc := 10) dX12_holdsBack_10 rfl rfl ?_
    refine S_dup (pc := 11) dX12_holdsBack_11 rfl ?_
    refine S_get (pc := 12) (v := .int ((up2 f167 (B + 21) (f167 B 39).toNatClampNeg (nI 38)) B 39)) dX12_holdsBack_12 flX12_131 (sM_0 hs) rfl ?_
    refine S_eqi (x := f167 B 39) ((up2_r (by omega)).trans rfl) ?_
    refine S_iconst (pc := 15) dX12_holdsBack_15 ic1 ?_
    refine S_iadd (pc := 16) dX12_holdsBack_16 ?_
    refine S_putI (pc := 17) dX12_holdsBack_17 flX12_131 (sM_0 hs) hs.2.2 (nf_12_39) rfl rfl (fun _ => rfl) ?_
    refine S_vreturn dX12_holdsBack_20 rfl ?_
    show WP _ _ _ _ _ _ _ 267 [some (.ref B), some (.int a1), none, none, none] [] (sh, (up2 (up2 f167 (B + 21) (f167 B 39).toNatClampNeg (nI 38)) B 39 ((f167 B 39) + (nI 1))), g168, fR)
    refine S_aload_n (pc := 267) dX12_goesOn_267 rfl rfl ?_
    refine S_getR (pc := 268) dX12_goesOn_268 flX12_109 (sM_0 hs) rfl (rM_32 hs) ?_
    refine S_iload_n (pc := 271) dX12_goesOn_271 rfl rfl ?_
    refine S_iconst (pc := 272) dX12_goesOn_272 ic1 ?_
    obtain ⟨hb184, H⟩ := H
    refine S_iast (pc := 273) dX12_goesOn_273 (sM_17 hs) (Nat.succ_pos _) hb184 ?_
    refine S_aload_n (pc := 274) dX12_goesOn_274 rfl rfl ?_
    refine S_callV (As := []) (mc := 0) (ms := 0) (pc := 275) dX12_goesOn_275 miX12_ahead mvX12_ahead mlX12_249 rfl (sM_0 hs) rfl rfl rfl (RmOK.of rfl) H ?_
    rintro _ _ ⟨f185, g186, rfl, rfl, H⟩
    show WP _ _ _ _ _ _ _ 278 [some (.ref B), some (.int a1), none, none, none] [] (sh, f185, g186, fR)
    refine S_aload_n (pc := 278) dX12_goesOn_278 rfl rfl ?_
    refine S_iconst (pc := 279) dX12_goesOn_279 ic0 ?_
    refine S_putI (pc := 280) dX12_goesOn_280 flX12_134 (sM_0 hs) hs.2.2 (nf_12_40) nb0 rfl (fun _ => rfl) ?_
    refine S_iconst (pc := 283) dX12_goesOn_283 ic1 ?_
    exact S_zreturn dX12_goesOn_284 rfl (Or.inr rfl) H
set_option maxHeartbeats 2000000 in
set_option maxRecDepth 4000 in
theorem VX12_goesOn_400 {l : Launch} {G : Gx} {d : Nat} {Q : Option Value → Hp → Prop} {sh : Sh} {fR : FRt} {B : Nat} {f : FI} {g : FL} {a1 : Int32} {a2 : Int32} {a3 : Int32} (hs : StM sh fR B)
    (H : ((a3 = 0 → LpX12_goesOn_422 l G d Q sh fR B f g a1 a2) ∧ (¬ a3 = 0 → inb a1 20 ∧ ((¬ (f (B + 17) a1.toNatClampNeg) = 0 → LpX12_goesOn_422 l G d Q sh fR B f g a1 a2) ∧ ((f (B + 17) a1.toNatClampNeg) = 0 → Cl l G (d + 1) 0 0 mX12_blame [.ref B, .int (nI 1), .int (f B 4)] (sh, f, g, fR) (qv sh fR fun f190 g191 => LpX12_goesOn_422 l G d Q sh fR B f190 g191 a1 a2)))))) :
    LpX12_goesOn_400 l G d Q sh fR B f g a1 a2 a3 := by
  refine S_iload_n (pc := 400) dX12_goesOn_400 rfl rfl ?_
  refine S_if_eq (pc := 401) (tgt := 422) dX12_goesOn_401 rfl (fun hc187 => ?_) (fun hc187 => ?_)
  · replace H := H.1 hc187
    exact S_weak (L' := [some (.ref B), some (.int a1), some (.int a2), none, none]) (ls_e (ls_e (ls_e (ls_n (ls_e ls_0))))) H
  · replace H := H.2 hc187
    refine S_aload_n (pc := 404) dX12_goesOn_404 rfl rfl ?_
    refine S_getR (pc := 405) dX12_goesOn_405 flX12_109 (sM_0 hs) rfl (rM_32 hs) ?_
    refine S_iload_n (pc := 408) dX12_goesOn_408 rfl rfl ?_
    obtain ⟨hb188, H⟩ := H
    refine S_iald (pc := 409) dX12_goesOn_409 (sM_17 hs) hb188 ?_
    refine S_if_ne (pc := 410) (tgt := 422) dX12_goesOn_410 rfl (fun hc189 => ?_) (fun hc189 => ?_)
    · replace H := H.1 hc189
      exact S_weak (L' := [some (.ref B), some (.int a1), some (.int a2), none, none]) (ls_e (ls_e (ls_e (ls_n (ls_e ls_0))))) H
    · replace H := H.2 hc189
      refine S_aload_n (pc := 413) dX12_goesOn_413 rfl rfl ?_
      refine S_iconst (pc := 414) dX12_goesOn_414 ic1 ?_
      refine S_aload_n (pc := 415) dX12_goesOn_415 rfl rfl ?_
      refine S_get (pc := 416) (v := .int (f B 4)) dX12_goesOn_416 flX12_23 (sM_0 hs) rfl ?_
      refine S_callV (As := [.int (nI 1), .int (f B 4)]) (mc := 0) (ms := 0) (pc := 419) dX12_goesOn_419 miX12_blame mvX12_blame mlX12_232 rfl (sM_0 hs) rfl rfl rfl (RmOK.of rfl) H ?_
      rintro _ _ ⟨f190, g191, rfl, rfl, H⟩
      show WP _ _ _ _ _ _ _ 422 [some (.ref B), some (.int a1), some (.int a2), some (.int a3), none] [] (sh, f190, g191, fR)
      exact S_weak (L' := [some (.ref B), some (.int a1), some (.int a2), none, none]) (ls_e (ls_e (ls_e (ls_n (ls_e ls_0))))) H
set_option maxHeartbeats 2000000 in
set_option maxRecDepth 4000 in
theorem VX12_goesOn_309 {l : Launch} {G : Gx} {d : Nat} {Q : Option Value → Hp → Prop} {sh : Sh} {fR : FRt} {B : Nat} {f : FI} {g : FL} {a1 : Int32} (hs : StM sh fR B)
    (H : inb a1 20 ∧ ((¬ (f (B + 17) a1.toNatClampNeg) = 0 → LpX12_goesOn_327 l G d Q sh fR B f g a1) ∧ ((f (B + 17) a1.toNatClampNeg) = 0 → Cl l G (d + 1) 0 0 mX12_blame [.ref B, .int (nI 1), .int (f B 4)] (sh, f, g, fR) (qv sh fR fun f194 g195 => LpX12_goesOn_327 l G d Q sh fR B f194 g195 a1)))) :
    LpX12_goesOn_309 l G d Q sh fR B f g a1 := by
  refine S_aload_n (pc := 309) dX12_goesOn_309 rfl rfl ?_
  refine S_getR (pc := 310) dX12_goesOn_310 flX12_109 (sM_0 hs) rfl (rM_32 hs) ?_
  refine S_iload_n (pc := 313) dX12_goesOn_313 rfl rfl ?_
  obtain ⟨hb192, H⟩ := H
  refine S_iald (pc := 314) dX12_goesOn_314 (sM_17 hs) hb192 ?_
  refine S_if_ne (pc := 315) (tgt := 327) dX12_goesOn_315 rfl (fun hc193 => ?_) (fun hc193 => ?_)
  · replace H := H.1 hc193
    exact H
  · replace H := H.2 hc193
    refine S_aload_n (pc := 318) dX12_goesOn_318 rfl rfl ?_
    refine S_iconst (pc := 319) dX12_goesOn_319 ic1 ?_
    refine S_aload_n (pc := 320) dX12_goesOn_320 rfl rfl ?_
    refine S_get (pc := 321) (v := .int (f B 4)) dX12_goesOn_321 flX12_23 (sM_0 hs) rfl ?_
    refine S_callV (As := [.int (nI 1), .int (f B 4)]) (mc := 0) (ms := 0) (pc := 324) dX12_goesOn_324 miX12_blame mvX12_blame mlX12_232 rfl (sM_0 hs) rfl rfl rfl (RmOK.of rfl) H ?_
    rintro _ _ ⟨f194, g195, rfl, rfl, H⟩
    show WP _ _ _ _ _ _ _ 327 [some (.ref B), some (.int a1), none, none, none] [] (sh, f194, g195, fR)
    exact H
set_option maxHeartbeats 2000000 in
set_option maxRecDepth 4000 in
theorem VX12_goesOn_422 {l : Launch} {G : Gx} {d : Nat} {Q : Option Value → Hp → Prop} {sh : Sh} {fR : FRt} {B : Nat} {f : FI} {g : FL} {a1 : Int32} {a2 : Int32} (hs : StM sh fR B)
    (H : (((nI 2) ≤ a2 → ((a2 = (nI 3) → LpX12_goesOn_452 l G d Q sh fR B f g a1 a2) ∧ (¬ a2 = (nI 3) → ((¬ a2 = (nI 6) → ((¬ a2 = (nI 5) → Cl l G (d + 1) 0 0 mX12_isSign [.ref B, .int (nI 41)] (sh, f, g, fR) (qi sh fR fun x202 f200 g201 => ((¬ x202 = 0 → LpX12_goesOn_546 l G d Q sh fR B f200 g201 a1 a2) ∧ (x202 = 0 → Cl l G (d + 1) 0 0 mX12_blame [.ref B, .int (nI 1), .int (f200 B 4)] (sh, f200, g201, fR) (qv sh fR fun f204 g205 => LpX12_goesOn_546 l G d Q sh fR B f204 g205 a1 a2))))) ∧ (a2 = (nI 5) → Cl l G (d + 1) 0 0 mX12_isSign [.ref B, .int (nI 93)] (sh, f, g, fR) (qi sh fR fun x208 f206 g207 => ((¬ x208 = 0 → LpX12_goesOn_546 l G d Q sh fR B f206 g207 a1 a2) ∧ (x208 = 0 → Cl l G (d + 1) 0 0 mX12_blame [.ref B, .int (nI 1), .int (f206 B 4)] (sh, f206, g207, fR) (qv sh fR fun f210 g211 => LpX12_goesOn_546 l G d Q sh fR B f210 g211 a1 a2))))))) ∧ (a2 = (nI 6) → LpX12_goesOn_452 l G d Q sh fR B f g a1 a2))))) ∧ (¬ (nI 2) ≤ a2 → ((¬ (f B 8) = 0 → Q (some (.int (nI 0))) (sh, f, g, fR)) ∧ ((f B 8) = 0 → Cl l G (d + 1) 0 0 mX12_joins [.ref B, .int (nI 1)] (sh, f, g, fR) (qv sh fR fun f213 g214 => Q (some (.int (nI 0))) (sh, f213, g214, fR))))))) :
    LpX12_goesOn_422 l G d Q sh fR B f g a1 a2 := by
  refine S_iload_n (pc := 422) dX12_goesOn_422 rfl rfl ?_
  refine S_iconst (pc := 423) dX12_goesOn_423 ic2 ?_
  refine S_icmp_ge (pc := 424) (tgt := 441) dX12_goesOn_424 rfl (fun hc196 => ?_) (fun hc196 => ?_)
  · replace H := H.1 hc196
    refine S_iload_n (pc := 441) dX12_goesOn_441 rfl rfl ?_
    refine S_iconst (pc := 442) dX12_goesOn_442 ic3 ?_
    refine S_icmp_eq (pc := 443) (tgt := 452) dX12_goesOn_443 rfl (fun hc197 => ?_) (fun hc197 => ?_)
    · replace H := H.1 hc197
      exact H
    · replace H := H.2 hc197
      refine S_iload_n (pc := 446) dX12_goesOn_446 rfl rfl ?_
      refine S_bipush (pc := 447) dX12_goesOn_447 bp6 ?_
      refine S_icmp_ne (pc := 449) (tgt := 518) dX12_goesOn_449 rfl (fun hc198 => ?_) (fun hc198 => ?_)
      · replace H := H.1 hc198
        refine S_aload_n (pc := 518) dX12_goesOn_518 rfl rfl ?_
        refine S_iload_n (pc := 519) dX12_goesOn_519 rfl rfl ?_
        refine S_iconst (pc := 520) dX12_goesOn_520 ic5 ?_
        refine S_icmp_ne (pc := 521) (tgt := 529) dX12_goesOn_521 rfl (fun hc199 => ?_) (fun hc199 => ?_)
        · replace H := H.1 hc199
          refine S_bipush (pc := 529) dX12_goesOn_529 bp41 ?_
          refine S_callV (As := [.int (nI 41)]) (mc := 0) (ms := 0) (pc := 531) dX12_goesOn_531 miX12_isSign mvX12_isSign mlX12_246 rfl (sM_0 hs) rfl rfl rfl (RmOK.of rfl) H ?_
          rintro _ _ ⟨x202, f200, g201, rfl, rfl, H⟩
          show WP _ _ _ _ _ _ _ 534 [some (.ref B), some (.int a1), some (.int a2), none, none] [.int x202] (sh, f200, g201, fR)
          refine S_if_ne (pc := 534) (tgt := 546) dX12_goesOn_534 rfl (fun hc203 => ?_) (fun hc203 => ?_)
          · replace H := H.1 hc203
            exact H
          · replace H := H.2 hc203
            refine S_aload_n (pc := 537) dX12_goesOn_537 rfl rfl ?_
            refine S_iconst (pc := 538) dX12_goesOn_538 ic1 ?_
            refine S_aload_n (pc := 539) dX12_goesOn_539 rfl rfl ?_
            refine S_get (pc := 540) (v := .int (f200 B 4)) dX12_goesOn_540 flX12_23 (sM_0 hs) rfl ?_
            refine S_callV (As := [.int (nI 1), .int (f200 B 4)]) (mc := 0) (ms := 0) (pc := 543) dX12_goesOn_543 miX12_blame mvX12_blame mlX12_232 rfl (sM_0 hs) rfl rfl rfl (RmOK.of rfl) H ?_
            rintro _ _ ⟨f204, g205, rfl, rfl, H⟩
            show WP _ _ _ _ _ _ _ 546 [some (.ref B), some (.int a1), some (.int a2), none, none] [] (sh, f204, g205, fR)
            exact H
        · replace H := H.2 hc199
          refine S_bipush (pc := 524) dX12_goesOn_524 bp93 ?_
          refine S_goto (pc := 526) (tgt := 531) dX12_goesOn_526 rfl ?_
          refine S_callV (As := [.int (nI 93)]) (mc := 0) (ms := 0) (pc := 531) dX12_goesOn_531 miX12_isSign mvX12_isSign mlX12_246 rfl (sM_0 hs) rfl rfl rfl (RmOK.of rfl) H ?_
          rintro _ _ ⟨x208, f206, g207, rfl, rfl, H⟩
          show WP _ _ _ _ _ _ _ 534 [some (.ref B), some (.int a1), some (.int a2), none, none] [.int x208] (sh, f206, g207, fR)
          refine S_if_ne (pc := 534) (tgt := 546) dX12_goesOn_534 rfl (fun hc209 => ?_) (fun hc209 => ?_)
          · replace H := H.1 hc209
            exact H
          · replace H := H.2 hc209
            refine S_aload_n (pc := 537) dX12_goesOn_537 rfl rfl ?_
            refine S_iconst (pc := 538) dX12_goesOn_538 ic1 ?_
            refine S_aload_n (pc := 539) dX12_goesOn_539 rfl rfl ?_
            refine S_get (pc := 540) (v := .int (f206 B 4)) dX12_goesOn_540 flX12_23 (sM_0 hs) rfl ?_
            refine S_callV (As := [.int (nI 1), .int (f206 B 4)]) (mc := 0) (ms := 0) (pc := 543) dX12_goesOn_543 miX12_blame mvX12_blame mlX12_232 rfl (sM_0 hs) rfl rfl rfl (RmOK.of rfl) H ?_
            rintro _ _ ⟨f210, g211, rfl, rfl, H⟩
            show WP _ _ _ _ _ _ _ 546 [some (.ref B), some (.int a1), some (.int a2), none, none] [] (sh, f210, g211, fR)
            exact H
      · replace H := H.2 hc198
        exact H
  · replace H := H.2 hc196
    refine S_aload_n (pc := 427) dX12_goesOn_427 rfl rfl ?_
    refine S_get (pc := 428) (v := .int (f B 8)) dX12_goesOn_428 flX12_36 (sM_0 hs) rfl ?_
    refine S_if_ne (pc := 431) (tgt := 439) dX12_goesOn_431 rfl (fun hc212 => ?_) (fun hc212 => ?_)
    · replace H := H.1 hc212
      refine S_iconst (pc := 439) dX12_goesOn_439 ic0 ?_
      exact S_zreturn dX12_goesOn_440 rfl (Or.inl rfl) H
    · replace H := H.2 hc212
      refine S_aload_n (pc := 434) dX12_goesOn_434 rfl rfl ?_
      refine S_iconst (pc := 435) dX12_goesOn_435 ic1 ?_
      refine S_callV (As := [.int (nI 1)]) (mc := 0) (ms := 0) (pc := 436) dX12_goesOn_436 miX12_joins mvX12_joins mlX12_343 rfl (sM_0 hs) rfl rfl rfl (RmOK.of rfl) H ?_
      rintro _ _ ⟨f213, g214, rfl, rfl, H⟩
      show WP _ _ _ _ _ _ _ 439 [some (.ref B), some (.int a1), some (.int a2), none, none] [] (sh, f213, g214, fR)
      refine S_iconst (pc := 439) dX12_goesOn_439 ic0 ?_
      exact S_zreturn dX12_goesOn_440 rfl (Or.inl rfl) H
set_option maxHeartbeats 2000000 in
set_option maxRecDepth 4000 in
theorem VX12_goesOn_327 {l : Launch} {G : Gx} {d : Nat} {Q : Option Value → Hp → Prop} {sh : Sh} {fR : FRt} {B : Nat} {f : FI} {g : FL} {a1 : Int32} (hs : StM sh fR B)
    (H : (((f B 8) ≤ 0 → Cl l G (d + 1) 0 0 mX12_isWord [.ref B, .long (lN 6385252)] (sh, f, g, fR) (qi sh fR fun x218 f216 g217 => ((x218 = 0 → Cl l G (d + 1) 0 0 mX12_joins [.ref B, .int (nI 1)] (sh, f216, g217, fR) (qv sh fR fun f220 g221 => ((x218 = 0 → inb (f220 B 39) 500 ∧ inb a1 20 ∧ inb a1 20 ∧ Cl l G (d + 1) 0 0 mX12_ahead [.ref B] (sh, (up2 (up2 (up2 (up2 f220 (B + 21) (f220 B 39).toNatClampNeg (nI 42)) B 39 ((f220 B 39) + (nI 1))) (B + 17) a1.toNatClampNeg (nI 0)) (B + 18) a1.toNatClampNeg (nI 1)), g221, fR) (qv sh fR fun f226 g227 => Q (some (.int (nI 1))) (sh, (up2 f226 B 40 (nI 0)), g227, fR))) ∧ (¬ x218 = 0 → inb (f220 B 39) 500 ∧ inb a1 20 ∧ inb a1 20 ∧ Cl l G (d + 1) 0 0 mX12_ahead [.ref B] (sh, (up2 (up2 (up2 (up2 f220 (B + 21) (f220 B 39).toNatClampNeg (nI 41)) B 39 ((f220 B 39) + (nI 1))) (B + 17) a1.toNatClampNeg (nI 0)) (B + 18) a1.toNatClampNeg (nI 1)), g221, fR) (qv sh fR fun f231 g232 => Q (some (.int (nI 1))) (sh, (up2 f231 B 40 (nI 0)), g232, fR)))))) ∧ (¬ x218 = 0 → Cl l G (d + 1) 0 0 mX12_joins [.ref B, .int (nI 2)] (sh, f216, g217, fR) (qv sh fR fun f233 g234 => ((x218 = 0 → inb (f233 B 39) 500 ∧ inb a1 20 ∧ inb a1 20 ∧ Cl l G (d + 1) 0 0 mX12_ahead [.ref B] (sh, (up2 (up2 (up2 (up2 f233 (B + 21) (f233 B 39).toNatClampNeg (nI 42)) B 39 ((f233 B 39) + (nI 1))) (B + 17) a1.toNatClampNeg (nI 0)) (B + 18) a1.toNatClampNeg (nI 1)), g234, fR) (qv sh fR fun f239 g240 => Q (some (.int (nI 1))) (sh, (up2 f239 B 40 (nI 0)), g240, fR))) ∧ (¬ x218 = 0 → inb (f233 B 39) 500 ∧ inb a1 20 ∧ inb a1 20 ∧ Cl l G (d + 1) 0 0 mX12_ahead [.ref B] (sh, (up2 (up2 (up2 (up2 f233 (B + 21) (f233 B 39).toNatClampNeg (nI 41)) B 39 ((f233 B 39) + (nI 1))) (B + 17) a1.toNatClampNeg (nI 0)) (B + 18) a1.toNatClampNeg (nI 1)), g234, fR) (qv sh fR fun f244 g245 => Q (some (.int (nI 1))) (sh, (up2 f244 B 40 (nI 0)), g245, fR))))))))) ∧ (¬ (f B 8) ≤ 0 → Q (some (.int (nI 0))) (sh, f, g, fR)))) :
    LpX12_goesOn_327 l G d Q sh fR B f g a1 := by
  refine S_aload_n (pc := 327) dX12_goesOn_327 rfl rfl ?_
  refine S_get (pc := 328) (v := .int (f B 8)) dX12_goesOn_328 flX12_36 (sM_0 hs) rfl ?_
  refine S_if_le (pc := 331) (tgt := 336) dX12_goesOn_331 rfl (fun hc215 => ?_) (fun hc215 => ?_)
  · replace H := H.1 hc215
    refine S_aload_n (pc := 336) dX12_goesOn_336 rfl rfl ?_
    refine S_ldc2 (pc := 337) (v := lN 6385252) dX12_goesOn_337 (gw 1495 rfl rfl) ?_
    refine S_callV (As := [.long (lN 6385252)]) (mc := 0) (ms := 0) (pc := 340) dX12_goesOn_340 miX12_isWord mvX12_isWord mlX12_326 rfl (sM_0 hs) rfl rfl rfl (RmOK.of rfl) H ?_
    rintro _ _ ⟨x218, f216, g217, rfl, rfl, H⟩
    show WP _ _ _ _ _ _ _ 343 [some (.ref B), some (.int a1), none, none, none] [.int x218] (sh, f216, g217, fR)
    refine S_istore (pc := 343) (L' := [some (.ref B), some (.int a1), none, none, some (.int x218)]) dX12_goesOn_343 (by decide) rfl ?_
    refine S_aload_n (pc := 345) dX12_goesOn_345 rfl rfl ?_
    refine S_iload (pc := 346) dX12_goesOn_346 rfl ?_
    refine S_if_eq (pc := 348) (tgt := 355) dX12_goesOn_348 rfl (fun hc219 => ?_) (fun hc219 => ?_)
    · replace H := H.1 hc219
      refine S_iconst (pc := 355) dX12_goesOn_355 ic1 ?_
      refine S_callV (As := [.int (nI 1)]) (mc := 0) (ms := 0) (pc := 356) dX12_goesOn_356 miX12_joins mvX12_joins mlX12_343 rfl (sM_0 hs) rfl rfl rfl (RmOK.of rfl) H ?_
      rintro _ _ ⟨f220, g221, rfl, rfl, H⟩
      show WP _ _ _ _ _ _ _ 359 [some (.ref B), some (.int a1), none, none, some (.int x218)] [] (sh, f220, g221, fR)
      refine S_aload_n (pc := 359) dX12_goesOn_359 rfl rfl ?_
      refine S_iload (pc := 360) dX12_goesOn_360 rfl ?_
      refine S_if_eq (pc := 362) (tgt := 370) dX12_goesOn_362 rfl (fun hc222 => ?_) (fun hc222 => ?_)
      · replace H := H.1 hc222
        refine S_bipush (pc := 370) dX12_goesOn_370 bp42 ?_
        refine S_callV (As := [.int (nI 42)]) (mc := 0) (ms := 0) (pc := 372) dX12_goesOn_372 miX12_holdsBack mvX12_holdsBack mlX12_330 rfl (sM_0 hs) rfl rfl rfl (RmOK.of rfl) (Q := fun r h => WP _ _ _ _ _ _ _ 375 [some (.ref B), some (.int a1), none, none, some (.int x218)] (r.toList ++ []) h) (Cl.of miX12_holdsBack rfl rfl ?_) (fun _ _ q => q)
        refine S_aload_n (pc := 0) dX12_holdsBack_0 rfl rfl ?_
        refine S_getR (pc := 1) dX12_holdsBack_1 flX12_128 (sM_0 hs) rfl (rM_38 hs) ?_
        refine S_aload_n (pc := 4) dX12_holdsBack_4 rfl rfl ?_
        refine S_get (pc := 5) (v := .int (f220 B 39)) dX12_holdsBack_5 flX12_131 (sM_0 hs) rfl ?_
        refine S_iload_n (pc := 8) dX12_holdsBack_8 rfl rfl ?_
        obtain ⟨hb223, H⟩ := H
        refine S_iast (pc := 9) dX12_holdsBack_9 (sM_21 hs) (Nat.succ_pos _) hb223 ?_
        refine S_aload_n (pc := 10) dX12_holdsBack_10 rfl rfl ?_
        refine S_dup (pc := 11) dX12_holdsBack_11 rfl ?_
        refine S_get (pc := 12) (v := .int ((up2 f220 (B + 21) (f220 B 39).toNatClampNeg (nI 42)) B 39)) dX12_holdsBack_12 flX12_131 (sM_0 hs) rfl ?_
        refine S_eqi (x := f220 B 39) ((up2_r (by omega)).trans rfl) ?_
        refine S_iconst (pc := 15) dX12_holdsBack_15 ic1 ?_
        refine S_iadd (pc := 16) dX12_holdsBack_16 ?_
        refine S_putI (pc := 17) dX12_holdsBack_17 flX12_131 (sM_0 hs) hs.2.2 (nf_12_39) rfl rfl (fun _ => rfl) ?_
        refine S_vreturn dX12_holdsBack_20 rfl ?_
        show WP _ _ _ _ _ _ _ 375 [some (.ref B), some (.int a1), none, none, some (.int x218)] [] (sh, (up2 (up2 f220 (B + 21) (f220 B 39).toNatClampNeg (nI 42)) B 39 ((f220 B 39) + (nI 1))), g221, fR)
        refine S_aload_n (pc := 375) dX12_goesOn_375 rfl rfl ?_
        refine S_getR (pc := 376) dX12_goesOn_376 flX12_109 (sM_0 hs) rfl (rM_32 hs) ?_
        refine S_iload_n (pc := 379) dX12_goesOn_379 rfl rfl ?_
        refine S_iconst (pc := 380) dX12_goesOn_380 ic0 ?_
        obtain ⟨hb224, H⟩ := H
        refine S_iast (pc := 381) dX12_goesOn_381 (sM_17 hs) (Nat.succ_pos _) hb224 ?_
        refine S_aload_n (pc := 382) dX12_goesOn_382 rfl rfl ?_
        refine S_getR (pc := 383) dX12_goesOn_383 flX12_112 (sM_0 hs) rfl (rM_33 hs) ?_
        refine S_iload_n (pc := 386) dX12_goesOn_386 rfl rfl ?_
        refine S_iconst (pc := 387) dX12_goesOn_387 ic1 ?_
        obtain ⟨hb225, H⟩ := H
        refine S_zast (pc := 388) dX12_goesOn_388 (sM_18 hs) (Nat.succ_pos _) hb225 ?_
        show WP _ _ _ _ _ _ _ 389 _ _ (sh, (up2 (up2 (up2 (up2 f220 (B + 21) (f220 B 39).toNatClampNeg (nI 42)) B 39 ((f220 B 39) + (nI 1))) (B + 17) a1.toNatClampNeg (nI 0)) (B + 18) a1.toNatClampNeg (nI 1)), g221, fR)
        refine S_aload_n (pc := 389) dX12_goesOn_389 rfl rfl ?_
        refine S_callV (As := []) (mc := 0) (ms := 0) (pc := 390) dX12_goesOn_390 miX12_ahead mvX12_ahead mlX12_249 rfl (sM_0 hs) rfl rfl rfl (RmOK.of rfl) H ?_
        rintro _ _ ⟨f226, g227, rfl, rfl, H⟩
        show WP _ _ _ _ _ _ _ 393 [some (.ref B), some (.int a1), none, none, some (.int x218)] [] (sh, f226, g227, fR)
        refine S_aload_n (pc := 393) dX12_goesOn_393 rfl rfl ?_
        refine S_iconst (pc := 394) dX12_goesOn_394 ic0 ?_
        refine S_putI (pc := 395) dX12_goesOn_395 flX12_134 (sM_0 hs) hs.2.2 (nf_12_40) nb0 rfl (fun _ => rfl) ?_
        refine S_iconst (pc := 398) dX12_goesOn_398 ic1 ?_
        exact S_zreturn dX12_goesOn_399 rfl (Or.inr rfl) H
      · replace H := H.2 hc222
        refine S_bipush (pc := 365) dX12_goesOn_365 bp41 ?_
        refine S_goto (pc := 367) (tgt := 372) dX12_goesOn_367 rfl ?_
        refine S_callV (As := [.int (nI 41)]) (mc := 0) (ms := 0) (pc := 372) dX12_goesOn_372 miX12_holdsBack mvX12_holdsBack mlX12_330 rfl (sM_0 hs) rfl rfl rfl (RmOK.of rfl) (Q := fun r h => WP _ _ _ _ _ _ _ 375 [some (.ref B), some (.int a1), none, none, some (.int x218)] (r.toList ++ []) h) (Cl.of miX12_holdsBack rfl rfl ?_) (fun _ _ q => q)
        refine S_aload_n (pc := 0) dX12_holdsBack_0 rfl rfl ?_
        refine S_getR (pc := 1) dX12_holdsBack_1 flX12_128 (sM_0 hs) rfl (rM_38 hs) ?_
        refine S_aload_n (pc := 4) dX12_holdsBack_4 rfl rfl ?_
        refine S_get (pc := 5) (v := .int (f220 B 39)) dX12_holdsBack_5 flX12_131 (sM_0 hs) rfl ?_
        refine S_iload_n (pc := 8) dX12_holdsBack_8 rfl rfl ?_
        obtain ⟨hb228, H⟩ := H
        refine S_iast (pc := 9) dX12_holdsBack_9 (sM_21 hs) (Nat.succ_pos _) hb228 ?_
        refine S_aload_n (pc := 10) dX12_holdsBack_10 rfl rfl ?_
        refine S_dup (pc := 11) dX12_holdsBack_11 rfl ?_
        refine S_get (pc := 12) (v := .int ((up2 f220 (B + 21) (f220 B 39).toNatClampNeg (nI 41)) B 39)) dX12_holdsBack_12 flX12_131 (sM_0 hs) rfl ?_
        refine S_eqi (x := f220 B 39) ((up2_r (by omega)).trans rfl) ?_
        refine S_iconst (pc := 15) dX12_holdsBack_15 ic1 ?_
        refine S_iadd (pc := 16) dX12_holdsBack_16 ?_
        refine S_putI (pc := 17) dX12_holdsBack_17 flX12_131 (sM_0 hs) hs.2.2 (nf_12_39) rfl rfl (fun _ => rfl) ?_
        refine S_vreturn dX12_holdsBack_20 rfl ?_
        show WP _ _ _ _ _ _ _ 375 [some (.ref B), some (.int a1), none, none, some (.int x218)] [] (sh, (up2 (up2 f220 (B + 21) (f220 B 39).toNatClampNeg (nI 41)) B 39 ((f220 B 39) + (nI 1))), g221, fR)
        refine S_aload_n (pc := 375) dX12_goesOn_375 rfl rfl ?_
        refine S_getR (pc := 376) dX12_goesOn_376 flX12_109 (sM_0 hs) rfl (rM_32 hs) ?_
        refine S_iload_n (pc := 379) dX12_goesOn_379 rfl rfl ?_
        refine S_iconst (pc := 380) dX12_goesOn_380 ic0 ?_
        obtain ⟨hb229, H⟩ := H
        refine S_iast (pc := 381) dX12_goesOn_381 (sM_17 hs) (Nat.succ_pos _) hb229 ?_
        refine S_aload_n (pc := 382) dX12_goesOn_382 rfl rfl ?_
        refine S_getR (pc := 383) dX12_goesOn_383 flX12_112 (sM_0 hs) rfl (rM_33 hs) ?_
        refine S_iload_n (pc := 386) dX12_goesOn_386 rfl rfl ?_
        refine S_iconst (pc := 387) dX12_goesOn_387 ic1 ?_
        obtain ⟨hb230, H⟩ := H
        refine S_zast (pc := 388) dX12_goesOn_388 (sM_18 hs) (Nat.succ_pos _) hb230 ?_
        show WP _ _ _ _ _ _ _ 389 _ _ (sh, (up2 (up2 (up2 (up2 f220 (B + 21) (f220 B 39).toNatClampNeg (nI 41)) B 39 ((f220 B 39) + (nI 1))) (B + 17) a1.toNatClampNeg (nI 0)) (B + 18) a1.toNatClampNeg (nI 1)), g221, fR)
        refine S_aload_n (pc := 389) dX12_goesOn_389 rfl rfl ?_
        refine S_callV (As := []) (mc := 0) (ms := 0) (pc := 390) dX12_goesOn_390 miX12_ahead mvX12_ahead mlX12_249 rfl (sM_0 hs) rfl rfl rfl (RmOK.of rfl) H ?_
        rintro _ _ ⟨f231, g232, rfl, rfl, H⟩
        show WP _ _ _ _ _ _ _ 393 [some (.ref B), some (.int a1), none, none, some (.int x218)] [] (sh, f231, g232, fR)
        refine S_aload_n (pc := 393) dX12_goesOn_393 rfl rfl ?_
        refine S_iconst (pc := 394) dX12_goesOn_394 ic0 ?_
        refine S_putI (pc := 395) dX12_goesOn_395 flX12_134 (sM_0 hs) hs.2.2 (nf_12_40) nb0 rfl (fun _ => rfl) ?_
        refine S_iconst (pc := 398) dX12_goesOn_398 ic1 ?_
        exact S_zreturn dX12_goesOn_399 rfl (Or.inr rfl) H
    · replace H := H.2 hc219
      refine S_iconst (pc := 351) dX12_goesOn_351 ic2 ?_
      refine S_goto (pc := 352) (tgt := 356) dX12_goesOn_352 rfl ?_
      refine S_callV (As := [.int (nI 2)]) (mc := 0) (ms := 0) (pc := 356) dX12_goesOn_356 miX12_joins mvX12_joins mlX12_343 rfl (sM_0 hs) rfl rfl rfl (RmOK.of rfl) H ?_
      rintro _ _ ⟨f233, g234, rfl, rfl, H⟩
      show WP _ _ _ _ _ _ _ 359 [some (.ref B), some (.int a1), none, none, some (.int x218)] [] (sh, f233, g234, fR)
      refine S_aload_n (pc := 359) dX12_goesOn_359 rfl rfl ?_
      refine S_iload (pc := 360) dX12_goesOn_360 rfl ?_
      refine S_if_eq (pc := 362) (tgt := 370) dX12_goesOn_362 rfl (fun hc235 => ?_) (fun hc235 => ?_)
      · replace H := H.1 hc235
        refine S_bipush (pc := 370) dX12_goesOn_370 bp42 ?_
        refine S_callV (As := [.int (nI 42)]) (mc := 0) (ms := 0) (pc := 372) dX12_goesOn_372 miX12_holdsBack mvX12_holdsBack mlX12_330 rfl (sM_0 hs) rfl rfl rfl (RmOK.of rfl) (Q := fun r h => WP _ _ _ _ _ _ _ 375 [some (.ref B), some (.int a1), none, none, some (.int x218)] (r.toList ++ []) h) (Cl.of miX12_holdsBack rfl rfl ?_) (fun _ _ q => q)
        refine S_aload_n (pc := 0) dX12_holdsBack_0 rfl rfl ?_
        refine S_getR (pc := 1) dX12_holdsBack_1 flX12_128 (sM_0 hs) rfl (rM_38 hs) ?_
        refine S_aload_n (pc := 4) dX12_holdsBack_4 rfl rfl ?_
        refine S_get (pc := 5) (v := .int (f233 B 39)) dX12_holdsBack_5 flX12_131 (sM_0 hs) rfl ?_
        refine S_iload_n (pc := 8) dX12_holdsBack_8 rfl rfl ?_
        obtain ⟨hb236, H⟩ := H
        refine S_iast (pc := 9) dX12_holdsBack_9 (sM_21 hs) (Nat.succ_pos _) hb236 ?_
        refine S_aload_n (pc := 10) dX12_holdsBack_10 rfl rfl ?_
        refine S_dup (pc := 11) dX12_holdsBack_11 rfl ?_
        refine S_get (pc := 12) (v := .int ((up2 f233 (B + 21) (f233 B 39).toNatClampNeg (nI 42)) B 39)) dX12_holdsBack_12 flX12_131 (sM_0 hs) rfl ?_
        refine S_eqi (x := f233 B 39) ((up2_r (by omega)).trans rfl) ?_
        refine S_iconst (pc := 15) dX12_holdsBack_15 ic1 ?_
        refine S_iadd (pc := 16) dX12_holdsBack_16 ?_
        refine S_putI (pc := 17) dX12_holdsBack_17 flX12_131 (sM_0 hs) hs.2.2 (nf_12_39) rfl rfl (fun _ => rfl) ?_
        refine S_vreturn dX12_holdsBack_20 rfl ?_
        show WP _ _ _ _ _ _ _ 375 [some (.ref B), some (.int a1), none, none, some (.int x218)] [] (sh, (up2 (up2 f233 (B + 21) (f233 B 39).toNatClampNeg (nI 42)) B 39 ((f233 B 39) + (nI 1))), g234, fR)
        refine S_aload_n (pc := 375) dX12_goesOn_375 rfl rfl ?_
        refine S_getR (pc := 376) dX12_goesOn_376 flX12_109 (sM_0 hs) rfl (rM_32 hs) ?_
        refine S_iload_n (pc := 379) dX12_goesOn_379 rfl rfl ?_
        refine S_iconst (pc := 380) dX12_goesOn_380 ic0 ?_
        obtain ⟨hb237, H⟩ := H
        refine S_iast (pc := 381) dX12_goesOn_381 (sM_17 hs) (Nat.succ_pos _) hb237 ?_
        refine S_aload_n (pc := 382) dX12_goesOn_382 rfl rfl ?_
        refine S_getR (pc := 383) dX12_goesOn_383 flX12_112 (sM_0 hs) rfl (rM_33 hs) ?_
        refine S_iload_n (pc := 386) dX12_goesOn_386 rfl rfl ?_
        refine S_iconst (pc := 387) dX12_goesOn_387 ic1 ?_
        obtain ⟨hb238, H⟩ := H
        refine S_zast (pc := 388) dX12_goesOn_388 (sM_18 hs) (Nat.succ_pos _) hb238 ?_
        show WP _ _ _ _ _ _ _ 389 _ _ (sh, (up2 (up2 (up2 (up2 f233 (B + 21) (f233 B 39).toNatClampNeg (nI 42)) B 39 ((f233 B 39) + (nI 1))) (B + 17) a1.toNatClampNeg (nI 0)) (B + 18) a1.toNatClampNeg (nI 1)), g234, fR)
        refine S_aload_n (pc := 389) dX12_goesOn_389 rfl rfl ?_
        refine S_callV (As := []) (mc := 0) (ms := 0) (pc := 390) dX12_goesOn_390 miX12_ahead mvX12_ahead mlX12_249 rfl (sM_0 hs) rfl rfl rfl (RmOK.of rfl) H ?_
        rintro _ _ ⟨f239, g240, rfl, rfl, H⟩
        show WP _ _ _ _ _ _ _ 393 [some (.ref B), some (.int a1), none, none, some (.int x218)] [] (sh, f239, g240, fR)
        refine S_aload_n (pc := 393) dX12_goesOn_393 rfl rfl ?_
        refine S_iconst (pc := 394) dX12_goesOn_394 ic0 ?_
        refine S_putI (pc := 395) dX12_goesOn_395 flX12_134 (sM_0 hs) hs.2.2 (nf_12_40) nb0 rfl (fun _ => rfl) ?_
        refine S_iconst (pc := 398) dX12_goesOn_398 ic1 ?_
        exact S_zreturn dX12_goesOn_399 rfl (Or.inr rfl) H
      · replace H := H.2 hc235
        refine S_bipush (pc := 365) dX12_goesOn_365 bp41 ?_
        refine S_goto (pc := 367) (tgt := 372) dX12_goesOn_367 rfl ?_
        refine S_callV (As := [.int (nI 41)]) (mc := 0) (ms := 0) (pc := 372) dX12_goesOn_372 miX12_holdsBack mvX12_holdsBack mlX12_330 rfl (sM_0 hs) rfl rfl rfl (RmOK.of rfl) (Q := fun r h => WP _ _ _ _ _ _ _ 375 [some (.ref B), some (.int a1), none, none, some (.int x218)] (r.toList ++ []) h) (Cl.of miX12_holdsBack rfl rfl ?_) (fun _ _ q => q)
        refine S_aload_n (pc := 0) dX12_holdsBack_0 rfl rfl ?_
        refine S_getR (pc := 1) dX12_holdsBack_1 flX12_128 (sM_0 hs) rfl (rM_38 hs) ?_
        refine S_aload_n (pc := 4) dX12_holdsBack_4 rfl rfl ?_
        refine S_get (pc := 5) (v := .int (f233 B 39)) dX12_holdsBack_5 flX12_131 (sM_0 hs) rfl ?_
        refine S_iload_n (pc := 8) dX12_holdsBack_8 rfl rfl ?_
        obtain ⟨hb241, H⟩ := H
        refine S_iast (pc := 9) dX12_holdsBack_9 (sM_21 hs) (Nat.succ_pos _) hb241 ?_
        refine S_aload_n (pc := 10) dX12_holdsBack_10 rfl rfl ?_
        refine S_dup (pc := 11) dX12_holdsBack_11 rfl ?_
        refine S_get (pc := 12) (v := .int ((up2 f233 (B + 21) (f233 B 39).toNatClampNeg (nI 41)) B 39)) dX12_holdsBack_12 flX12_131 (sM_0 hs) rfl ?_
        refine S_eqi (x := f233 B 39) ((up2_r (by omega)).trans rfl) ?_
        refine S_iconst (pc := 15) dX12_holdsBack_15 ic1 ?_
        refine S_iadd (pc := 16) dX12_holdsBack_16 ?_
        refine S_putI (pc := 17) dX12_holdsBack_17 flX12_131 (sM_0 hs) hs.2.2 (nf_12_39) rfl rfl (fun _ => rfl) ?_
        refine S_vreturn dX12_holdsBack_20 rfl ?_
        show WP _ _ _ _ _ _ _ 375 [some (.ref B), some (.int a1), none, none, some (.int x218)] [] (sh, (up2 (up2 f233 (B + 21) (f233 B 39).toNatClampNeg (nI 41)) B 39 ((f233 B 39) + (nI 1))), g234, fR)
        refine S_aload_n (pc := 375) dX12_goesOn_375 rfl rfl ?_
        refine S_getR (pc := 376) dX12_goesOn_376 flX12_109 (sM_0 hs) rfl (rM_32 hs) ?_
        refine S_iload_n (pc := 379) dX12_goesOn_379 rfl rfl ?_
        refine S_iconst (pc := 380) dX12_goesOn_380 ic0 ?_
        obtain ⟨hb242, H⟩ := H
        refine S_iast (pc := 381) dX12_goesOn_381 (sM_17 hs) (Nat.succ_pos _) hb242 ?_
        refine S_aload_n (pc := 382) dX12_goesOn_382 rfl rfl ?_
        refine S_getR (pc := 383) dX12_goesOn_383 flX12_112 (sM_0 hs) rfl (rM_33 hs) ?_
        refine S_iload_n (pc := 386) dX12_goesOn_386 rfl rfl ?_
        refine S_iconst (pc := 387) dX12_goesOn_387 ic1 ?_
        obtain ⟨hb243, H⟩ := H
        refine S_zast (pc := 388) dX12_goesOn_388 (sM_18 hs) (Nat.succ_pos _) hb243 ?_
        show WP _ _ _ _ _ _ _ 389 _ _ (sh, (up2 (up2 (up2 (up2 f233 (B + 21) (f233 B 39).toNatClampNeg (nI 41)) B 39 ((f233 B 39) + (nI 1))) (B + 17) a1.toNatClampNeg (nI 0)) (B + 18) a1.toNatClampNeg (nI 1)), g234, fR)
        refine S_aload_n (pc := 389) dX12_goesOn_389 rfl rfl ?_
        refine S_callV (As := []) (mc := 0) (ms := 0) (pc := 390) dX12_goesOn_390 miX12_ahead mvX12_ahead mlX12_249 rfl (sM_0 hs) rfl rfl rfl (RmOK.of rfl) H ?_
        rintro _ _ ⟨f244, g245, rfl, rfl, H⟩
        show WP _ _ _ _ _ _ _ 393 [some (.ref B), some (.int a1), none, none, some (.int x218)] [] (sh, f244, g245, fR)
        refine S_aload_n (pc := 393) dX12_goesOn_393 rfl rfl ?_
        refine S_iconst (pc := 394) dX12_goesOn_394 ic0 ?_
        refine S_putI (pc := 395) dX12_goesOn_395 flX12_134 (sM_0 hs) hs.2.2 (nf_12_40) nb0 rfl (fun _ => rfl) ?_
        refine S_iconst (pc := 398) dX12_goesOn_398 ic1 ?_
        exact S_zreturn dX12_goesOn_399 rfl (Or.inr rfl) H
  · replace H := H.2 hc215
    refine S_iconst (pc := 334) dX12_goesOn_334 ic0 ?_
    exact S_zreturn dX12_goesOn_335 rfl (Or.inl rfl) H
set_option maxHeartbeats 2000000 in
set_option maxRecDepth 4000 in
theorem VX12_goesOn_452 {l : Launch} {G : Gx} {d : Nat} {Q : Option Value → Hp → Prop} {sh : Sh} {fR : FRt} {B : Nat} {f : FI} {g : FL} {a1 : Int32} {a2 : Int32} (hs : StM sh fR B)
    (H : Cl l G (d + 1) 0 0 mX12_isSign [.ref B, .int (nI 44)] (sh, f, g, fR) (qi sh fR fun x248 f246 g247 => ((¬ x248 = 0 → LpX12_goesOn_470 l G d Q sh fR B f246 g247 a1 a2) ∧ (x248 = 0 → Cl l G (d + 1) 0 0 mX12_blame [.ref B, .int (nI 1), .int (f246 B 4)] (sh, f246, g247, fR) (qv sh fR fun f250 g251 => LpX12_goesOn_470 l G d Q sh fR B f250 g251 a1 a2))))) :
    LpX12_goesOn_452 l G d Q sh fR B f g a1 a2 := by
  refine S_aload_n (pc := 452) dX12_goesOn_452 rfl rfl ?_
  refine S_bipush (pc := 453) dX12_goesOn_453 bp44 ?_
  refine S_callV (As := [.int (nI 44)]) (mc := 0) (ms := 0) (pc := 455) dX12_goesOn_455 miX12_isSign mvX12_isSign mlX12_246 rfl (sM_0 hs) rfl rfl rfl (RmOK.of rfl) H ?_
  rintro _ _ ⟨x248, f246, g247, rfl, rfl, H⟩
  show WP _ _ _ _ _ _ _ 458 [some (.ref B), some (.int a1), some (.int a2), none, none] [.int x248] (sh, f246, g247, fR)
  refine S_if_ne (pc := 458) (tgt := 470) dX12_goesOn_458 rfl (fun hc249 => ?_) (fun hc249 => ?_)
  · replace H := H.1 hc249
    exact H
  · replace H := H.2 hc249
    refine S_aload_n (pc := 461) dX12_goesOn_461 rfl rfl ?_
    refine S_iconst (pc := 462) dX12_goesOn_462 ic1 ?_
    refine S_aload_n (pc := 463) dX12_goesOn_463 rfl rfl ?_
    refine S_get (pc := 464) (v := .int (f246 B 4)) dX12_goesOn_464 flX12_23 (sM_0 hs) rfl ?_
    refine S_callV (As := [.int (nI 1), .int (f246 B 4)]) (mc := 0) (ms := 0) (pc := 467) dX12_goesOn_467 miX12_blame mvX12_blame mlX12_232 rfl (sM_0 hs) rfl rfl rfl (RmOK.of rfl) H ?_
    rintro _ _ ⟨f250, g251, rfl, rfl, H⟩
    show WP _ _ _ _ _ _ _ 470 [some (.ref B), some (.int a1), some (.int a2), none, none] [] (sh, f250, g251, fR)
    exact H
set_option maxHeartbeats 2000000 in
set_option maxRecDepth 4000 in
theorem VX12_goesOn_546 {l : Launch} {G : Gx} {d : Nat} {Q : Option Value → Hp → Prop} {sh : Sh} {fR : FRt} {B : Nat} {f : FI} {g : FL} {a1 : Int32} {a2 : Int32} (hs : StM sh fR B)
    (H : (((f B 8) ≤ 0 → Cl l G (d + 1) 0 0 mX12_joins [.ref B, .int (nI 1)] (sh, f, g, fR) (qv sh fR fun f253 g254 => ((¬ a2 = (nI 4) → LpX12_goesOn_596 l G d Q sh fR B (up2 (up2 f253 B 36 ((f253 B 36) - (nI 1))) B 37 ((f253 B 37) - (nI 1))) g254 a2) ∧ (a2 = (nI 4) → inb a1 20 ∧ inb (((nI 1600) * (f253 B 29)) + (f253 B 28)) 3200 ∧ inb (((nI 1600) * (f253 B 29)) + (f253 B 28)) 3200 ∧ LpX12_goesOn_596 l G d Q sh fR B (up2 (up2 (up2 (up2 (up2 f253 B 36 ((f253 B 36) - (nI 1))) B 37 ((f253 B 37) - (nI 1))) (B + 13) (((nI 1600) * (f253 B 29)) + (f253 B 28)).toNatClampNeg (f253 (B + 19) a1.toNatClampNeg)) (B + 14) (((nI 1600) * (f253 B 29)) + (f253 B 28)).toNatClampNeg (nI 0)) B 28 ((f253 B 28) + (nI 1))) g254 a2)))) ∧ (¬ (f B 8) ≤ 0 → Q (some (.int (nI 0))) (sh, f, g, fR)))) :
    LpX12_goesOn_546 l G d Q sh fR B f g a1 a2 := by
  refine S_aload_n (pc := 546) dX12_goesOn_546 rfl rfl ?_
  refine S_get (pc := 547) (v := .int (f B 8)) dX12_goesOn_547 flX12_36 (sM_0 hs) rfl ?_
  refine S_if_le (pc := 550) (tgt := 555) dX12_goesOn_550 rfl (fun hc252 => ?_) (fun hc252 => ?_)
  · replace H := H.1 hc252
    refine S_aload_n (pc := 555) dX12_goesOn_555 rfl rfl ?_
    refine S_iconst (pc := 556) dX12_goesOn_556 ic1 ?_
    refine S_callV (As := [.int (nI 1)]) (mc := 0) (ms := 0) (pc := 557) dX12_goesOn_557 miX12_joins mvX12_joins mlX12_343 rfl (sM_0 hs) rfl rfl rfl (RmOK.of rfl) H ?_
    rintro _ _ ⟨f253, g254, rfl, rfl, H⟩
    show WP _ _ _ _ _ _ _ 560 [some (.ref B), some (.int a1), some (.int a2), none, none] [] (sh, f253, g254, fR)
    refine S_aload_n (pc := 560) dX12_goesOn_560 rfl rfl ?_
    refine S_dup (pc := 561) dX12_goesOn_561 rfl ?_
    refine S_get (pc := 562) (v := .int (f253 B 36)) dX12_goesOn_562 flX12_122 (sM_0 hs) rfl ?_
    refine S_iconst (pc := 565) dX12_goesOn_565 ic1 ?_
    refine S_isub (pc := 566) dX12_goesOn_566 ?_
    refine S_putI (pc := 567) dX12_goesOn_567 flX12_122 (sM_0 hs) hs.2.2 (nf_12_36) rfl rfl (fun _ => rfl) ?_
    refine S_aload_n (pc := 570) dX12_goesOn_570 rfl rfl ?_
    refine S_dup (pc := 571) dX12_goesOn_571 rfl ?_
    refine S_get (pc := 572) (v := .int ((up2 f253 B 36 ((f253 B 36) - (nI 1))) B 37)) dX12_goesOn_572 flX12_125 (sM_0 hs) rfl ?_
    refine S_eqi (x := f253 B 37) ((up2_k (by decide)).trans rfl) ?_
    refine S_iconst (pc := 575) dX12_goesOn_575 ic1 ?_
    refine S_isub (pc := 576) dX12_goesOn_576 ?_
    refine S_putI (pc := 577) dX12_goesOn_577 flX12_125 (sM_0 hs) hs.2.2 (nf_12_37) rfl rfl (fun _ => rfl) ?_
    refine S_iload_n (pc := 580) dX12_goesOn_580 rfl rfl ?_
    refine S_iconst (pc := 581) dX12_goesOn_581 ic4 ?_
    refine S_icmp_ne (pc := 582) (tgt := 596) dX12_goesOn_582 rfl (fun hc255 => ?_) (fun hc255 => ?_)
    · replace H := H.1 hc255
      exact S_weak (L' := [some (.ref B), none, some (.int a2), none, none]) (ls_e (ls_n (ls_e (ls_e (ls_e ls_0))))) H
    · replace H := H.2 hc255
      refine S_aload_n (pc := 585) dX12_goesOn_585 rfl rfl ?_
      refine S_aload_n (pc := 586) dX12_goesOn_586 rfl rfl ?_
      refine S_getR (pc := 587) dX12_goesOn_587 flX12_116 (sM_0 hs) rfl (rM_34 hs) ?_
      refine S_iload_n (pc := 590) dX12_goesOn_590 rfl rfl ?_
      obtain ⟨hb256, H⟩ := H
      refine S_iald (pc := 591) dX12_goesOn_591 (sM_19 hs) hb256 ?_
      refine S_eqi (x := f253 (B + 19) a1.toNatClampNeg) ((up2_r (by omega)).trans ((up2_r (by omega)).trans rfl)) ?_
      refine S_iconst (pc := 592) dX12_goesOn_592 ic0 ?_
      refine S_callV (As := [.int (f253 (B + 19) a1.toNatClampNeg), .int (nI 0)]) (mc := 0) (ms := 0) (pc := 593) dX12_goesOn_593 miX12_add mvX12_add mlX12_317 rfl (sM_0 hs) rfl rfl rfl (RmOK.of rfl) (Q := fun r h => WP _ _ _ _ _ _ _ 596 [some (.ref B), some (.int a1), some (.int a2), none, none] (r.toList ++ []) h) (Cl.of miX12_add rfl rfl ?_) (fun _ _ q => q)
      refine S_aload_n (pc := 0) dX12_add_0 rfl rfl ?_
      refine S_getR (pc := 1) dX12_add_1 flX12_87 (sM_0 hs) rfl (rM_25 hs) ?_
      refine S_sipush (pc := 4) dX12_add_4 sp1600 ?_
      refine S_aload_n (pc := 7) dX12_add_7 rfl rfl ?_
      refine S_get (pc := 8) (v := .int ((up2 (up2 f253 B 36 ((f253 B 36) - (nI 1))) B 37 ((f253 B 37) - (nI 1))) B 29)) dX12_add_8 flX12_100 (sM_0 hs) rfl ?_
      refine S_eqi (x := f253 B 29) ((up2_k (by decide)).trans ((up2_k (by decide)).trans rfl)) ?_
      refine S_imul (pc := 11) dX12_add_11 ?_
      refine S_aload_n (pc := 12) dX12_add_12 rfl rfl ?_
      refine S_get (pc := 13) (v := .int ((up2 (up2 f253 B 36 ((f253 B 36) - (nI 1))) B 37 ((f253 B 37) - (nI 1))) B 28)) dX12_add_13 flX12_97 (sM_0 hs) rfl ?_
      refine S_eqi (x := f253 B 28) ((up2_k (by decide)).trans ((up2_k (by decide)).trans rfl)) ?_
      refine S_iadd (pc := 16) dX12_add_16 ?_
      refine S_iload_n (pc := 17) dX12_add_17 rfl rfl ?_
      obtain ⟨hb257, H⟩ := H
      refine S_iast (pc := 18) dX12_add_18 (sM_13 hs) (Nat.succ_pos _) hb257 ?_
      refine S_aload_n (pc := 19) dX12_add_19 rfl rfl ?_
      refine S_getR (pc := 20) dX12_add_20 flX12_90 (sM_0 hs) rfl (rM_26 hs) ?_
      refine S_sipush (pc := 23) dX12_add_23 sp1600 ?_
      refine S_aload_n (pc := 26) dX12_add_26 rfl rfl ?_
      refine S_get (pc := 27) (v := .int ((up2 (up2 (up2 f253 B 36 ((f253 B 36) - (nI 1))) B 37 ((f253 B 37) - (nI 1))) (B + 13) (((nI 1600) * (f253 B 29)) + (f253 B 28)).toNatClampNeg (f253 (B + 19) a1.toNatClampNeg)) B 29)) dX12_add_27 flX12_100 (sM_0 hs) rfl ?_
      refine S_eqi (x := f253 B 29) ((up2_r (by omega)).trans ((up2_k (by decide)).trans ((up2_k (by decide)).trans rfl))) ?_
      refine S_imul (pc := 30) dX12_add_30 ?_
      refine S_aload_n (pc := 31) dX12_add_31 rfl rfl ?_
      refine S_get (pc := 32) (v := .int ((up2 (up2 (up2 f253 B 36 ((f253 B 36) - (nI 1))) B 37 ((f253 B 37) - (nI 1))) (B + 13) (((nI 1600) * (f253 B 29)) + (f253 B 28)).toNatClampNeg (f253 (B + 19) a1.toNatClampNeg)) B 28)) dX12_add_32 flX12_97 (sM_0 hs) rfl ?_
      refine S_eqi (x := f253 B 28) ((up2_r (by omega)).trans ((up2_k (by decide)).trans ((up2_k (by decide)).trans rfl))) ?_
      refine S_iadd (pc := 35) dX12_add_35 ?_
      refine S_iload_n (pc := 36) dX12_add_36 rfl rfl ?_
      obtain ⟨hb258, H⟩ := H
      refine S_iast (pc := 37) dX12_add_37 (sM_14 hs) (Nat.succ_pos _) hb258 ?_
      refine S_aload_n (pc := 38) dX12_add_38 rfl rfl ?_
      refine S_dup (pc := 39) dX12_add_39 rfl ?_
      refine S_get (pc := 40) (v := .int ((up2 (up2 (up2 (up2 f253 B 36 ((f253 B 36) - (nI 1))) B 37 ((f253 B 37) - (nI 1))) (B + 13) (((nI 1600) * (f253 B 29)) + (f253 B 28)).toNatClampNeg (f253 (B + 19) a1.toNatClampNeg)) (B + 14) (((nI 1600) * (f253 B 29)) + (f253 B 28)).toNatClampNeg (nI 0)) B 28)) dX12_add_40 flX12_97 (sM_0 hs) rfl ?_
      refine S_eqi (x := f253 B 28) ((up2_r (by omega)).trans ((up2_r (by omega)).trans ((up2_k (by decide)).trans ((up2_k (by decide)).trans rfl)))) ?_
      refine S_iconst (pc := 43) dX12_add_43 ic1 ?_
      refine S_iadd (pc := 44) dX12_add_44 ?_
      refine S_putI (pc := 45) dX12_add_45 flX12_97 (sM_0 hs) hs.2.2 (nf_12_28) rfl rfl (fun _ => rfl) ?_
      refine S_vreturn dX12_add_48 rfl ?_
      show WP _ _ _ _ _ _ _ 596 [some (.ref B), some (.int a1), some (.int a2), none, none] [] (sh, (up2 (up2 (up2 (up2 (up2 f253 B 36 ((f253 B 36) - (nI 1))) B 37 ((f253 B 37) - (nI 1))) (B + 13) (((nI 1600) * (f253 B 29)) + (f253 B 28)).toNatClampNeg (f253 (B + 19) a1.toNatClampNeg)) (B + 14) (((nI 1600) * (f253 B 29)) + (f253 B 28)).toNatClampNeg (nI 0)) B 28 ((f253 B 28) + (nI 1))), g254, fR)
      exact S_weak (L' := [some (.ref B), none, some (.int a2), none, none]) (ls_e (ls_n (ls_e (ls_e (ls_e ls_0))))) H
  · replace H := H.2 hc252
    refine S_iconst (pc := 553) dX12_goesOn_553 ic0 ?_
    exact S_zreturn dX12_goesOn_554 rfl (Or.inl rfl) H
set_option maxHeartbeats 2000000 in
set_option maxRecDepth 4000 in
theorem VX12_goesOn_470 {l : Launch} {G : Gx} {d : Nat} {Q : Option Value → Hp → Prop} {sh : Sh} {fR : FRt} {B : Nat} {f : FI} {g : FL} {a1 : Int32} {a2 : Int32} (hs : StM sh fR B)
    (H : (((f B 8) ≤ 0 → Cl l G (d + 1) 0 0 mX12_joins [.ref B, .int (nI 1)] (sh, f, g, fR) (qv sh fR fun f260 g261 => ((¬ a2 = (nI 3) → inb a1 20 ∧ inb a1 20 ∧ Cl l G (d + 1) 0 0 mX12_ahead [.ref B] (sh, (up2 (up2 f260 (B + 16) a1.toNatClampNeg (nI 3)) (B + 17) a1.toNatClampNeg (nI 0)), g261, fR) (qv sh fR fun f265 g266 => Q (some (.int (nI 1))) (sh, (up2 f265 B 40 (nI 0)), g266, fR))) ∧ (a2 = (nI 3) → inb a1 20 ∧ inb a1 20 ∧ Cl l G (d + 1) 0 0 mX12_ahead [.ref B] (sh, (up2 (up2 f260 (B + 16) a1.toNatClampNeg (nI 4)) (B + 17) a1.toNatClampNeg (nI 0)), g261, fR) (qv sh fR fun f269 g270 => Q (some (.int (nI 1))) (sh, (up2 f269 B 40 (nI 0)), g270, fR)))))) ∧ (¬ (f B 8) ≤ 0 → Q (some (.int (nI 0))) (sh, f, g, fR)))) :
    LpX12_goesOn_470 l G d Q sh fR B f g a1 a2 := by
  refine S_aload_n (pc := 470) dX12_goesOn_470 rfl rfl ?_
  refine S_get (pc := 471) (v := .int (f B 8)) dX12_goesOn_471 flX12_36 (sM_0 hs) rfl ?_
  refine S_if_le (pc := 474) (tgt := 479) dX12_goesOn_474 rfl (fun hc259 => ?_) (fun hc259 => ?_)
  · replace H := H.1 hc259
    refine S_aload_n (pc := 479) dX12_goesOn_479 rfl rfl ?_
    refine S_iconst (pc := 480) dX12_goesOn_480 ic1 ?_
    refine S_callV (As := [.int (nI 1)]) (mc := 0) (ms := 0) (pc := 481) dX12_goesOn_481 miX12_joins mvX12_joins mlX12_343 rfl (sM_0 hs) rfl rfl rfl (RmOK.of rfl) H ?_
    rintro _ _ ⟨f260, g261, rfl, rfl, H⟩
    show WP _ _ _ _ _ _ _ 484 [some (.ref B), some (.int a1), some (.int a2), none, none] [] (sh, f260, g261, fR)
    refine S_aload_n (pc := 484) dX12_goesOn_484 rfl rfl ?_
    refine S_getR (pc := 485) dX12_goesOn_485 flX12_106 (sM_0 hs) rfl (rM_31 hs) ?_
    refine S_iload_n (pc := 488) dX12_goesOn_488 rfl rfl ?_
    refine S_iload_n (pc := 489) dX12_goesOn_489 rfl rfl ?_
    refine S_iconst (pc := 490) dX12_goesOn_490 ic3 ?_
    refine S_icmp_ne (pc := 491) (tgt := 498) dX12_goesOn_491 rfl (fun hc262 => ?_) (fun hc262 => ?_)
    · replace H := H.1 hc262
      refine S_iconst (pc := 498) dX12_goesOn_498 ic3 ?_
      obtain ⟨hb263, H⟩ := H
      refine S_iast (pc := 499) dX12_goesOn_499 (sM_16 hs) (Nat.succ_pos _) hb263 ?_
      refine S_aload_n (pc := 500) dX12_goesOn_500 rfl rfl ?_
      refine S_getR (pc := 501) dX12_goesOn_501 flX12_109 (sM_0 hs) rfl (rM_32 hs) ?_
      refine S_iload_n (pc := 504) dX12_goesOn_504 rfl rfl ?_
      refine S_iconst (pc := 505) dX12_goesOn_505 ic0 ?_
      obtain ⟨hb264, H⟩ := H
      refine S_iast (pc := 506) dX12_goesOn_506 (sM_17 hs) (Nat.succ_pos _) hb264 ?_
      refine S_aload_n (pc := 507) dX12_goesOn_507 rfl rfl ?_
      refine S_callV (As := []) (mc := 0) (ms := 0) (pc := 508) dX12_goesOn_508 miX12_ahead mvX12_ahead mlX12_249 rfl (sM_0 hs) rfl rfl rfl (RmOK.of rfl) H ?_
      rintro _ _ ⟨f265, g266, rfl, rfl, H⟩
      show WP _ _ _ _ _ _ _ 511 [some (.ref B), some (.int a1), some (.int a2), none, none] [] (sh, f265, g266, fR)
      refine S_aload_n (pc := 511) dX12_goesOn_511 rfl rfl ?_
      refine S_iconst (pc := 512) dX12_goesOn_512 ic0 ?_
      refine S_putI (pc := 513) dX12_goesOn_513 flX12_134 (sM_0 hs) hs.2.2 (nf_12_40) nb0 rfl (fun _ => rfl) ?_
      refine S_iconst (pc := 516) dX12_goesOn_516 ic1 ?_
      exact S_zreturn dX12_goesOn_517 rfl (Or.inr rfl) H
    · replace H := H.2 hc262
      refine S_iconst (pc := 494) dX12_goesOn_494 ic4 ?_
      refine S_goto (pc := 495) (tgt := 499) dX12_goesOn_495 rfl ?_
      obtain ⟨hb267, H⟩ := H
      refine S_iast (pc := 499) dX12_goesOn_499 (sM_16 hs) (Nat.succ_pos _) hb267 ?_
      refine S_aload_n (pc := 500) dX12_goesOn_500 rfl rfl ?_
      refine S_getR (pc := 501) dX12_goesOn_501 flX12_109 (sM_0 hs) rfl (rM_32 hs) ?_
      refine S_iload_n (pc := 504) dX12_goesOn_504 rfl rfl ?_
      refine S_iconst (pc := 505) dX12_goesOn_505 ic0 ?_
      obtain ⟨hb268, H⟩ := H
      refine S_iast (pc := 506) dX12_goesOn_506 (sM_17 hs) (Nat.succ_pos _) hb268 ?_
      refine S_aload_n (pc := 507) dX12_goesOn_507 rfl rfl ?_
      refine S_callV (As := []) (mc := 0) (ms := 0) (pc := 508) dX12_goesOn_508 miX12_ahead mvX12_ahead mlX12_249 rfl (sM_0 hs) rfl rfl rfl (RmOK.of rfl) H ?_
      rintro _ _ ⟨f269, g270, rfl, rfl, H⟩
      show WP _ _ _ _ _ _ _ 511 [some (.ref B), some (.int a1), some (.int a2), none, none] [] (sh, f269, g270, fR)
      refine S_aload_n (pc := 511) dX12_goesOn_511 rfl rfl ?_
      refine S_iconst (pc := 512) dX12_goesOn_512 ic0 ?_
      refine S_putI (pc := 513) dX12_goesOn_513 flX12_134 (sM_0 hs) hs.2.2 (nf_12_40) nb0 rfl (fun _ => rfl) ?_
      refine S_iconst (pc := 516) dX12_goesOn_516 ic1 ?_
      exact S_zreturn dX12_goesOn_517 rfl (Or.inr rfl) H
  · replace H := H.2 hc259
    refine S_iconst (pc := 477) dX12_goesOn_477 ic0 ?_
    exact S_zreturn dX12_goesOn_478 rfl (Or.inl rfl) H
set_option maxHeartbeats 2000000 in
set_option maxRecDepth 4000 in
theorem VX12_goesOn_596 {l : Launch} {G : Gx} {d : Nat} {Q : Option Value → Hp → Prop} {sh : Sh} {fR : FRt} {B : Nat} {f : FI} {g : FL} {a2 : Int32} (hs : StM sh fR B)
    (H : ((¬ a2 = (nI 5) → Cl l G (d + 1) 0 0 mX12_ahead [.ref B] (sh, f, g, fR) (qv sh fR fun f272 g273 => Q (some (.int (nI 1))) (sh, f272, g273, fR))) ∧ (a2 = (nI 5) → inb ((f B 36) - (nI 1)) 20 ∧ Cl l G (d + 1) 0 0 mX12_ahead [.ref B] (sh, (up2 f (B + 17) ((f B 36) - (nI 1)).toNatClampNeg (nI 2)), g, fR) (qv sh fR fun f275 g276 => Q (some (.int (nI 1))) (sh, f275, g276, fR))))) :
    LpX12_goesOn_596 l G d Q sh fR B f g a2 := by
  refine S_iload_n (pc := 596) dX12_goesOn_596 rfl rfl ?_
  refine S_iconst (pc := 597) dX12_goesOn_597 ic5 ?_
  refine S_icmp_ne (pc := 598) (tgt := 613) dX12_goesOn_598 rfl (fun hc271 => ?_) (fun hc271 => ?_)
  · replace H := H.1 hc271
    refine S_aload_n (pc := 613) dX12_goesOn_613 rfl rfl ?_
    refine S_callV (As := []) (mc := 0) (ms := 0) (pc := 614) dX12_goesOn_614 miX12_ahead mvX12_ahead mlX12_249 rfl (sM_0 hs) rfl rfl rfl (RmOK.of rfl) H ?_
    rintro _ _ ⟨f272, g273, rfl, rfl, H⟩
    show WP _ _ _ _ _ _ _ 617 [some (.ref B), none, some (.int a2), none, none] [] (sh, f272, g273, fR)
    refine S_iconst (pc := 617) dX12_goesOn_617 ic1 ?_
    exact S_zreturn dX12_goesOn_618 rfl (Or.inr rfl) H
  · replace H := H.2 hc271
    refine S_aload_n (pc := 601) dX12_goesOn_601 rfl rfl ?_
    refine S_getR (pc := 602) dX12_goesOn_602 flX12_109 (sM_0 hs) rfl (rM_32 hs) ?_
    refine S_aload_n (pc := 605) dX12_goesOn_605 rfl rfl ?_
    refine S_get (pc := 606) (v := .int (f B 36)) dX12_goesOn_606 flX12_122 (sM_0 hs) rfl ?_
    refine S_iconst (pc := 609) dX12_goesOn_609 ic1 ?_
    refine S_isub (pc := 610) dX12_goesOn_610 ?_
    refine S_iconst (pc := 611) dX12_goesOn_611 ic2 ?_
    obtain ⟨hb274, H⟩ := H
    refine S_iast (pc := 612) dX12_goesOn_612 (sM_17 hs) (Nat.succ_pos _) hb274 ?_
    refine S_aload_n (pc := 613) dX12_goesOn_613 rfl rfl ?_
    refine S_callV (As := []) (mc := 0) (ms := 0) (pc := 614) dX12_goesOn_614 miX12_ahead mvX12_ahead mlX12_249 rfl (sM_0 hs) rfl rfl rfl (RmOK.of rfl) H ?_
    rintro _ _ ⟨f275, g276, rfl, rfl, H⟩
    show WP _ _ _ _ _ _ _ 617 [some (.ref B), none, some (.int a2), none, none] [] (sh, f275, g276, fR)
    refine S_iconst (pc := 617) dX12_goesOn_617 ic1 ?_
    exact S_zreturn dX12_goesOn_618 rfl (Or.inr rfl) H
