abbrev LpX12_reads_43 (l : Launch) (G : Gx) (d : Nat) (Q : Option Value → Hp → Prop) (sh : Sh) (fR : FRt) (B : Nat) (f : FI) (g : FL) (a2 : Int32) : Prop := WP l G (Zq G 0 0 Q) mX12_reads (rmd (d + 4) 0 0) 0 0 43 [some (.ref B), none, some (.int a2)] [] (sh, f, g, fR)
abbrev LpX12_reads_70 (l : Launch) (G : Gx) (d : Nat) (Q : Option Value → Hp → Prop) (sh : Sh) (fR : FRt) (B : Nat) (f : FI) (g : FL) (a2 : Int32) : Prop := WP l G (Zq G 0 0 Q) mX12_reads (rmd (d + 4) 0 0) 0 0 70 [some (.ref B), none, some (.int a2)] [] (sh, f, g, fR)
abbrev LpX12_reads_85 (l : Launch) (G : Gx) (d : Nat) (Q : Option Value → Hp → Prop) (sh : Sh) (fR : FRt) (B : Nat) (f : FI) (g : FL)  : Prop := WP l G (Zq G 0 0 Q) mX12_reads (rmd (d + 4) 0 0) 0 0 85 [some (.ref B), none, none] [] (sh, f, g, fR)
set_option maxHeartbeats 2000000 in
set_option maxRecDepth 4000 in
theorem VX12_reads {l : Launch} {G : Gx} {d : Nat} {Q : Option Value → Hp → Prop} {sh : Sh} {fR : FRt} {B : Nat} {f : FI} {g : FL} {a1 : Int32} (hs : StM sh fR B)
    (H : (((f B 8) ≤ 0 → ((a1 = 0 → LpX12_reads_43 l G d Q sh fR B (up2 (up2 (up2 (up2 (up2 (up2 (up2 (up2 (up2 f B 36 (nI 0)) B 37 (nI 0)) B 39 (nI 0)) B 40 (nI 0)) (B + 16) 0 (nI 0)) (B + 17) 0 (nI 0)) (B + 18) 0 (nI 1)) (B + 20) 0 (nI 0)) B 36 ((nI 0) + (nI 1))) g (nI 1)) ∧ (¬ a1 = 0 → LpX12_reads_43 l G d Q sh fR B (up2 (up2 (up2 (up2 (up2 (up2 (up2 (up2 (up2 f B 36 (nI 0)) B 37 (nI 0)) B 39 (nI 0)) B 40 (nI 0)) (B + 16) 0 (nI 1)) (B + 17) 0 (nI 0)) (B + 18) 0 (nI 1)) (B + 20) 0 (nI 0)) B 36 ((nI 0) + (nI 1))) g (nI 1)))) ∧ (¬ (f B 8) ≤ 0 → Q none (sh, f, g, fR)))) :
    Cl l G (d + 4) 0 0 mX12_reads [.ref B, .int a1] (sh, f, g, fR) Q := by
  refine Cl.of (L0 := [some (.ref B), some (.int a1), none]) miX12_reads rfl rfl ?_
  refine S_aload_n (pc := 0) dX12_reads_0 rfl rfl ?_
  refine S_get (pc := 1) (v := .int (f B 8)) dX12_reads_1 flX12_36 (sM_0 hs) rfl ?_
  refine S_if_le (pc := 4) (tgt := 8) dX12_reads_4 rfl (fun hc1 => ?_) (fun hc1 => ?_)
  · replace H := H.1 hc1
    refine S_aload_n (pc := 8) dX12_reads_8 rfl rfl ?_
    refine S_iconst (pc := 9) dX12_reads_9 ic0 ?_
    refine S_putI (pc := 10) dX12_reads_10 flX12_122 (sM_0 hs) hs.2.2 (nf_12_36) rfl rfl (fun _ => rfl) ?_
    refine S_aload_n (pc := 13) dX12_reads_13 rfl rfl ?_
    refine S_iconst (pc := 14) dX12_reads_14 ic0 ?_
    refine S_putI (pc := 15) dX12_reads_15 flX12_125 (sM_0 hs) hs.2.2 (nf_12_37) rfl rfl (fun _ => rfl) ?_
    refine S_aload_n (pc := 18) dX12_reads_18 rfl rfl ?_
    refine S_iconst (pc := 19) dX12_reads_19 ic0 ?_
    refine S_putI (pc := 20) dX12_reads_20 flX12_131 (sM_0 hs) hs.2.2 (nf_12_39) rfl rfl (fun _ => rfl) ?_
    refine S_aload_n (pc := 23) dX12_reads_23 rfl rfl ?_
    refine S_iconst (pc := 24) dX12_reads_24 ic0 ?_
    refine S_putI (pc := 25) dX12_reads_25 flX12_134 (sM_0 hs) hs.2.2 (nf_12_40) nb0 rfl (fun _ => rfl) ?_
    refine S_aload_n (pc := 28) dX12_reads_28 rfl rfl ?_
    refine S_iload_n (pc := 29) dX12_reads_29 rfl rfl ?_
    refine S_if_eq (pc := 30) (tgt := 37) dX12_reads_30 rfl (fun hc2 => ?_) (fun hc2 => ?_)
    · replace H := H.1 hc2
      refine S_iconst (pc := 37) dX12_reads_37 ic0 ?_
      refine S_callV (As := [.int (nI 0)]) (mc := 0) (ms := 0) (pc := 38) dX12_reads_38 miX12_pushes mvX12_pushes mlX12_320 rfl (sM_0 hs) rfl rfl rfl (RmOK.of rfl) (Q := fun r h => WP _ _ _ _ _ _ _ 41 [some (.ref B), some (.int a1), none] (r.toList ++ []) h) (Cl.of miX12_pushes rfl rfl ?_) (fun _ _ q => q)
      refine S_aload_n (pc := 0) dX12_pushes_0 rfl rfl ?_
      refine S_getR (pc := 1) dX12_pushes_1 flX12_106 (sM_0 hs) rfl (rM_31 hs) ?_
      refine S_aload_n (pc := 4) dX12_pushes_4 rfl rfl ?_
      refine S_get (pc := 5) (v := .int ((up2 (up2 (up2 (up2 f B 36 (nI 0)) B 37 (nI 0)) B 39 (nI 0)) B 40 (nI 0)) B 36)) dX12_pushes_5 flX12_122 (sM_0 hs) rfl ?_
      refine S_eqi (x := nI 0) ((up2_k (by decide)).trans ((up2_k (by decide)).trans ((up2_k (by decide)).trans up2_eq))) ?_
      refine S_iload_n (pc := 8) dX12_pushes_8 rfl rfl ?_
      refine S_iast (pc := 9) dX12_pushes_9 (sM_16 hs) (Nat.succ_pos _) (vp_in_nI (by decide) (by decide)) ?_
      show WP _ _ _ _ _ _ _ 10 _ _ (sh, (up2 (up2 (up2 (up2 (up2 f B 36 (nI 0)) B 37 (nI 0)) B 39 (nI 0)) B 40 (nI 0)) (B + 16) 0 (nI 0)), g, fR)
      refine S_aload_n (pc := 10) dX12_pushes_10 rfl rfl ?_
      refine S_getR (pc := 11) dX12_pushes_11 flX12_109 (sM_0 hs) rfl (rM_32 hs) ?_
      refine S_aload_n (pc := 14) dX12_pushes_14 rfl rfl ?_
      refine S_get (pc := 15) (v := .int ((up2 (up2 (up2 (up2 (up2 f B 36 (nI 0)) B 37 (nI 0)) B 39 (nI 0)) B 40 (nI 0)) (B + 16) 0 (nI 0)) B 36)) dX12_pushes_15 flX12_122 (sM_0 hs) rfl ?_
      refine S_eqi (x := nI 0) ((up2_r (by omega)).trans ((up2_k (by decide)).trans ((up2_k (by decide)).trans ((up2_k (by decide)).trans up2_eq)))) ?_
      refine S_iconst (pc := 18) dX12_pushes_18 ic0 ?_
      refine S_iast (pc := 19) dX12_pushes_19 (sM_17 hs) (Nat.succ_pos _) (vp_in_nI (by decide) (by decide)) ?_
      show WP _ _ _ _ _ _ _ 20 _ _ (sh, (up2 (up2 (up2 (up2 (up2 (up2 f B 36 (nI 0)) B 37 (nI 0)) B 39 (nI 0)) B 40 (nI 0)) (B + 16) 0 (nI 0)) (B + 17) 0 (nI 0)), g, fR)
      refine S_aload_n (pc := 20) dX12_pushes_20 rfl rfl ?_
      refine S_getR (pc := 21) dX12_pushes_21 flX12_112 (sM_0 hs) rfl (rM_33 hs) ?_
      refine S_aload_n (pc := 24) dX12_pushes_24 rfl rfl ?_
      refine S_get (pc := 25) (v := .int ((up2 (up2 (up2 (up2 (up2 (up2 f B 36 (nI 0)) B 37 (nI 0)) B 39 (nI 0)) B 40 (nI 0)) (B + 16) 0 (nI 0)) (B + 17) 0 (nI 0)) B 36)) dX12_pushes_25 flX12_122 (sM_0 hs) rfl ?_
      refine S_eqi (x := nI 0) ((up2_r (by omega)).trans ((up2_r (by omega)).trans ((up2_k (by decide)).trans ((up2_k (by decide)).trans ((up2_k (by decide)).trans up2_eq))))) ?_
      refine S_iconst (pc := 28) dX12_pushes_28 ic1 ?_
      refine S_zast (pc := 29) dX12_pushes_29 (sM_18 hs) (Nat.succ_pos _) (vp_in_nI (by decide) (by decide)) ?_
      show WP _ _ _ _ _ _ _ 30 _ _ (sh, (up2 (up2 (up2 (up2 (up2 (up2 (up2 f B 36 (nI 0)) B 37 (nI 0)) B 39 (nI 0)) B 40 (nI 0)) (B + 16) 0 (nI 0)) (B + 17) 0 (nI 0)) (B + 18) 0 (nI 1)), g, fR)
      refine S_aload_n (pc := 30) dX12_pushes_30 rfl rfl ?_
      refine S_getR (pc := 31) dX12_pushes_31 flX12_119 (sM_0 hs) rfl (rM_35 hs) ?_
      refine S_aload_n (pc := 34) dX12_pushes_34 rfl rfl ?_
      refine S_get (pc := 35) (v := .int ((up2 (up2 (up2 (up2 (up2 (up2 (up2 f B 36 (nI 0)) B 37 (nI 0)) B 39 (nI 0)) B 40 (nI 0)) (B + 16) 0 (nI 0)) (B + 17) 0 (nI 0)) (B + 18) 0 (nI 1)) B 36)) dX12_pushes_35 flX12_122 (sM_0 hs) rfl ?_
      refine S_eqi (x := nI 0) ((up2_r (by omega)).trans ((up2_r (by omega)).trans ((up2_r (by omega)).trans ((up2_k (by decide)).trans ((up2_k (by decide)).trans ((up2_k (by decide)).trans up2_eq)))))) ?_
      refine S_aload_n (pc := 38) dX12_pushes_38 rfl rfl ?_
      refine S_get (pc := 39) (v := .int ((up2 (up2 (up2 (up2 (up2 (up2 (up2 f B 36 (nI 0)) B 37 (nI 0)) B 39 (nI 0)) B 40 (nI 0)) (B + 16) 0 (nI 0)) (B + 17) 0 (nI 0)) (B + 18) 0 (nI 1)) B 39)) dX12_pushes_39 flX12_131 (sM_0 hs) rfl ?_
      refine S_eqi (x := nI 0) ((up2_r (by omega)).trans ((up2_r (by omega)).trans ((up2_r (by omega)).trans ((up2_k (by decide)).trans up2_eq)))) ?_
      refine S_iast (pc := 42) dX12_pushes_42 (sM_20 hs) (Nat.succ_pos _) (vp_in_nI (by decide) (by decide)) ?_
      show WP _ _ _ _ _ _ _ 43 _ _ (sh, (up2 (up2 (up2 (up2 (up2 (up2 (up2 (up2 f B 36 (nI 0)) B 37 (nI 0)) B 39 (nI 0)) B 40 (nI 0)) (B + 16) 0 (nI 0)) (B + 17) 0 (nI 0)) (B + 18) 0 (nI 1)) (B + 20) 0 (nI 0)), g, fR)
      refine S_aload_n (pc := 43) dX12_pushes_43 rfl rfl ?_
      refine S_dup (pc := 44) dX12_pushes_44 rfl ?_
      refine S_get (pc := 45) (v := .int ((up2 (up2 (up2 (up2 (up2 (up2 (up2 (up2 f B 36 (nI 0)) B 37 (nI 0)) B 39 (nI 0)) B 40 (nI 0)) (B + 16) 0 (nI 0)) (B + 17) 0 (nI 0)) (B + 18) 0 (nI 1)) (B + 20) 0 (nI 0)) B 36)) dX12_pushes_45 flX12_122 (sM_0 hs) rfl ?_
      refine S_eqi (x := nI 0) ((up2_r (by omega)).trans ((up2_r (by omega)).trans ((up2_r (by omega)).trans ((up2_r (by omega)).trans ((up2_k (by decide)).trans ((up2_k (by decide)).trans ((up2_k (by decide)).trans up2_eq))))))) ?_
      refine S_iconst (pc := 48) dX12_pushes_48 ic1 ?_
      refine S_iadd (pc := 49) dX12_pushes_49 ?_
      refine S_putI (pc := 50) dX12_pushes_50 flX12_122 (sM_0 hs) hs.2.2 (nf_12_36) rfl rfl (fun _ => rfl) ?_
      refine S_vreturn dX12_pushes_53 rfl ?_
      show WP _ _ _ _ _ _ _ 41 [some (.ref B), some (.int a1), none] [] (sh, (up2 (up2 (up2 (up2 (up2 (up2 (up2 (up2 (up2 f B 36 (nI 0)) B 37 (nI 0)) B 39 (nI 0)) B 40 (nI 0)) (B + 16) 0 (nI 0)) (B + 17) 0 (nI 0)) (B + 18) 0 (nI 1)) (B + 20) 0 (nI 0)) B 36 ((nI 0) + (nI 1))), g, fR)
      refine S_iconst (pc := 41) dX12_reads_41 ic1 ?_
      refine S_istore_n (pc := 42) (L' := [some (.ref B), some (.int a1), some (.int (nI 1))]) dX12_reads_42 rfl (by decide) rfl ?_
      exact S_weak (L' := [some (.ref B), none, some (.int (nI 1))]) (ls_e (ls_n (ls_e ls_0))) H
    · replace H := H.2 hc2
      refine S_iconst (pc := 33) dX12_reads_33 ic1 ?_
      refine S_goto (pc := 34) (tgt := 38) dX12_reads_34 rfl ?_
      refine S_callV (As := [.int (nI 1)]) (mc := 0) (ms := 0) (pc := 38) dX12_reads_38 miX12_pushes mvX12_pushes mlX12_320 rfl (sM_0 hs) rfl rfl rfl (RmOK.of rfl) (Q := fun r h => WP _ _ _ _ _ _ _ 41 [some (.ref B), some (.int a1), none] (r.toList ++ []) h) (Cl.of miX12_pushes rfl rfl ?_) (fun _ _ q => q)
      refine S_aload_n (pc := 0) dX12_pushes_0 rfl rfl ?_
      refine S_getR (pc := 1) dX12_pushes_1 flX12_106 (sM_0 hs) rfl (rM_31 hs) ?_
      refine S_aload_n (pc := 4) dX12_pushes_4 rfl rfl ?_
      refine S_get (pc := 5) (v := .int ((up2 (up2 (up2 (up2 f B 36 (nI 0)) B 37 (nI 0)) B 39 (nI 0)) B 40 (nI 0)) B 36)) dX12_pushes_5 flX12_122 (sM_0 hs) rfl ?_
      refine S_eqi (x := nI 0) ((up2_k (by decide)).trans ((up2_k (by decide)).trans ((up2_k (by decide)).trans up2_eq))) ?_
      refine S_iload_n (pc := 8) dX12_pushes_8 rfl rfl ?_
      refine S_iast (pc := 9) dX12_pushes_9 (sM_16 hs) (Nat.succ_pos _) (vp_in_nI (by decide) (by decide)) ?_
      show WP _ _ _ _ _ _ _ 10 _ _ (sh, (up2 (up2 (up2 (up2 (up2 f B 36 (nI 0)) B 37 (nI 0)) B 39 (nI 0)) B 40 (nI 0)) (B + 16) 0 (nI 1)), g, fR)
      refine S_aload_n (pc := 10) dX12_pushes_10 rfl rfl ?_
      refine S_getR (pc := 11) dX12_pushes_11 flX12_109 (sM_0 hs) rfl (rM_32 hs) ?_
      refine S_aload_n (pc := 14) dX12_pushes_14 rfl rfl ?_
      refine S_get (pc := 15) (v := .int ((up2 (up2 (up2 (up2 (up2 f B 36 (nI 0)) B 37 (nI 0)) B 39 (nI 0)) B 40 (nI 0)) (B + 16) 0 (nI 1)) B 36)) dX12_pushes_15 flX12_122 (sM_0 hs) rfl ?_
      refine S_eqi (x := nI 0) ((up2_r (by omega)).trans ((up2_k (by decide)).trans ((up2_k (by decide)).trans ((up2_k (by decide)).trans up2_eq)))) ?_
      refine S_iconst (pc := 18) dX12_pushes_18 ic0 ?_
      refine S_iast (pc := 19) dX12_pushes_19 (sM_17 hs) (Nat.succ_pos _) (vp_in_nI (by decide) (by decide)) ?_
      show WP _ _ _ _ _ _ _ 20 _ _ (sh, (up2 (up2 (up2 (up2 (up2 (up2 f B 36 (nI 0)) B 37 (nI 0)) B 39 (nI 0)) B 40 (nI 0)) (B + 16) 0 (nI 1)) (B + 17) 0 (nI 0)), g, fR)
      refine S_aload_n (pc := 20) dX12_pushes_20 rfl rfl ?_
      refine S_getR (pc := 21) dX12_pushes_21 flX12_112 (sM_0 hs) rfl (rM_33 hs) ?_
      refine S_aload_n (pc := 24) dX12_pushes_24 rfl rfl ?_
      refine S_get (pc := 25) (v := .int ((up2 (up2 (up2 (up2 (up2 (up2 f B 36 (nI 0)) B 37 (nI 0)) B 39 (nI 0)) B 40 (nI 0)) (B + 16) 0 (nI 1)) (B + 17) 0 (nI 0)) B 36)) dX12_pushes_25 flX12_122 (sM_0 hs) rfl ?_
      refine S_eqi (x := nI 0) ((up2_r (by omega)).trans ((up2_r (by omega)).trans ((up2_k (by decide)).trans ((up2_k (by decide)).trans ((up2_k (by decide)).trans up2_eq))))) ?_
      refine S_iconst (pc := 28) dX12_pushes_28 ic1 ?_
      refine S_zast (pc := 29) dX12_pushes_29 (sM_18 hs) (Nat.succ_pos _) (vp_in_nI (by decide) (by decide)) ?_
      show WP _ _ _ _ _ _ _ 30 _ _ (sh, (up2 (up2 (up2 (up2 (up2 (up2 (up2 f B 36 (nI 0)) B 37 (nI 0)) B 39 (nI 0)) B 40 (nI 0)) (B + 16) 0 (nI 1)) (B + 17) 0 (nI 0)) (B + 18) 0 (nI 1)), g, fR)
      refine S_aload_n (pc := 30) dX12_pushes_30 rfl rfl ?_
      refine S_getR (pc := 31) dX12_pushes_31 flX12_119 (sM_0 hs) rfl (rM_35 hs) ?_
      refine S_aload_n (pc := 34) dX12_pushes_34 rfl rfl ?_
      refine S_get (pc := 35) (v := .int ((up2 (up2 (up2 (up2 (up2 (up2 (up2 f B 36 (nI 0)) B 37 (nI 0)) B 39 (nI 0)) B 40 (nI 0)) (B + 16) 0 (nI 1)) (B + 17) 0 (nI 0)) (B + 18) 0 (nI 1)) B 36)) dX12_pushes_35 flX12_122 (sM_0 hs) rfl ?_
      refine S_eqi (x := nI 0) ((up2_r (by omega)).trans ((up2_r (by omega)).trans ((up2_r (by omega)).trans ((up2_k (by decide)).trans ((up2_k (by decide)).trans ((up2_k (by decide)).trans up2_eq)))))) ?_
      refine S_aload_n (pc := 38) dX12_pushes_38 rfl rfl ?_
      refine S_get (pc := 39) (v := .int ((up2 (up2 (up2 (up2 (up2 (up2 (up2 f B 36 (nI 0)) B 37 (nI 0)) B 39 (nI 0)) B 40 (nI 0)) (B + 16) 0 (nI 1)) (B + 17) 0 (nI 0)) (B + 18) 0 (nI 1)) B 39)) dX12_pushes_39 flX12_131 (sM_0 hs) rfl ?_
      refine S_eqi (x := nI 0) ((up2_r (by omega)).trans ((up2_r (by omega)).trans ((up2_r (by omega)).trans ((up2_k (by decide)).trans up2_eq)))) ?_
      refine S_iast (pc := 42) dX12_pushes_42 (sM_20 hs) (Nat.succ_pos _) (vp_in_nI (by decide) (by decide)) ?_
      show WP _ _ _ _ _ _ _ 43 _ _ (sh, (up2 (up2 (up2 (up2 (up2 (up2 (up2 (up2 f B 36 (nI 0)) B 37 (nI 0)) B 39 (nI 0)) B 40 (nI 0)) (B + 16) 0 (nI 1)) (B + 17) 0 (nI 0)) (B + 18) 0 (nI 1)) (B + 20) 0 (nI 0)), g, fR)
      refine S_aload_n (pc := 43) dX12_pushes_43 rfl rfl ?_
      refine S_dup (pc := 44) dX12_pushes_44 rfl ?_
      refine S_get (pc := 45) (v := .int ((up2 (up2 (up2 (up2 (up2 (up2 (up2 (up2 f B 36 (nI 0)) B 37 (nI 0)) B 39 (nI 0)) B 40 (nI 0)) (B + 16) 0 (nI 1)) (B + 17) 0 (nI 0)) (B + 18) 0 (nI 1)) (B + 20) 0 (nI 0)) B 36)) dX12_pushes_45 flX12_122 (sM_0 hs) rfl ?_
      refine S_eqi (x := nI 0) ((up2_r (by omega)).trans ((up2_r (by omega)).trans ((up2_r (by omega)).trans ((up2_r (by omega)).trans ((up2_k (by decide)).trans ((up2_k (by decide)).trans ((up2_k (by decide)).trans up2_eq))))))) ?_
      refine S_iconst (pc := 48) dX12_pushes_48 ic1 ?_
      refine S_iadd (pc := 49) dX12_pushes_49 ?_
      refine S_putI (pc := 50) dX12_pushes_50 flX12_122 (sM_0 hs) hs.2.2 (nf_12_36) rfl rfl (fun _ => rfl) ?_
      refine S_vreturn dX12_pushes_53 rfl ?_
      show WP _ _ _ _ _ _ _ 41 [some (.ref B), some (.int a1), none] [] (sh, (up2 (up2 (up2 (up2 (up2 (up2 (up2 (up2 (up2 f B 36 (nI 0)) B 37 (nI 0)) B 39 (nI 0)) B 40 (nI 0)) (B + 16) 0 (nI 1)) (B + 17) 0 (nI 0)) (B + 18) 0 (nI 1)) (B + 20) 0 (nI 0)) B 36 ((nI 0) + (nI 1))), g, fR)
      refine S_iconst (pc := 41) dX12_reads_41 ic1 ?_
      refine S_istore_n (pc := 42) (L' := [some (.ref B), some (.int a1), some (.int (nI 1))]) dX12_reads_42 rfl (by decide) rfl ?_
      exact S_weak (L' := [some (.ref B), none, some (.int (nI 1))]) (ls_e (ls_n (ls_e ls_0))) H
  · replace H := H.2 hc1
    exact S_vreturn dX12_reads_7 rfl H
set_option maxHeartbeats 2000000 in
set_option maxRecDepth 4000 in
theorem VX12_reads_43 {l : Launch} {G : Gx} {d : Nat} {Q : Option Value → Hp → Prop} {sh : Sh} {fR : FRt} {B : Nat} {f : FI} {g : FL} {a2 : Int32} (hs : StM sh fR B)
    (H : ((a2 = 0 → Q none (sh, f, g, fR)) ∧ (¬ a2 = 0 → ((¬ (f B 40) = 0 → Cl l G (d + 3) 0 0 mX12_goesOn [.ref B] (sh, f, g, fR) (qi sh fR fun x7 f5 g6 => LpX12_reads_70 l G d Q sh fR B f5 g6 x7)) ∧ ((f B 40) = 0 → Cl l G (d + 3) 0 0 mX12_operand [.ref B] (sh, f, g, fR) (qi sh fR fun x10 f8 g9 => (x10 = 0 ∨ x10 = 1) ∧ LpX12_reads_70 l G d Q sh fR B (up2 f8 B 40 x10) g9 a2)))))) :
    LpX12_reads_43 l G d Q sh fR B f g a2 := by
  refine S_iload_n (pc := 43) dX12_reads_43 rfl rfl ?_
  refine S_if_eq (pc := 44) (tgt := 90) dX12_reads_44 rfl (fun hc3 => ?_) (fun hc3 => ?_)
  · replace H := H.1 hc3
    exact S_vreturn dX12_reads_90 rfl H
  · replace H := H.2 hc3
    refine S_aload_n (pc := 47) dX12_reads_47 rfl rfl ?_
    refine S_get (pc := 48) (v := .int (f B 40)) dX12_reads_48 flX12_134 (sM_0 hs) rfl ?_
    refine S_if_ne (pc := 51) (tgt := 65) dX12_reads_51 rfl (fun hc4 => ?_) (fun hc4 => ?_)
    · replace H := H.1 hc4
      refine S_aload_n (pc := 65) dX12_reads_65 rfl rfl ?_
      refine S_callV (As := []) (mc := 0) (ms := 0) (pc := 66) dX12_reads_66 miX12_goesOn mvX12_goesOn mlX12_349 rfl (sM_0 hs) rfl rfl rfl (RmOK.of rfl) H ?_
      rintro _ _ ⟨x7, f5, g6, rfl, rfl, H⟩
      show WP _ _ _ _ _ _ _ 69 [some (.ref B), none, some (.int a2)] [.int x7] (sh, f5, g6, fR)
      refine S_istore_n (pc := 69) (L' := [some (.ref B), none, some (.int x7)]) dX12_reads_69 rfl (by decide) rfl ?_
      exact H
    · replace H := H.2 hc4
      refine S_aload_n (pc := 54) dX12_reads_54 rfl rfl ?_
      refine S_aload_n (pc := 55) dX12_reads_55 rfl rfl ?_
      refine S_callV (As := []) (mc := 0) (ms := 0) (pc := 56) dX12_reads_56 miX12_operand mvX12_operand mlX12_346 rfl (sM_0 hs) rfl rfl rfl (RmOK.of rfl) H ?_
      rintro _ _ ⟨x10, f8, g9, rfl, rfl, H⟩
      show WP _ _ _ _ _ _ _ 59 [some (.ref B), none, some (.int a2)] [.int x10, .ref B] (sh, f8, g9, fR)
      obtain ⟨hc11, H⟩ := H
      refine S_putI (pc := 59) dX12_reads_59 flX12_134 (sM_0 hs) hs.2.2 (nf_12_40) (nb_of hc11) (fb_of hc11) (fun _ => rfl) ?_
      refine S_goto (pc := 62) (tgt := 70) dX12_reads_62 rfl ?_
      exact H
set_option maxHeartbeats 2000000 in
set_option maxRecDepth 4000 in
theorem VX12_reads_70 {l : Launch} {G : Gx} {d : Nat} {Q : Option Value → Hp → Prop} {sh : Sh} {fR : FRt} {B : Nat} {f : FI} {g : FL} {a2 : Int32} (hs : StM sh fR B)
    (H : ((a2 = 0 → LpX12_reads_85 l G d Q sh fR B f g) ∧ (¬ a2 = 0 → ((¬ (f B 8) = 0 → LpX12_reads_85 l G d Q sh fR B f g) ∧ ((f B 8) = 0 → LpX12_reads_43 l G d Q sh fR B f g (nI 1)))))) :
    LpX12_reads_70 l G d Q sh fR B f g a2 := by
  refine S_iload_n (pc := 70) dX12_reads_70 rfl rfl ?_
  refine S_if_eq (pc := 71) (tgt := 85) dX12_reads_71 rfl (fun hc12 => ?_) (fun hc12 => ?_)
  · replace H := H.1 hc12
    exact S_weak (L' := [some (.ref B), none, none]) (ls_e (ls_e (ls_n ls_0))) H
  · replace H := H.2 hc12
    refine S_aload_n (pc := 74) dX12_reads_74 rfl rfl ?_
    refine S_get (pc := 75) (v := .int (f B 8)) dX12_reads_75 flX12_36 (sM_0 hs) rfl ?_
    refine S_if_ne (pc := 78) (tgt := 85) dX12_reads_78 rfl (fun hc13 => ?_) (fun hc13 => ?_)
    · replace H := H.1 hc13
      exact S_weak (L' := [some (.ref B), none, none]) (ls_e (ls_e (ls_n ls_0))) H
    · replace H := H.2 hc13
      refine S_iconst (pc := 81) dX12_reads_81 ic1 ?_
      refine S_goto (pc := 82) (tgt := 86) dX12_reads_82 rfl ?_
      refine S_istore_n (pc := 86) (L' := [some (.ref B), none, some (.int (nI 1))]) dX12_reads_86 rfl (by decide) rfl ?_
      refine S_goto (pc := 87) (tgt := 43) dX12_reads_87 rfl ?_
      exact H
set_option maxHeartbeats 2000000 in
set_option maxRecDepth 4000 in
theorem VX12_reads_85 {l : Launch} {G : Gx} {d : Nat} {Q : Option Value → Hp → Prop} {sh : Sh} {fR : FRt} {B : Nat} {f : FI} {g : FL}  (hs : StM sh fR B)
    (H : LpX12_reads_43 l G d Q sh fR B f g (nI 0)) :
    LpX12_reads_85 l G d Q sh fR B f g  := by
  refine S_iconst (pc := 85) dX12_reads_85 ic0 ?_
  refine S_istore_n (pc := 86) (L' := [some (.ref B), none, some (.int (nI 0))]) dX12_reads_86 rfl (by decide) rfl ?_
  refine S_goto (pc := 87) (tgt := 43) dX12_reads_87 rfl ?_
  exact H
abbrev LpX12_isCounted_21 (l : Launch) (G : Gx) (d : Nat) (Q : Option Value → Hp → Prop) (sh : Sh) (fR : FRt) (B : Nat) (f : FI) (g : FL)  : Prop := WP l G (Zq G 0 0 Q) mX12_isCounted (rmd (d + 2) 0 0) 0 0 21 [some (.ref B), none] [] (sh, f, g, fR)
set_option maxHeartbeats 2000000 in
set_option maxRecDepth 4000 in
theorem VX12_isCounted {l : Launch} {G : Gx} {d : Nat} {Q : Option Value → Hp → Prop} {sh : Sh} {fR : FRt} {B : Nat} {f : FI} {g : FL} {a1 : Int32} (hs : StM sh fR B)
    (H : ((¬ (f B 8) = 0 → LpX12_isCounted_21 l G d Q sh fR B f g) ∧ ((f B 8) = 0 → ((a1 = 0 → LpX12_isCounted_21 l G d Q sh fR B f g) ∧ (¬ a1 = 0 → Cl l G (d + 1) 0 0 mX12_blame [.ref B, .int (nI 6), .int (f B 4)] (sh, f, g, fR) (qv sh fR fun f3 g4 => LpX12_isCounted_21 l G d Q sh fR B f3 g4)))))) :
    Cl l G (d + 2) 0 0 mX12_isCounted [.ref B, .int a1] (sh, f, g, fR) Q := by
  refine Cl.of (L0 := [some (.ref B), some (.int a1)]) miX12_isCounted rfl rfl ?_
  refine S_aload_n (pc := 0) dX12_isCounted_0 rfl rfl ?_
  refine S_get (pc := 1) (v := .int (f B 8)) dX12_isCounted_1 flX12_36 (sM_0 hs) rfl ?_
  refine S_if_ne (pc := 4) (tgt := 21) dX12_isCounted_4 rfl (fun hc1 => ?_) (fun hc1 => ?_)
  · replace H := H.1 hc1
    exact S_weak (L' := [some (.ref B), none]) (ls_e (ls_n ls_0)) H
  · replace H := H.2 hc1
    refine S_iload_n (pc := 7) dX12_isCounted_7 rfl rfl ?_
    refine S_if_eq (pc := 8) (tgt := 21) dX12_isCounted_8 rfl (fun hc2 => ?_) (fun hc2 => ?_)
    · replace H := H.1 hc2
      exact S_weak (L' := [some (.ref B), none]) (ls_e (ls_n ls_0)) H
    · replace H := H.2 hc2
      refine S_aload_n (pc := 11) dX12_isCounted_11 rfl rfl ?_
      refine S_bipush (pc := 12) dX12_isCounted_12 bp6 ?_
      refine S_aload_n (pc := 14) dX12_isCounted_14 rfl rfl ?_
      refine S_get (pc := 15) (v := .int (f B 4)) dX12_isCounted_15 flX12_23 (sM_0 hs) rfl ?_
      refine S_callV (As := [.int (nI 6), .int (f B 4)]) (mc := 0) (ms := 0) (pc := 18) dX12_isCounted_18 miX12_blame mvX12_blame mlX12_232 rfl (sM_0 hs) rfl rfl rfl (RmOK.of rfl) H ?_
      rintro _ _ ⟨f3, g4, rfl, rfl, H⟩
      show WP _ _ _ _ _ _ _ 21 [some (.ref B), some (.int a1)] [] (sh, f3, g4, fR)
      exact S_weak (L' := [some (.ref B), none]) (ls_e (ls_n ls_0)) H
set_option maxHeartbeats 2000000 in
set_option maxRecDepth 4000 in
theorem VX12_isCounted_21 {l : Launch} {G : Gx} {d : Nat} {Q : Option Value → Hp → Prop} {sh : Sh} {fR : FRt} {B : Nat} {f : FI} {g : FL}  (hs : StM sh fR B)
    (H : ((¬ (f B 8) = 0 → ((¬ (f B 8) = 0 → Q (some (.int (nI 0))) (sh, f, g, fR)) ∧ ((f B 8) = 0 → Q (some (.int (nI 1))) (sh, f, g, fR)))) ∧ ((f B 8) = 0 → Cl l G (d + 1) 0 0 mX12_ahead [.ref B] (sh, f, g, fR) (qv sh fR fun f7 g8 => ((¬ (f7 B 8) = 0 → Q (some (.int (nI 0))) (sh, f7, g8, fR)) ∧ ((f7 B 8) = 0 → Q (some (.int (nI 1))) (sh, f7, g8, fR))))))) :
    LpX12_isCounted_21 l G d Q sh fR B f g  := by
  refine S_aload_n (pc := 21) dX12_isCounted_21 rfl rfl ?_
  refine S_get (pc := 22) (v := .int (f B 8)) dX12_isCounted_22 flX12_36 (sM_0 hs) rfl ?_
  refine S_if_ne (pc := 25) (tgt := 32) dX12_isCounted_25 rfl (fun hc5 => ?_) (fun hc5 => ?_)
  · replace H := H.1 hc5
    refine S_aload_n (pc := 32) dX12_isCounted_32 rfl rfl ?_
    refine S_get (pc := 33) (v := .int (f B 8)) dX12_isCounted_33 flX12_36 (sM_0 hs) rfl ?_
    refine S_if_ne (pc := 36) (tgt := 43) dX12_isCounted_36 rfl (fun hc6 => ?_) (fun hc6 => ?_)
    · replace H := H.1 hc6
      refine S_iconst (pc := 43) dX12_isCounted_43 ic0 ?_
      exact S_zreturn dX12_isCounted_44 rfl (Or.inl rfl) H
    · replace H := H.2 hc6
      refine S_iconst (pc := 39) dX12_isCounted_39 ic1 ?_
      refine S_goto (pc := 40) (tgt := 44) dX12_isCounted_40 rfl ?_
      exact S_zreturn dX12_isCounted_44 rfl (Or.inr rfl) H
  · replace H := H.2 hc5
    refine S_aload_n (pc := 28) dX12_isCounted_28 rfl rfl ?_
    refine S_callV (As := []) (mc := 0) (ms := 0) (pc := 29) dX12_isCounted_29 miX12_ahead mvX12_ahead mlX12_249 rfl (sM_0 hs) rfl rfl rfl (RmOK.of rfl) H ?_
    rintro _ _ ⟨f7, g8, rfl, rfl, H⟩
    show WP _ _ _ _ _ _ _ 32 [some (.ref B), none] [] (sh, f7, g8, fR)
    refine S_aload_n (pc := 32) dX12_isCounted_32 rfl rfl ?_
    refine S_get (pc := 33) (v := .int (f7 B 8)) dX12_isCounted_33 flX12_36 (sM_0 hs) rfl ?_
    refine S_if_ne (pc := 36) (tgt := 43) dX12_isCounted_36 rfl (fun hc9 => ?_) (fun hc9 => ?_)
    · replace H := H.1 hc9
      refine S_iconst (pc := 43) dX12_isCounted_43 ic0 ?_
      exact S_zreturn dX12_isCounted_44 rfl (Or.inl rfl) H
    · replace H := H.2 hc9
      refine S_iconst (pc := 39) dX12_isCounted_39 ic1 ?_
      refine S_goto (pc := 40) (tgt := 44) dX12_isCounted_40 rfl ?_
      exact S_zreturn dX12_isCounted_44 rfl (Or.inr rfl) H
set_option maxHeartbeats 2000000 in
set_option maxRecDepth 4000 in
theorem VX12_mustWord {l : Launch} {G : Gx} {d : Nat} {Q : Option Value → Hp → Prop} {sh : Sh} {fR : FRt} {B : Nat} {f : FI} {g : FL} {b1 : Int64} (hs : StM sh fR B)
    (H : Cl l G (d + 1) 0 0 mX12_lex [.ref B] (sh, f, g, fR) (qv sh fR fun f1 g2 => (((f1 B 8) ≤ 0 → Cl l G (d + 1) 0 0 mX12_isWord [.ref B, .long b1] (sh, f1, g2, fR) (qi sh fR fun x6 f4 g5 => ((¬ x6 = 0 → ((¬ (f4 B 8) = 0 → Q none (sh, f4, g5, fR)) ∧ ((f4 B 8) = 0 → Cl l G (d + 1) 0 0 mX12_ahead [.ref B] (sh, f4, g5, fR) (qv sh fR fun f9 g10 => Q none (sh, f9, g10, fR))))) ∧ (x6 = 0 → Cl l G (d + 1) 0 0 mX12_blame [.ref B, .int (nI 1), .int (f4 B 4)] (sh, f4, g5, fR) (qv sh fR fun f11 g12 => ((¬ (f11 B 8) = 0 → Q none (sh, f11, g12, fR)) ∧ ((f11 B 8) = 0 → Cl l G (d + 1) 0 0 mX12_ahead [.ref B] (sh, f11, g12, fR) (qv sh fR fun f14 g15 => Q none (sh, f14, g15, fR))))))))) ∧ (¬ (f1 B 8) ≤ 0 → Q none (sh, f1, g2, fR))))) :
    Cl l G (d + 2) 0 0 mX12_mustWord [.ref B, .long b1] (sh, f, g, fR) Q := by
  refine Cl.of (L0 := [some (.ref B), some (.long b1), none]) miX12_mustWord rfl rfl ?_
  refine S_aload_n (pc := 0) dX12_mustWord_0 rfl rfl ?_
  refine S_callV (As := []) (mc := 0) (ms := 0) (pc := 1) dX12_mustWord_1 miX12_lex mvX12_lex mlX12_243 rfl (sM_0 hs) rfl rfl rfl (RmOK.of rfl) H ?_
  rintro _ _ ⟨f1, g2, rfl, rfl, H⟩
  show WP _ _ _ _ _ _ _ 4 [some (.ref B), some (.long b1), none] [] (sh, f1, g2, fR)
  refine S_aload_n (pc := 4) dX12_mustWord_4 rfl rfl ?_
  refine S_get (pc := 5) (v := .int (f1 B 8)) dX12_mustWord_5 flX12_36 (sM_0 hs) rfl ?_
  refine S_if_le (pc := 8) (tgt := 12) dX12_mustWord_8 rfl (fun hc3 => ?_) (fun hc3 => ?_)
  · replace H := H.1 hc3
    refine S_aload_n (pc := 12) dX12_mustWord_12 rfl rfl ?_
    refine S_lload_n (pc := 13) dX12_mustWord_13 rfl rfl ?_
    refine S_callV (As := [.long b1]) (mc := 0) (ms := 0) (pc := 14) dX12_mustWord_14 miX12_isWord mvX12_isWord mlX12_326 rfl (sM_0 hs) rfl rfl rfl (RmOK.of rfl) H ?_
    rintro _ _ ⟨x6, f4, g5, rfl, rfl, H⟩
    show WP _ _ _ _ _ _ _ 17 [some (.ref B), some (.long b1), none] [.int x6] (sh, f4, g5, fR)
    refine S_if_ne (pc := 17) (tgt := 29) dX12_mustWord_17 rfl (fun hc7 => ?_) (fun hc7 => ?_)
    · replace H := H.1 hc7
      refine S_aload_n (pc := 29) dX12_mustWord_29 rfl rfl ?_
      refine S_get (pc := 30) (v := .int (f4 B 8)) dX12_mustWord_30 flX12_36 (sM_0 hs) rfl ?_
      refine S_if_ne (pc := 33) (tgt := 40) dX12_mustWord_33 rfl (fun hc8 => ?_) (fun hc8 => ?_)
      · replace H := H.1 hc8
        exact S_vreturn dX12_mustWord_40 rfl H
      · replace H := H.2 hc8
        refine S_aload_n (pc := 36) dX12_mustWord_36 rfl rfl ?_
        refine S_callV (As := []) (mc := 0) (ms := 0) (pc := 37) dX12_mustWord_37 miX12_ahead mvX12_ahead mlX12_249 rfl (sM_0 hs) rfl rfl rfl (RmOK.of rfl) H ?_
        rintro _ _ ⟨f9, g10, rfl, rfl, H⟩
        show WP _ _ _ _ _ _ _ 40 [some (.ref B), some (.long b1), none] [] (sh, f9, g10, fR)
        exact S_vreturn dX12_mustWord_40 rfl H
    · replace H := H.2 hc7
      refine S_aload_n (pc := 20) dX12_mustWord_20 rfl rfl ?_
      refine S_iconst (pc := 21) dX12_mustWord_21 ic1 ?_
      refine S_aload_n (pc := 22) dX12_mustWord_22 rfl rfl ?_
      refine S_get (pc := 23) (v := .int (f4 B 4)) dX12_mustWord_23 flX12_23 (sM_0 hs) rfl ?_
      refine S_callV (As := [.int (nI 1), .int (f4 B 4)]) (mc := 0) (ms := 0) (pc := 26) dX12_mustWord_26 miX12_blame mvX12_blame mlX12_232 rfl (sM_0 hs) rfl rfl rfl (RmOK.of rfl) H ?_
      rintro _ _ ⟨f11, g12, rfl, rfl, H⟩
      show WP _ _ _ _ _ _ _ 29 [some (.ref B), some (.long b1), none] [] (sh, f11, g12, fR)
      refine S_aload_n (pc := 29) dX12_mustWord_29 rfl rfl ?_
      refine S_get (pc := 30) (v := .int (f11 B 8)) dX12_mustWord_30 flX12_36 (sM_0 hs) rfl ?_
      refine S_if_ne (pc := 33) (tgt := 40) dX12_mustWord_33 rfl (fun hc13 => ?_) (fun hc13 => ?_)
      · replace H := H.1 hc13
        exact S_vreturn dX12_mustWord_40 rfl H
      · replace H := H.2 hc13
        refine S_aload_n (pc := 36) dX12_mustWord_36 rfl rfl ?_
        refine S_callV (As := []) (mc := 0) (ms := 0) (pc := 37) dX12_mustWord_37 miX12_ahead mvX12_ahead mlX12_249 rfl (sM_0 hs) rfl rfl rfl (RmOK.of rfl) H ?_
        rintro _ _ ⟨f14, g15, rfl, rfl, H⟩
        show WP _ _ _ _ _ _ _ 40 [some (.ref B), some (.long b1), none] [] (sh, f14, g15, fR)
        exact S_vreturn dX12_mustWord_40 rfl H
  · replace H := H.2 hc3
    exact S_vreturn dX12_mustWord_11 rfl H
set_option maxHeartbeats 2000000 in
set_option maxRecDepth 4000 in
theorem VX12_has2 {l : Launch} {G : Gx} {d : Nat} {Q : Option Value → Hp → Prop} {sh : Sh} {fR : FRt} {B : Nat} {f : FI} {g : FL} {a0 : Int32} {a1 : Int32} (hs : StM sh fR B)
    (H : ((¬ ((a0 >>> (a1 &&& 31)) &&& (nI 1)) = (nI 1) → Q (some (.int (nI 0))) (sh, f, g, fR)) ∧ (((a0 >>> (a1 &&& 31)) &&& (nI 1)) = (nI 1) → Q (some (.int (nI 1))) (sh, f, g, fR)))) :
    Cl l G d 0 0 mX12_has2 [.int a0, .int a1] (sh, f, g, fR) Q := by
  refine Cl.of (L0 := [some (.int a0), some (.int a1)]) miX12_has2 rfl rfl ?_
  refine S_iload_n (pc := 0) dX12_has2_0 rfl rfl ?_
  refine S_iload_n (pc := 1) dX12_has2_1 rfl rfl ?_
  refine S_ishr (pc := 2) dX12_has2_2 ?_
  refine S_iconst (pc := 3) dX12_has2_3 ic1 ?_
  refine S_iand (pc := 4) dX12_has2_4 ?_
  refine S_iconst (pc := 5) dX12_has2_5 ic1 ?_
  refine S_icmp_ne (pc := 6) (tgt := 13) dX12_has2_6 rfl (fun hc1 => ?_) (fun hc1 => ?_)
  · replace H := H.1 hc1
    refine S_iconst (pc := 13) dX12_has2_13 ic0 ?_
    exact S_zreturn dX12_has2_14 rfl (Or.inl rfl) H
  · replace H := H.2 hc1
    refine S_iconst (pc := 9) dX12_has2_9 ic1 ?_
    refine S_goto (pc := 10) (tgt := 14) dX12_has2_10 rfl ?_
    exact S_zreturn dX12_has2_14 rfl (Or.inr rfl) H
set_option maxHeartbeats 2000000 in
set_option maxRecDepth 4000 in
theorem VX12_streamIs {l : Launch} {G : Gx} {d : Nat} {Q : Option Value → Hp → Prop} {sh : Sh} {fR : FRt} {B : Nat} {f : FI} {g : FL}  (hs : StM sh fR B)
    (H : Cl l G (d + 2) 0 0 mX12_mustWord [.ref B, .long (lN 126943972647277)] (sh, f, g, fR) (qv sh fR fun f1 g2 => Cl l G (d + 2) 0 0 mX12_number [.ref B, .int (nI 1), .int (nI 200)] (sh, f1, g2, fR) (qi sh fR fun x5 f3 g4 => inb (f1 B 29) 2 ∧ Cl l G (d + 2) 0 0 mX12_mustWord [.ref B, .long (lN 1970170228)] (sh, (up2 f3 (B + 2) (f1 B 29).toNatClampNeg x5), g4, fR) (qv sh fR fun f7 g8 => Cl l G (d + 2) 0 0 mX12_number [.ref B, .int (nI 1), .int (nI 20)] (sh, f7, g8, fR) (qi sh fR fun x11 f9 g10 => inb (f7 B 29) 2 ∧ Cl l G (d + 2) 0 0 mX12_mustWord [.ref B, .long (lN 131294707347319)] (sh, (up2 f9 (B + 3) (f7 B 29).toNatClampNeg x11), g10, fR) (qv sh fR fun f13 g14 => Cl l G (d + 2) 0 0 mX12_number [.ref B, .int (nI 10), .int (nI 99)] (sh, f13, g14, fR) (qi sh fR fun x17 f15 g16 => inb (f13 B 29) 2 ∧ Cl l G (d + 2) 0 0 mX12_mustWord [.ref B, .long (lN 7038329)] (sh, (up2 f15 (B + 4) (f13 B 29).toNatClampNeg x17), g16, fR) (qv sh fR fun f19 g20 => Cl l G (d + 2) 0 0 mX12_number [.ref B, .int (nI 0), .int (nI 999)] (sh, f19, g20, fR) (qi sh fR fun x23 f21 g22 => inb (f19 B 29) 2 ∧ Q none (sh, (up2 f21 (B + 5) (f19 B 29).toNatClampNeg x23), g22, fR)))))))))) :
    Cl l G (d + 3) 0 0 mX12_streamIs [.ref B] (sh, f, g, fR) Q := by
  refine Cl.of (L0 := [some (.ref B)]) miX12_streamIs rfl rfl ?_
  refine S_aload_n (pc := 0) dX12_streamIs_0 rfl rfl ?_
  refine S_ldc2 (pc := 1) (v := lN 126943972647277) dX12_streamIs_1 (gw 1420 rfl rfl) ?_
  refine S_callV (As := [.long (lN 126943972647277)]) (mc := 0) (ms := 0) (pc := 4) dX12_streamIs_4 miX12_mustWord mvX12_mustWord mlX12_352 rfl (sM_0 hs) rfl rfl rfl (RmOK.of rfl) H ?_
  rintro _ _ ⟨f1, g2, rfl, rfl, H⟩
  show WP _ _ _ _ _ _ _ 7 [some (.ref B)] [] (sh, f1, g2, fR)
  refine S_aload_n (pc := 7) dX12_streamIs_7 rfl rfl ?_
  refine S_getR (pc := 8) dX12_streamIs_8 flX12_54 (sM_0 hs) rfl (rM_14 hs) ?_
  refine S_aload_n (pc := 11) dX12_streamIs_11 rfl rfl ?_
  refine S_get (pc := 12) (v := .int (f1 B 29)) dX12_streamIs_12 flX12_100 (sM_0 hs) rfl ?_
  refine S_aload_n (pc := 15) dX12_streamIs_15 rfl rfl ?_
  refine S_iconst (pc := 16) dX12_streamIs_16 ic1 ?_
  refine S_sipush (pc := 17) dX12_streamIs_17 sp200 ?_
  refine S_callV (As := [.int (nI 1), .int (nI 200)]) (mc := 0) (ms := 0) (pc := 20) dX12_streamIs_20 miX12_number mvX12_number mlX12_356 rfl (sM_0 hs) rfl rfl rfl (RmOK.of rfl) H ?_
  rintro _ _ ⟨x5, f3, g4, rfl, rfl, H⟩
  show WP _ _ _ _ _ _ _ 23 [some (.ref B)] [.int x5, .int (f1 B 29), .ref (B + 2)] (sh, f3, g4, fR)
  obtain ⟨hb6, H⟩ := H
  refine S_iast (pc := 23) dX12_streamIs_23 (sM_2 hs) (Nat.succ_pos _) hb6 ?_
  refine S_aload_n (pc := 24) dX12_streamIs_24 rfl rfl ?_
  refine S_ldc2 (pc := 25) (v := lN 1970170228) dX12_streamIs_25 (gw 1444 rfl rfl) ?_
  refine S_callV (As := [.long (lN 1970170228)]) (mc := 0) (ms := 0) (pc := 28) dX12_streamIs_28 miX12_mustWord mvX12_mustWord mlX12_352 rfl (sM_0 hs) rfl rfl rfl (RmOK.of rfl) H ?_
  rintro _ _ ⟨f7, g8, rfl, rfl, H⟩
  show WP _ _ _ _ _ _ _ 31 [some (.ref B)] [] (sh, f7, g8, fR)
  refine S_aload_n (pc := 31) dX12_streamIs_31 rfl rfl ?_
  refine S_getR (pc := 32) dX12_streamIs_32 flX12_57 (sM_0 hs) rfl (rM_15 hs) ?_
  refine S_aload_n (pc := 35) dX12_streamIs_35 rfl rfl ?_
  refine S_get (pc := 36) (v := .int (f7 B 29)) dX12_streamIs_36 flX12_100 (sM_0 hs) rfl ?_
  refine S_aload_n (pc := 39) dX12_streamIs_39 rfl rfl ?_
  refine S_iconst (pc := 40) dX12_streamIs_40 ic1 ?_
  refine S_bipush (pc := 41) dX12_streamIs_41 bp20 ?_
  refine S_callV (As := [.int (nI 1), .int (nI 20)]) (mc := 0) (ms := 0) (pc := 43) dX12_streamIs_43 miX12_number mvX12_number mlX12_356 rfl (sM_0 hs) rfl rfl rfl (RmOK.of rfl) H ?_
  rintro _ _ ⟨x11, f9, g10, rfl, rfl, H⟩
  show WP _ _ _ _ _ _ _ 46 [some (.ref B)] [.int x11, .int (f7 B 29), .ref (B + 3)] (sh, f9, g10, fR)
  obtain ⟨hb12, H⟩ := H
  refine S_iast (pc := 46) dX12_streamIs_46 (sM_3 hs) (Nat.succ_pos _) hb12 ?_
  refine S_aload_n (pc := 47) dX12_streamIs_47 rfl rfl ?_
  refine S_ldc2 (pc := 48) (v := lN 131294707347319) dX12_streamIs_48 (gw 1445 rfl rfl) ?_
  refine S_callV (As := [.long (lN 131294707347319)]) (mc := 0) (ms := 0) (pc := 51) dX12_streamIs_51 miX12_mustWord mvX12_mustWord mlX12_352 rfl (sM_0 hs) rfl rfl rfl (RmOK.of rfl) H ?_
  rintro _ _ ⟨f13, g14, rfl, rfl, H⟩
  show WP _ _ _ _ _ _ _ 54 [some (.ref B)] [] (sh, f13, g14, fR)
  refine S_aload_n (pc := 54) dX12_streamIs_54 rfl rfl ?_
  refine S_getR (pc := 55) dX12_streamIs_55 flX12_60 (sM_0 hs) rfl (rM_16 hs) ?_
  refine S_aload_n (pc := 58) dX12_streamIs_58 rfl rfl ?_
  refine S_get (pc := 59) (v := .int (f13 B 29)) dX12_streamIs_59 flX12_100 (sM_0 hs) rfl ?_
  refine S_aload_n (pc := 62) dX12_streamIs_62 rfl rfl ?_
  refine S_bipush (pc := 63) dX12_streamIs_63 bp10 ?_
  refine S_bipush (pc := 65) dX12_streamIs_65 bp99 ?_
  refine S_callV (As := [.int (nI 10), .int (nI 99)]) (mc := 0) (ms := 0) (pc := 67) dX12_streamIs_67 miX12_number mvX12_number mlX12_356 rfl (sM_0 hs) rfl rfl rfl (RmOK.of rfl) H ?_
  rintro _ _ ⟨x17, f15, g16, rfl, rfl, H⟩
  show WP _ _ _ _ _ _ _ 70 [some (.ref B)] [.int x17, .int (f13 B 29), .ref (B + 4)] (sh, f15, g16, fR)
  obtain ⟨hb18, H⟩ := H
  refine S_iast (pc := 70) dX12_streamIs_70 (sM_4 hs) (Nat.succ_pos _) hb18 ?_
  refine S_aload_n (pc := 71) dX12_streamIs_71 rfl rfl ?_
  refine S_ldc2 (pc := 72) (v := lN 7038329) dX12_streamIs_72 (gw 1446 rfl rfl) ?_
  refine S_callV (As := [.long (lN 7038329)]) (mc := 0) (ms := 0) (pc := 75) dX12_streamIs_75 miX12_mustWord mvX12_mustWord mlX12_352 rfl (sM_0 hs) rfl rfl rfl (RmOK.of rfl) H ?_
  rintro _ _ ⟨f19, g20, rfl, rfl, H⟩
  show WP _ _ _ _ _ _ _ 78 [some (.ref B)] [] (sh, f19, g20, fR)
  refine S_aload_n (pc := 78) dX12_streamIs_78 rfl rfl ?_
  refine S_getR (pc := 79) dX12_streamIs_79 flX12_63 (sM_0 hs) rfl (rM_17 hs) ?_
  refine S_aload_n (pc := 82) dX12_streamIs_82 rfl rfl ?_
  refine S_get (pc := 83) (v := .int (f19 B 29)) dX12_streamIs_83 flX12_100 (sM_0 hs) rfl ?_
  refine S_aload_n (pc := 86) dX12_streamIs_86 rfl rfl ?_
  refine S_iconst (pc := 87) dX12_streamIs_87 ic0 ?_
  refine S_sipush (pc := 88) dX12_streamIs_88 sp999 ?_
  refine S_callV (As := [.int (nI 0), .int (nI 999)]) (mc := 0) (ms := 0) (pc := 91) dX12_streamIs_91 miX12_number mvX12_number mlX12_356 rfl (sM_0 hs) rfl rfl rfl (RmOK.of rfl) H ?_
  rintro _ _ ⟨x23, f21, g22, rfl, rfl, H⟩
  show WP _ _ _ _ _ _ _ 94 [some (.ref B)] [.int x23, .int (f19 B 29), .ref (B + 5)] (sh, f21, g22, fR)
  obtain ⟨hb24, H⟩ := H
  refine S_iast (pc := 94) dX12_streamIs_94 (sM_5 hs) (Nat.succ_pos _) hb24 ?_
  exact S_vreturn dX12_streamIs_95 rfl H
abbrev LpX12_pathIs_57 (l : Launch) (G : Gx) (d : Nat) (Q : Option Value → Hp → Prop) (sh : Sh) (fR : FRt) (B : Nat) (f : FI) (g : FL)  : Prop := WP l G (Zq G 0 0 Q) mX12_pathIs (rmd (d + 3) 0 0) 0 0 57 [some (.ref B), none] [] (sh, f, g, fR)
abbrev LpX12_pathIs_66 (l : Launch) (G : Gx) (d : Nat) (Q : Option Value → Hp → Prop) (sh : Sh) (fR : FRt) (B : Nat) (f : FI) (g : FL)  : Prop := WP l G (Zq G 0 0 Q) mX12_pathIs (rmd (d + 3) 0 0) 0 0 66 [some (.ref B), none] [] (sh, f, g, fR)
abbrev LpX12_pathIs_94 (l : Launch) (G : Gx) (d : Nat) (Q : Option Value → Hp → Prop) (sh : Sh) (fR : FRt) (B : Nat) (f : FI) (g : FL)  : Prop := WP l G (Zq G 0 0 Q) mX12_pathIs (rmd (d + 3) 0 0) 0 0 94 [some (.ref B), none] [] (sh, f, g, fR)
set_option maxHeartbeats 2000000 in
set_option maxRecDepth 4000 in
theorem VX12_pathIs {l : Launch} {G : Gx} {d : Nat} {Q : Option Value → Hp → Prop} {sh : Sh} {fR : FRt} {B : Nat} {f : FI} {g : FL}  (hs : StM sh fR B)
    (H : inb (f B 29) 2 ∧ ((¬ (f (B + 6) (f B 29).toNatClampNeg) = (nI 4) → Cl l G (d + 2) 0 0 mX12_isCounted [.ref B, .int (nI 0)] (sh, f, g, fR) (qi sh fR fun x5 f3 g4 => ((¬ x5 = 0 → Cl l G (d + 2) 0 0 mX12_lex [.ref B] (sh, f3, g4, fR) (qv sh fR fun f7 g8 => (((f7 B 8) ≤ 0 → ((¬ (f7 B 3) = (nI 1) → LpX12_pathIs_57 l G d Q sh fR B f7 g8) ∧ ((f7 B 3) = (nI 1) → Cl l G (d + 2) 0 0 mX12_isOwn [.ref B, .long (g8 B 7)] (sh, f7, g8, fR) (qi sh fR fun x13 f11 g12 => ((x13 = 0 → LpX12_pathIs_66 l G d Q sh fR B f11 g12) ∧ (¬ x13 = 0 → LpX12_pathIs_57 l G d Q sh fR B f11 g12)))))) ∧ (¬ (f7 B 8) ≤ 0 → Q none (sh, f7, g8, fR))))) ∧ (x5 = 0 → Q none (sh, f3, g4, fR))))) ∧ ((f (B + 6) (f B 29).toNatClampNeg) = (nI 4) → Cl l G (d + 2) 0 0 mX12_isCounted [.ref B, .int (nI 1)] (sh, f, g, fR) (qi sh fR fun x17 f15 g16 => ((¬ x17 = 0 → Cl l G (d + 2) 0 0 mX12_lex [.ref B] (sh, f15, g16, fR) (qv sh fR fun f19 g20 => (((f19 B 8) ≤ 0 → ((¬ (f19 B 3) = (nI 1) → LpX12_pathIs_57 l G d Q sh fR B f19 g20) ∧ ((f19 B 3) = (nI 1) → Cl l G (d + 2) 0 0 mX12_isOwn [.ref B, .long (g20 B 7)] (sh, f19, g20, fR) (qi sh fR fun x25 f23 g24 => ((x25 = 0 → LpX12_pathIs_66 l G d Q sh fR B f23 g24) ∧ (¬ x25 = 0 → LpX12_pathIs_57 l G d Q sh fR B f23 g24)))))) ∧ (¬ (f19 B 8) ≤ 0 → Q none (sh, f19, g20, fR))))) ∧ (x17 = 0 → Q none (sh, f15, g16, fR))))))) :
    Cl l G (d + 3) 0 0 mX12_pathIs [.ref B] (sh, f, g, fR) Q := by
  refine Cl.of (L0 := [some (.ref B), none]) miX12_pathIs rfl rfl ?_
  refine S_aload_n (pc := 0) dX12_pathIs_0 rfl rfl ?_
  refine S_aload_n (pc := 1) dX12_pathIs_1 rfl rfl ?_
  refine S_getR (pc := 2) dX12_pathIs_2 flX12_66 (sM_0 hs) rfl (rM_18 hs) ?_
  refine S_aload_n (pc := 5) dX12_pathIs_5 rfl rfl ?_
  refine S_get (pc := 6) (v := .int (f B 29)) dX12_pathIs_6 flX12_100 (sM_0 hs) rfl ?_
  obtain ⟨hb1, H⟩ := H
  refine S_iald (pc := 9) dX12_pathIs_9 (sM_6 hs) hb1 ?_
  refine S_iconst (pc := 10) dX12_pathIs_10 ic4 ?_
  refine S_icmp_ne (pc := 11) (tgt := 18) dX12_pathIs_11 rfl (fun hc2 => ?_) (fun hc2 => ?_)
  · replace H := H.1 hc2
    refine S_iconst (pc := 18) dX12_pathIs_18 ic0 ?_
    refine S_callV (As := [.int (nI 0)]) (mc := 0) (ms := 0) (pc := 19) dX12_pathIs_19 miX12_isCounted mvX12_isCounted mlX12_360 rfl (sM_0 hs) rfl rfl rfl (RmOK.of rfl) H ?_
    rintro _ _ ⟨x5, f3, g4, rfl, rfl, H⟩
    show WP _ _ _ _ _ _ _ 22 [some (.ref B), none] [.int x5] (sh, f3, g4, fR)
    refine S_if_ne (pc := 22) (tgt := 26) dX12_pathIs_22 rfl (fun hc6 => ?_) (fun hc6 => ?_)
    · replace H := H.1 hc6
      refine S_aload_n (pc := 26) dX12_pathIs_26 rfl rfl ?_
      refine S_callV (As := []) (mc := 0) (ms := 0) (pc := 27) dX12_pathIs_27 miX12_lex mvX12_lex mlX12_243 rfl (sM_0 hs) rfl rfl rfl (RmOK.of rfl) H ?_
      rintro _ _ ⟨f7, g8, rfl, rfl, H⟩
      show WP _ _ _ _ _ _ _ 30 [some (.ref B), none] [] (sh, f7, g8, fR)
      refine S_aload_n (pc := 30) dX12_pathIs_30 rfl rfl ?_
      refine S_get (pc := 31) (v := .int (f7 B 8)) dX12_pathIs_31 flX12_36 (sM_0 hs) rfl ?_
      refine S_if_le (pc := 34) (tgt := 38) dX12_pathIs_34 rfl (fun hc9 => ?_) (fun hc9 => ?_)
      · replace H := H.1 hc9
        refine S_aload_n (pc := 38) dX12_pathIs_38 rfl rfl ?_
        refine S_get (pc := 39) (v := .int (f7 B 3)) dX12_pathIs_39 flX12_20 (sM_0 hs) rfl ?_
        refine S_iconst (pc := 42) dX12_pathIs_42 ic1 ?_
        refine S_icmp_ne (pc := 43) (tgt := 57) dX12_pathIs_43 rfl (fun hc10 => ?_) (fun hc10 => ?_)
        · replace H := H.1 hc10
          exact H
        · replace H := H.2 hc10
          refine S_aload_n (pc := 46) dX12_pathIs_46 rfl rfl ?_
          refine S_aload_n (pc := 47) dX12_pathIs_47 rfl rfl ?_
          refine S_get (pc := 48) (v := .long (g8 B 7)) dX12_pathIs_48 flX12_32 (sM_0 hs) rfl ?_
          refine S_callV (As := [.long (g8 B 7)]) (mc := 0) (ms := 0) (pc := 51) dX12_pathIs_51 miX12_isOwn mvX12_isOwn mlX12_364 rfl (sM_0 hs) rfl rfl rfl (RmOK.of rfl) H ?_
          rintro _ _ ⟨x13, f11, g12, rfl, rfl, H⟩
          show WP _ _ _ _ _ _ _ 54 [some (.ref B), none] [.int x13] (sh, f11, g12, fR)
          refine S_if_eq (pc := 54) (tgt := 66) dX12_pathIs_54 rfl (fun hc14 => ?_) (fun hc14 => ?_)
          · replace H := H.1 hc14
            exact H
          · replace H := H.2 hc14
            exact H
      · replace H := H.2 hc9
        exact S_vreturn dX12_pathIs_37 rfl H
    · replace H := H.2 hc6
      exact S_vreturn dX12_pathIs_25 rfl H
  · replace H := H.2 hc2
    refine S_iconst (pc := 14) dX12_pathIs_14 ic1 ?_
    refine S_goto (pc := 15) (tgt := 19) dX12_pathIs_15 rfl ?_
    refine S_callV (As := [.int (nI 1)]) (mc := 0) (ms := 0) (pc := 19) dX12_pathIs_19 miX12_isCounted mvX12_isCounted mlX12_360 rfl (sM_0 hs) rfl rfl rfl (RmOK.of rfl) H ?_
    rintro _ _ ⟨x17, f15, g16, rfl, rfl, H⟩
    show WP _ _ _ _ _ _ _ 22 [some (.ref B), none] [.int x17] (sh, f15, g16, fR)
    refine S_if_ne (pc := 22) (tgt := 26) dX12_pathIs_22 rfl (fun hc18 => ?_) (fun hc18 => ?_)
    · replace H := H.1 hc18
      refine S_aload_n (pc := 26) dX12_pathIs_26 rfl rfl ?_
      refine S_callV (As := []) (mc := 0) (ms := 0) (pc := 27) dX12_pathIs_27 miX12_lex mvX12_lex mlX12_243 rfl (sM_0 hs) rfl rfl rfl (RmOK.of rfl) H ?_
      rintro _ _ ⟨f19, g20, rfl, rfl, H⟩
      show WP _ _ _ _ _ _ _ 30 [some (.ref B), none] [] (sh, f19, g20, fR)
      refine S_aload_n (pc := 30) dX12_pathIs_30 rfl rfl ?_
      refine S_get (pc := 31) (v := .int (f19 B 8)) dX12_pathIs_31 flX12_36 (sM_0 hs) rfl ?_
      refine S_if_le (pc := 34) (tgt := 38) dX12_pathIs_34 rfl (fun hc21 => ?_) (fun hc21 => ?_)
      · replace H := H.1 hc21
        refine S_aload_n (pc := 38) dX12_pathIs_38 rfl rfl ?_
        refine S_get (pc := 39) (v := .int (f19 B 3)) dX12_pathIs_39 flX12_20 (sM_0 hs) rfl ?_
        refine S_iconst (pc := 42) dX12_pathIs_42 ic1 ?_
        refine S_icmp_ne (pc := 43) (tgt := 57) dX12_pathIs_43 rfl (fun hc22 => ?_) (fun hc22 => ?_)
        · replace H := H.1 hc22
          exact H
        · replace H := H.2 hc22
          refine S_aload_n (pc := 46) dX12_pathIs_46 rfl rfl ?_
          refine S_aload_n (pc := 47) dX12_pathIs_47 rfl rfl ?_
          refine S_get (pc := 48) (v := .long (g20 B 7)) dX12_pathIs_48 flX12_32 (sM_0 hs) rfl ?_
          refine S_callV (As := [.long (g20 B 7)]) (mc := 0) (ms := 0) (pc := 51) dX12_pathIs_51 miX12_isOwn mvX12_isOwn mlX12_364 rfl (sM_0 hs) rfl rfl rfl (RmOK.of rfl) H ?_
          rintro _ _ ⟨x25, f23, g24, rfl, rfl, H⟩
          show WP _ _ _ _ _ _ _ 54 [some (.ref B), none] [.int x25] (sh, f23, g24, fR)
          refine S_if_eq (pc := 54) (tgt := 66) dX12_pathIs_54 rfl (fun hc26 => ?_) (fun hc26 => ?_)
          · replace H := H.1 hc26
            exact H
          · replace H := H.2 hc26
            exact H
      · replace H := H.2 hc21
        exact S_vreturn dX12_pathIs_37 rfl H
    · replace H := H.2 hc18
      exact S_vreturn dX12_pathIs_25 rfl H
set_option maxHeartbeats 2000000 in
set_option maxRecDepth 4000 in
theorem VX12_pathIs_57 {l : Launch} {G : Gx} {d : Nat} {Q : Option Value → Hp → Prop} {sh : Sh} {fR : FRt} {B : Nat} {f : FI} {g : FL}  (hs : StM sh fR B)
    (H : Cl l G (d + 2) 0 0 mX12_blame [.ref B, .int (nI 1), .int (f B 4)] (sh, f, g, fR) (qv sh fR fun f27 g28 => LpX12_pathIs_66 l G d Q sh fR B f27 g28)) :
    LpX12_pathIs_57 l G d Q sh fR B f g  := by
  refine S_aload_n (pc := 57) dX12_pathIs_57 rfl rfl ?_
  refine S_iconst (pc := 58) dX12_pathIs_58 ic1 ?_
  refine S_aload_n (pc := 59) dX12_pathIs_59 rfl rfl ?_
  refine S_get (pc := 60) (v := .int (f B 4)) dX12_pathIs_60 flX12_23 (sM_0 hs) rfl ?_
  refine S_callV (As := [.int (nI 1), .int (f B 4)]) (mc := 0) (ms := 0) (pc := 63) dX12_pathIs_63 miX12_blame mvX12_blame mlX12_232 rfl (sM_0 hs) rfl rfl rfl (RmOK.of rfl) H ?_
  rintro _ _ ⟨f27, g28, rfl, rfl, H⟩
  show WP _ _ _ _ _ _ _ 66 [some (.ref B), none] [] (sh, f27, g28, fR)
  exact H
set_option maxHeartbeats 2000000 in
set_option maxRecDepth 4000 in
theorem VX12_pathIs_66 {l : Launch} {G : Gx} {d : Nat} {Q : Option Value → Hp → Prop} {sh : Sh} {fR : FRt} {B : Nat} {f : FI} {g : FL}  (hs : StM sh fR B)
    (H : ((¬ (f B 8) = 0 → LpX12_pathIs_94 l G d Q sh fR B f g) ∧ ((f B 8) = 0 → Cl l G (d + 2) 0 0 mX12_pathNamed [.ref B, .long (g B 7)] (sh, f, g, fR) (qi sh fR fun x32 f30 g31 => ((x32 = (-1) → LpX12_pathIs_94 l G d Q sh fR B f30 g31) ∧ (¬ x32 = (-1) → Cl l G (d + 2) 0 0 mX12_blame [.ref B, .int (nI 2), .int (f30 B 4)] (sh, f30, g31, fR) (qv sh fR fun f34 g35 => LpX12_pathIs_94 l G d Q sh fR B f34 g35))))))) :
    LpX12_pathIs_66 l G d Q sh fR B f g  := by
  refine S_aload_n (pc := 66) dX12_pathIs_66 rfl rfl ?_
  refine S_get (pc := 67) (v := .int (f B 8)) dX12_pathIs_67 flX12_36 (sM_0 hs) rfl ?_
  refine S_if_ne (pc := 70) (tgt := 94) dX12_pathIs_70 rfl (fun hc29 => ?_) (fun hc29 => ?_)
  · replace H := H.1 hc29
    exact H
  · replace H := H.2 hc29
    refine S_aload_n (pc := 73) dX12_pathIs_73 rfl rfl ?_
    refine S_aload_n (pc := 74) dX12_pathIs_74 rfl rfl ?_
    refine S_get (pc := 75) (v := .long (g B 7)) dX12_pathIs_75 flX12_32 (sM_0 hs) rfl ?_
    refine S_callV (As := [.long (g B 7)]) (mc := 0) (ms := 0) (pc := 78) dX12_pathIs_78 miX12_pathNamed mvX12_pathNamed mlX12_367 rfl (sM_0 hs) rfl rfl rfl (RmOK.of rfl) H ?_
    rintro _ _ ⟨x32, f30, g31, rfl, rfl, H⟩
    show WP _ _ _ _ _ _ _ 81 [some (.ref B), none] [.int x32] (sh, f30, g31, fR)
    refine S_iconst (pc := 81) dX12_pathIs_81 icm1 ?_
    refine S_icmp_eq (pc := 82) (tgt := 94) dX12_pathIs_82 rfl (fun hc33 => ?_) (fun hc33 => ?_)
    · replace H := H.1 hc33
      exact H
    · replace H := H.2 hc33
      refine S_aload_n (pc := 85) dX12_pathIs_85 rfl rfl ?_
      refine S_iconst (pc := 86) dX12_pathIs_86 ic2 ?_
      refine S_aload_n (pc := 87) dX12_pathIs_87 rfl rfl ?_
      refine S_get (pc := 88) (v := .int (f30 B 4)) dX12_pathIs_88 flX12_23 (sM_0 hs) rfl ?_
      refine S_callV (As := [.int (nI 2), .int (f30 B 4)]) (mc := 0) (ms := 0) (pc := 91) dX12_pathIs_91 miX12_blame mvX12_blame mlX12_232 rfl (sM_0 hs) rfl rfl rfl (RmOK.of rfl) H ?_
      rintro _ _ ⟨f34, g35, rfl, rfl, H⟩
      show WP _ _ _ _ _ _ _ 94 [some (.ref B), none] [] (sh, f34, g35, fR)
      exact H
set_option maxHeartbeats 2000000 in
set_option maxRecDepth 4000 in
theorem VX12_pathIs_94 {l : Launch} {G : Gx} {d : Nat} {Q : Option Value → Hp → Prop} {sh : Sh} {fR : FRt} {B : Nat} {f : FI} {g : FL}  (hs : StM sh fR B)
    (H : (((f B 8) ≤ 0 → inb (f B 29) 2 ∧ (∀ w38 : Int32, w38 = ((nI 4) * (f B 29)) + (f (B + 6) (f B 29).toNatClampNeg) → inb w38 8 ∧ Cl l G (d + 2) 0 0 mX12_ahead [.ref B] (sh, f, (up2 g (B + 15) w38.toNatClampNeg (g B 7)), fR) (qv sh fR fun f41 g42 => Cl l G (d + 2) 0 0 mX12_mustWord [.ref B, .long (lN 431198331257)] (sh, f41, g42, fR) (qv sh fR fun f43 g44 => Cl l G (d + 2) 0 0 mX12_number [.ref B, .int (nI 1), .int (nI 9)] (sh, f43, g44, fR) (qi sh fR fun x47 f45 g46 => inb w38 8 ∧ inb w38 8 ∧ ((¬ (f45 B 8) = 0 → Q none (sh, (up2 (up2 f45 (B + 7) w38.toNatClampNeg x47) (B + 8) w38.toNatClampNeg (-1)), g46, fR)) ∧ ((f45 B 8) = 0 → inb (f45 B 29) 2 ∧ inb (f45 B 29) 2 ∧ Q none (sh, (up2 (up2 (up2 f45 (B + 7) w38.toNatClampNeg x47) (B + 8) w38.toNatClampNeg (-1)) (B + 6) (f45 B 29).toNatClampNeg ((f45 (B + 6) (f45 B 29).toNatClampNeg) + (nI 1))), g46, fR)))))))) ∧ (¬ (f B 8) ≤ 0 → Q none (sh, f, g, fR)))) :
    LpX12_pathIs_94 l G d Q sh fR B f g  := by
  refine S_aload_n (pc := 94) dX12_pathIs_94 rfl rfl ?_
  refine S_get (pc := 95) (v := .int (f B 8)) dX12_pathIs_95 flX12_36 (sM_0 hs) rfl ?_
  refine S_if_le (pc := 98) (tgt := 102) dX12_pathIs_98 rfl (fun hc36 => ?_) (fun hc36 => ?_)
  · replace H := H.1 hc36
    refine S_iconst (pc := 102) dX12_pathIs_102 ic4 ?_
    refine S_aload_n (pc := 103) dX12_pathIs_103 rfl rfl ?_
    refine S_get (pc := 104) (v := .int (f B 29)) dX12_pathIs_104 flX12_100 (sM_0 hs) rfl ?_
    refine S_imul (pc := 107) dX12_pathIs_107 ?_
    refine S_aload_n (pc := 108) dX12_pathIs_108 rfl rfl ?_
    refine S_getR (pc := 109) dX12_pathIs_109 flX12_66 (sM_0 hs) rfl (rM_18 hs) ?_
    refine S_aload_n (pc := 112) dX12_pathIs_112 rfl rfl ?_
    refine S_get (pc := 113) (v := .int (f B 29)) dX12_pathIs_113 flX12_100 (sM_0 hs) rfl ?_
    obtain ⟨hb37, H⟩ := H
    refine S_iald (pc := 116) dX12_pathIs_116 (sM_6 hs) hb37 ?_
    refine S_iadd (pc := 117) dX12_pathIs_117 ?_
    refine S_namei (fun w38 e39 => ?_)
    replace H := H w38 e39
    refine S_istore_n (pc := 118) (L' := [some (.ref B), some (.int w38)]) dX12_pathIs_118 rfl (by decide) rfl ?_
    refine S_aload_n (pc := 119) dX12_pathIs_119 rfl rfl ?_
    refine S_getR (pc := 120) dX12_pathIs_120 flX12_93 (sM_0 hs) rfl (rM_27 hs) ?_
    refine S_iload_n (pc := 123) dX12_pathIs_123 rfl rfl ?_
    refine S_aload_n (pc := 124) dX12_pathIs_124 rfl rfl ?_
    refine S_get (pc := 125) (v := .long (g B 7)) dX12_pathIs_125 flX12_32 (sM_0 hs) rfl ?_
    obtain ⟨hb40, H⟩ := H
    refine S_last (pc := 128) dX12_pathIs_128 (sM_15 hs) (Nat.succ_pos _) hb40 ?_
    refine S_aload_n (pc := 129) dX12_pathIs_129 rfl rfl ?_
    refine S_callV (As := []) (mc := 0) (ms := 0) (pc := 130) dX12_pathIs_130 miX12_ahead mvX12_ahead mlX12_249 rfl (sM_0 hs) rfl rfl rfl (RmOK.of rfl) H ?_
    rintro _ _ ⟨f41, g42, rfl, rfl, H⟩
    show WP _ _ _ _ _ _ _ 133 [some (.ref B), some (.int w38)] [] (sh, f41, g42, fR)
    refine S_aload_n (pc := 133) dX12_pathIs_133 rfl rfl ?_
    refine S_ldc2 (pc := 134) (v := lN 431198331257) dX12_pathIs_134 (gw 1476 rfl rfl) ?_
    refine S_callV (As := [.long (lN 431198331257)]) (mc := 0) (ms := 0) (pc := 137) dX12_pathIs_137 miX12_mustWord mvX12_mustWord mlX12_352 rfl (sM_0 hs) rfl rfl rfl (RmOK.of rfl) H ?_
    rintro _ _ ⟨f43, g44, rfl, rfl, H⟩
    show WP _ _ _ _ _ _ _ 140 [some (.ref B), some (.int w38)] [] (sh, f43, g44, fR)
    refine S_aload_n (pc := 140) dX12_pathIs_140 rfl rfl ?_
    refine S_getR (pc := 141) dX12_pathIs_141 flX12_69 (sM_0 hs) rfl (rM_19 hs) ?_
    refine S_iload_n (pc := 144) dX12_pathIs_144 rfl rfl ?_
    refine S_aload_n (pc := 145) dX12_pathIs_145 rfl rfl ?_
    refine S_iconst (pc := 146) dX12_pathIs_146 ic1 ?_
    refine S_bipush (pc := 147) dX12_pathIs_147 bp9 ?_
    refine S_callV (As := [.int (nI 1), .int (nI 9)]) (mc := 0) (ms := 0) (pc := 149) dX12_pathIs_149 miX12_number mvX12_number mlX12_356 rfl (sM_0 hs) rfl rfl rfl (RmOK.of rfl) H ?_
    rintro _ _ ⟨x47, f45, g46, rfl, rfl, H⟩
    show WP _ _ _ _ _ _ _ 152 [some (.ref B), some (.int w38)] [.int x47, .int w38, .ref (B + 7)] (sh, f45, g46, fR)
    obtain ⟨hb48, H⟩ := H
    refine S_iast (pc := 152) dX12_pathIs_152 (sM_7 hs) (Nat.succ_pos _) hb48 ?_
    refine S_aload_n (pc := 153) dX12_pathIs_153 rfl rfl ?_
    refine S_getR (pc := 154) dX12_pathIs_154 flX12_72 (sM_0 hs) rfl (rM_20 hs) ?_
    refine S_iload_n (pc := 157) dX12_pathIs_157 rfl rfl ?_
    refine S_iconst (pc := 158) dX12_pathIs_158 icm1 ?_
    obtain ⟨hb49, H⟩ := H
    refine S_iast (pc := 159) dX12_pathIs_159 (sM_8 hs) (Nat.succ_pos _) hb49 ?_
    refine S_aload_n (pc := 160) dX12_pathIs_160 rfl rfl ?_
    refine S_get (pc := 161) (v := .int ((up2 (up2 f45 (B + 7) w38.toNatClampNeg x47) (B + 8) w38.toNatClampNeg (-1)) B 8)) dX12_pathIs_161 flX12_36 (sM_0 hs) rfl ?_
    refine S_eqi (x := f45 B 8) ((up2_r (by omega)).trans ((up2_r (by omega)).trans rfl)) ?_
    refine S_if_ne (pc := 164) (tgt := 180) dX12_pathIs_164 rfl (fun hc50 => ?_) (fun hc50 => ?_)
    · replace H := H.1 hc50
      exact S_vreturn dX12_pathIs_180 rfl H
    · replace H := H.2 hc50
      refine S_aload_n (pc := 167) dX12_pathIs_167 rfl rfl ?_
      refine S_getR (pc := 168) dX12_pathIs_168 flX12_66 (sM_0 hs) rfl (rM_18 hs) ?_
      refine S_aload_n (pc := 171) dX12_pathIs_171 rfl rfl ?_
      refine S_get (pc := 172) (v := .int ((up2 (up2 f45 (B + 7) w38.toNatClampNeg x47) (B + 8) w38.toNatClampNeg (-1)) B 29)) dX12_pathIs_172 flX12_100 (sM_0 hs) rfl ?_
      refine S_eqi (x := f45 B 29) ((up2_r (by omega)).trans ((up2_r (by omega)).trans rfl)) ?_
      refine S_dup2 (pc := 175) dX12_pathIs_175 rfl rfl ?_
      obtain ⟨hb51, H⟩ := H
      refine S_iald (pc := 176) dX12_pathIs_176 (sM_6 hs) hb51 ?_
      refine S_eqi (x := f45 (B + 6) (f45 B 29).toNatClampNeg) ((up2_r (by omega)).trans ((up2_r (by omega)).trans rfl)) ?_
      refine S_iconst (pc := 177) dX12_pathIs_177 ic1 ?_
      refine S_iadd (pc := 178) dX12_pathIs_178 ?_
      obtain ⟨hb52, H⟩ := H
      refine S_iast (pc := 179) dX12_pathIs_179 (sM_6 hs) (Nat.succ_pos _) hb52 ?_
      exact S_vreturn dX12_pathIs_180 rfl H
  · replace H := H.2 hc36
    exact S_vreturn dX12_pathIs_101 rfl H
abbrev LpX12_joinIs_40 (l : Launch) (G : Gx) (d : Nat) (Q : Option Value → Hp → Prop) (sh : Sh) (fR : FRt) (B : Nat) (f : FI) (g : FL)  : Prop := WP l G (Zq G 0 0 Q) mX12_joinIs (rmd (d + 3) 0 0) 0 0 40 [some (.ref B), none, none, none] [] (sh, f, g, fR)
abbrev LpX12_joinIs_49 (l : Launch) (G : Gx) (d : Nat) (Q : Option Value → Hp → Prop) (sh : Sh) (fR : FRt) (B : Nat) (f : FI) (g : FL)  : Prop := WP l G (Zq G 0 0 Q) mX12_joinIs (rmd (d + 3) 0 0) 0 0 49 [some (.ref B), none, none, none] [] (sh, f, g, fR)
abbrev LpX12_joinIs_107 (l : Launch) (G : Gx) (d : Nat) (Q : Option Value → Hp → Prop) (sh : Sh) (fR : FRt) (B : Nat) (f : FI) (g : FL) (a1 : Int32) : Prop := WP l G (Zq G 0 0 Q) mX12_joinIs (rmd (d + 3) 0 0) 0 0 107 [some (.ref B), some (.int a1), none, none] [] (sh, f, g, fR)
abbrev LpX12_joinIs_98 (l : Launch) (G : Gx) (d : Nat) (Q : Option Value → Hp → Prop) (sh : Sh) (fR : FRt) (B : Nat) (f : FI) (g : FL) (a1 : Int32) : Prop := WP l G (Zq G 0 0 Q) mX12_joinIs (rmd (d + 3) 0 0) 0 0 98 [some (.ref B), some (.int a1), none, none] [] (sh, f, g, fR)
set_option maxHeartbeats 2000000 in
set_option maxRecDepth 4000 in
theorem VX12_joinIs {l : Launch} {G : Gx} {d : Nat} {Q : Option Value → Hp → Prop} {sh : Sh} {fR : FRt} {B : Nat} {f : FI} {g : FL}  (hs : StM sh fR B)
    (H : Cl l G (d + 2) 0 0 mX12_isCounted [.ref B, .int (nI 0)] (sh, f, g, fR) (qi sh fR fun x3 f1 g2 => ((¬ x3 = 0 → Cl l G (d + 2) 0 0 mX12_lex [.ref B] (sh, f1, g2, fR) (qv sh fR fun f5 g6 => (((f5 B 8) ≤ 0 → ((¬ (f5 B 3) = (nI 1) → LpX12_joinIs_40 l G d Q sh fR B f5 g6) ∧ ((f5 B 3) = (nI 1) → Cl l G (d + 2) 0 0 mX12_isOwn [.ref B, .long (g6 B 7)] (sh, f5, g6, fR) (qi sh fR fun x11 f9 g10 => ((x11 = 0 → LpX12_joinIs_49 l G d Q sh fR B f9 g10) ∧ (¬ x11 = 0 → LpX12_joinIs_40 l G d Q sh fR B f9 g10)))))) ∧ (¬ (f5 B 8) ≤ 0 → Q none (sh, f5, g6, fR))))) ∧ (x3 = 0 → Q none (sh, f1, g2, fR))))) :
    Cl l G (d + 3) 0 0 mX12_joinIs [.ref B] (sh, f, g, fR) Q := by
  refine Cl.of (L0 := [some (.ref B), none, none, none]) miX12_joinIs rfl rfl ?_
  refine S_aload_n (pc := 0) dX12_joinIs_0 rfl rfl ?_
  refine S_iconst (pc := 1) dX12_joinIs_1 ic0 ?_
  refine S_callV (As := [.int (nI 0)]) (mc := 0) (ms := 0) (pc := 2) dX12_joinIs_2 miX12_isCounted mvX12_isCounted mlX12_360 rfl (sM_0 hs) rfl rfl rfl (RmOK.of rfl) H ?_
  rintro _ _ ⟨x3, f1, g2, rfl, rfl, H⟩
  show WP _ _ _ _ _ _ _ 5 [some (.ref B), none, none, none] [.int x3] (sh, f1, g2, fR)
  refine S_if_ne (pc := 5) (tgt := 9) dX12_joinIs_5 rfl (fun hc4 => ?_) (fun hc4 => ?_)
  · replace H := H.1 hc4
    refine S_aload_n (pc := 9) dX12_joinIs_9 rfl rfl ?_
    refine S_callV (As := []) (mc := 0) (ms := 0) (pc := 10) dX12_joinIs_10 miX12_lex mvX12_lex mlX12_243 rfl (sM_0 hs) rfl rfl rfl (RmOK.of rfl) H ?_
    rintro _ _ ⟨f5, g6, rfl, rfl, H⟩
    show WP _ _ _ _ _ _ _ 13 [some (.ref B), none, none, none] [] (sh, f5, g6, fR)
    refine S_aload_n (pc := 13) dX12_joinIs_13 rfl rfl ?_
    refine S_get (pc := 14) (v := .int (f5 B 8)) dX12_joinIs_14 flX12_36 (sM_0 hs) rfl ?_
    refine S_if_le (pc := 17) (tgt := 21) dX12_joinIs_17 rfl (fun hc7 => ?_) (fun hc7 => ?_)
    · replace H := H.1 hc7
      refine S_aload_n (pc := 21) dX12_joinIs_21 rfl rfl ?_
      refine S_get (pc := 22) (v := .int (f5 B 3)) dX12_joinIs_22 flX12_20 (sM_0 hs) rfl ?_
      refine S_iconst (pc := 25) dX12_joinIs_25 ic1 ?_
      refine S_icmp_ne (pc := 26) (tgt := 40) dX12_joinIs_26 rfl (fun hc8 => ?_) (fun hc8 => ?_)
      · replace H := H.1 hc8
        exact H
      · replace H := H.2 hc8
        refine S_aload_n (pc := 29) dX12_joinIs_29 rfl rfl ?_
        refine S_aload_n (pc := 30) dX12_joinIs_30 rfl rfl ?_
        refine S_get (pc := 31) (v := .long (g6 B 7)) dX12_joinIs_31 flX12_32 (sM_0 hs) rfl ?_
        refine S_callV (As := [.long (g6 B 7)]) (mc := 0) (ms := 0) (pc := 34) dX12_joinIs_34 miX12_isOwn mvX12_isOwn mlX12_364 rfl (sM_0 hs) rfl rfl rfl (RmOK.of rfl) H ?_
        rintro _ _ ⟨x11, f9, g10, rfl, rfl, H⟩
        show WP _ _ _ _ _ _ _ 37 [some (.ref B), none, none, none] [.int x11] (sh, f9, g10, fR)
        refine S_if_eq (pc := 37) (tgt := 49) dX12_joinIs_37 rfl (fun hc12 => ?_) (fun hc12 => ?_)
        · replace H := H.1 hc12
          exact H
        · replace H := H.2 hc12
          exact H
    · replace H := H.2 hc7
      exact S_vreturn dX12_joinIs_20 rfl H
  · replace H := H.2 hc4
    exact S_vreturn dX12_joinIs_8 rfl H
set_option maxHeartbeats 2000000 in
set_option maxRecDepth 4000 in
theorem VX12_joinIs_40 {l : Launch} {G : Gx} {d : Nat} {Q : Option Value → Hp → Prop} {sh : Sh} {fR : FRt} {B : Nat} {f : FI} {g : FL}  (hs : StM sh fR B)
    (H : Cl l G (d + 2) 0 0 mX12_blame [.ref B, .int (nI 1), .int (f B 4)] (sh, f, g, fR) (qv sh fR fun f13 g14 => LpX12_joinIs_49 l G d Q sh fR B f13 g14)) :
    LpX12_joinIs_40 l G d Q sh fR B f g  := by
  refine S_aload_n (pc := 40) dX12_joinIs_40 rfl rfl ?_
  refine S_iconst (pc := 41) dX12_joinIs_41 ic1 ?_
  refine S_aload_n (pc := 42) dX12_joinIs_42 rfl rfl ?_
  refine S_get (pc := 43) (v := .int (f B 4)) dX12_joinIs_43 flX12_23 (sM_0 hs) rfl ?_
  refine S_callV (As := [.int (nI 1), .int (f B 4)]) (mc := 0) (ms := 0) (pc := 46) dX12_joinIs_46 miX12_blame mvX12_blame mlX12_232 rfl (sM_0 hs) rfl rfl rfl (RmOK.of rfl) H ?_
  rintro _ _ ⟨f13, g14, rfl, rfl, H⟩
  show WP _ _ _ _ _ _ _ 49 [some (.ref B), none, none, none] [] (sh, f13, g14, fR)
  exact H
set_option maxHeartbeats 2000000 in
set_option maxRecDepth 4000 in
theorem VX12_joinIs_49 {l : Launch} {G : Gx} {d : Nat} {Q : Option Value → Hp → Prop} {sh : Sh} {fR : FRt} {B : Nat} {f : FI} {g : FL}  (hs : StM sh fR B)
    (H : (((f B 8) ≤ 0 → Cl l G (d + 2) 0 0 mX12_pathNamed [.ref B, .long (g B 7)] (sh, f, g, fR) (qi sh fR fun x18 f16 g17 => ((¬ (f16 B 8) = 0 → LpX12_joinIs_107 l G d Q sh fR B f16 g17 x18) ∧ ((f16 B 8) = 0 → ((x18 < (nI 1) → LpX12_joinIs_98 l G d Q sh fR B f16 g17 x18) ∧ (¬ x18 < (nI 1) → inb (((nI 4) * (f16 B 29)) + x18) 8 ∧ (((f16 (B + 8) (((nI 4) * (f16 B 29)) + x18).toNatClampNeg) = (-1) → LpX12_joinIs_107 l G d Q sh fR B f16 g17 x18) ∧ (¬ (f16 (B + 8) (((nI 4) * (f16 B 29)) + x18).toNatClampNeg) = (-1) → LpX12_joinIs_98 l G d Q sh fR B f16 g17 x18)))))))) ∧ (¬ (f B 8) ≤ 0 → ((¬ (f B 8) = 0 → LpX12_joinIs_107 l G d Q sh fR B f g (nI 0)) ∧ ((f B 8) = 0 → LpX12_joinIs_98 l G d Q sh fR B f g (nI 0)))))) :
    LpX12_joinIs_49 l G d Q sh fR B f g  := by
  refine S_aload_n (pc := 49) dX12_joinIs_49 rfl rfl ?_
  refine S_get (pc := 50) (v := .int (f B 8)) dX12_joinIs_50 flX12_36 (sM_0 hs) rfl ?_
  refine S_if_le (pc := 53) (tgt := 60) dX12_joinIs_53 rfl (fun hc15 => ?_) (fun hc15 => ?_)
  · replace H := H.1 hc15
    refine S_aload_n (pc := 60) dX12_joinIs_60 rfl rfl ?_
    refine S_aload_n (pc := 61) dX12_joinIs_61 rfl rfl ?_
    refine S_get (pc := 62) (v := .long (g B 7)) dX12_joinIs_62 flX12_32 (sM_0 hs) rfl ?_
    refine S_callV (As := [.long (g B 7)]) (mc := 0) (ms := 0) (pc := 65) dX12_joinIs_65 miX12_pathNamed mvX12_pathNamed mlX12_367 rfl (sM_0 hs) rfl rfl rfl (RmOK.of rfl) H ?_
    rintro _ _ ⟨x18, f16, g17, rfl, rfl, H⟩
    show WP _ _ _ _ _ _ _ 68 [some (.ref B), none, none, none] [.int x18] (sh, f16, g17, fR)
    refine S_istore_n (pc := 68) (L' := [some (.ref B), some (.int x18), none, none]) dX12_joinIs_68 rfl (by decide) rfl ?_
    refine S_aload_n (pc := 69) dX12_joinIs_69 rfl rfl ?_
    refine S_get (pc := 70) (v := .int (f16 B 8)) dX12_joinIs_70 flX12_36 (sM_0 hs) rfl ?_
    refine S_if_ne (pc := 73) (tgt := 107) dX12_joinIs_73 rfl (fun hc19 => ?_) (fun hc19 => ?_)
    · replace H := H.1 hc19
      exact H
    · replace H := H.2 hc19
      refine S_iload_n (pc := 76) dX12_joinIs_76 rfl rfl ?_
      refine S_iconst (pc := 77) dX12_joinIs_77 ic1 ?_
      refine S_icmp_lt (pc := 78) (tgt := 98) dX12_joinIs_78 rfl (fun hc20 => ?_) (fun hc20 => ?_)
      · replace H := H.1 hc20
        exact H
      · replace H := H.2 hc20
        refine S_aload_n (pc := 81) dX12_joinIs_81 rfl rfl ?_
        refine S_getR (pc := 82) dX12_joinIs_82 flX12_72 (sM_0 hs) rfl (rM_20 hs) ?_
        refine S_iconst (pc := 85) dX12_joinIs_85 ic4 ?_
        refine S_aload_n (pc := 86) dX12_joinIs_86 rfl rfl ?_
        refine S_get (pc := 87) (v := .int (f16 B 29)) dX12_joinIs_87 flX12_100 (sM_0 hs) rfl ?_
        refine S_imul (pc := 90) dX12_joinIs_90 ?_
        refine S_iload_n (pc := 91) dX12_joinIs_91 rfl rfl ?_
        refine S_iadd (pc := 92) dX12_joinIs_92 ?_
        obtain ⟨hb21, H⟩ := H
        refine S_iald (pc := 93) dX12_joinIs_93 (sM_8 hs) hb21 ?_
        refine S_iconst (pc := 94) dX12_joinIs_94 icm1 ?_
        refine S_icmp_eq (pc := 95) (tgt := 107) dX12_joinIs_95 rfl (fun hc22 => ?_) (fun hc22 => ?_)
        · replace H := H.1 hc22
          exact H
        · replace H := H.2 hc22
          exact H
  · replace H := H.2 hc15
    refine S_iconst (pc := 56) dX12_joinIs_56 ic0 ?_
    refine S_goto (pc := 57) (tgt := 68) dX12_joinIs_57 rfl ?_
    refine S_istore_n (pc := 68) (L' := [some (.ref B), some (.int (nI 0)), none, none]) dX12_joinIs_68 rfl (by decide) rfl ?_
    refine S_aload_n (pc := 69) dX12_joinIs_69 rfl rfl ?_
    refine S_get (pc := 70) (v := .int (f B 8)) dX12_joinIs_70 flX12_36 (sM_0 hs) rfl ?_
    refine S_if_ne (pc := 73) (tgt := 107) dX12_joinIs_73 rfl (fun hc23 => ?_) (fun hc23 => ?_)
    · replace H := H.1 hc23
      exact H
    · replace H := H.2 hc23
      refine S_iload_n (pc := 76) dX12_joinIs_76 rfl rfl ?_
      refine S_iconst (pc := 77) dX12_joinIs_77 ic1 ?_
      refine S_icmp_lt (pc := 78) (tgt := 98) dX12_joinIs_78 rfl (fun _ => ?_) (fun hc24 => by first | exact absurd (by decide) hc24 | exact absurd hc24 (by decide))
      exact H
set_option maxHeartbeats 2000000 in
set_option maxRecDepth 4000 in
theorem VX12_joinIs_107 {l : Launch} {G : Gx} {d : Nat} {Q : Option Value → Hp → Prop} {sh : Sh} {fR : FRt} {B : Nat} {f : FI} {g : FL} {a1 : Int32} (hs : StM sh fR B)
    (H : (((f B 8) ≤ 0 → Cl l G (d + 2) 0 0 mX12_ahead [.ref B] (sh, f, g, fR) (qv sh fR fun f26 g27 => Cl l G (d + 2) 0 0 mX12_mustWord [.ref B, .long (lN 24948)] (sh, f26, g27, fR) (qv sh fR fun f28 g29 => Cl l G (d + 2) 0 0 mX12_number [.ref B, .int (nI 0), .int (nI 99)] (sh, f28, g29, fR) (qi sh fR fun x32 f30 g31 => Cl l G (d + 2) 0 0 mX12_mustWord [.ref B, .long (lN 500085515630)] (sh, f30, g31, fR) (qv sh fR fun f33 g34 => Cl l G (d + 2) 0 0 mX12_number [.ref B, .int (nI 0), .int (nI 999)] (sh, f33, g34, fR) (qi sh fR fun x37 f35 g36 => (((f35 B 8) ≤ 0 → inb (((nI 4) * (f35 B 29)) + a1) 8 ∧ inb (((nI 4) * (f35 B 29)) + a1) 8 ∧ Q none (sh, (up2 (up2 f35 (B + 8) (((nI 4) * (f35 B 29)) + a1).toNatClampNeg x32) (B + 9) (((nI 4) * (f35 B 29)) + a1).toNatClampNeg x37), g36, fR)) ∧ (¬ (f35 B 8) ≤ 0 → Q none (sh, f35, g36, fR))))))))) ∧ (¬ (f B 8) ≤ 0 → Q none (sh, f, g, fR)))) :
    LpX12_joinIs_107 l G d Q sh fR B f g a1 := by
  refine S_aload_n (pc := 107) dX12_joinIs_107 rfl rfl ?_
  refine S_get (pc := 108) (v := .int (f B 8)) dX12_joinIs_108 flX12_36 (sM_0 hs) rfl ?_
  refine S_if_le (pc := 111) (tgt := 115) dX12_joinIs_111 rfl (fun hc25 => ?_) (fun hc25 => ?_)
  · replace H := H.1 hc25
    refine S_aload_n (pc := 115) dX12_joinIs_115 rfl rfl ?_
    refine S_callV (As := []) (mc := 0) (ms := 0) (pc := 116) dX12_joinIs_116 miX12_ahead mvX12_ahead mlX12_249 rfl (sM_0 hs) rfl rfl rfl (RmOK.of rfl) H ?_
    rintro _ _ ⟨f26, g27, rfl, rfl, H⟩
    show WP _ _ _ _ _ _ _ 119 [some (.ref B), some (.int a1), none, none] [] (sh, f26, g27, fR)
    refine S_aload_n (pc := 119) dX12_joinIs_119 rfl rfl ?_
    refine S_ldc2 (pc := 120) (v := lN 24948) dX12_joinIs_120 (gw 1478 rfl rfl) ?_
    refine S_callV (As := [.long (lN 24948)]) (mc := 0) (ms := 0) (pc := 123) dX12_joinIs_123 miX12_mustWord mvX12_mustWord mlX12_352 rfl (sM_0 hs) rfl rfl rfl (RmOK.of rfl) H ?_
    rintro _ _ ⟨f28, g29, rfl, rfl, H⟩
    show WP _ _ _ _ _ _ _ 126 [some (.ref B), some (.int a1), none, none] [] (sh, f28, g29, fR)
    refine S_aload_n (pc := 126) dX12_joinIs_126 rfl rfl ?_
    refine S_iconst (pc := 127) dX12_joinIs_127 ic0 ?_
    refine S_bipush (pc := 128) dX12_joinIs_128 bp99 ?_
    refine S_callV (As := [.int (nI 0), .int (nI 99)]) (mc := 0) (ms := 0) (pc := 130) dX12_joinIs_130 miX12_number mvX12_number mlX12_356 rfl (sM_0 hs) rfl rfl rfl (RmOK.of rfl) H ?_
    rintro _ _ ⟨x32, f30, g31, rfl, rfl, H⟩
    show WP _ _ _ _ _ _ _ 133 [some (.ref B), some (.int a1), none, none] [.int x32] (sh, f30, g31, fR)
    refine S_istore_n (pc := 133) (L' := [some (.ref B), some (.int a1), some (.int x32), none]) dX12_joinIs_133 rfl (by decide) rfl ?_
    refine S_aload_n (pc := 134) dX12_joinIs_134 rfl rfl ?_
    refine S_ldc2 (pc := 135) (v := lN 500085515630) dX12_joinIs_135 (gw 1479 rfl rfl) ?_
    refine S_callV (As := [.long (lN 500085515630)]) (mc := 0) (ms := 0) (pc := 138) dX12_joinIs_138 miX12_mustWord mvX12_mustWord mlX12_352 rfl (sM_0 hs) rfl rfl rfl (RmOK.of rfl) H ?_
    rintro _ _ ⟨f33, g34, rfl, rfl, H⟩
    show WP _ _ _ _ _ _ _ 141 [some (.ref B), some (.int a1), some (.int x32), none] [] (sh, f33, g34, fR)
    refine S_aload_n (pc := 141) dX12_joinIs_141 rfl rfl ?_
    refine S_iconst (pc := 142) dX12_joinIs_142 ic0 ?_
    refine S_sipush (pc := 143) dX12_joinIs_143 sp999 ?_
    refine S_callV (As := [.int (nI 0), .int (nI 999)]) (mc := 0) (ms := 0) (pc := 146) dX12_joinIs_146 miX12_number mvX12_number mlX12_356 rfl (sM_0 hs) rfl rfl rfl (RmOK.of rfl) H ?_
    rintro _ _ ⟨x37, f35, g36, rfl, rfl, H⟩
    show WP _ _ _ _ _ _ _ 149 [some (.ref B), some (.int a1), some (.int x32), none] [.int x37] (sh, f35, g36, fR)
    refine S_istore_n (pc := 149) (L' := [some (.ref B), some (.int a1), some (.int x32), some (.int x37)]) dX12_joinIs_149 rfl (by decide) rfl ?_
    refine S_aload_n (pc := 150) dX12_joinIs_150 rfl rfl ?_
    refine S_get (pc := 151) (v := .int (f35 B 8)) dX12_joinIs_151 flX12_36 (sM_0 hs) rfl ?_
    refine S_if_le (pc := 154) (tgt := 158) dX12_joinIs_154 rfl (fun hc38 => ?_) (fun hc38 => ?_)
    · replace H := H.1 hc38
      refine S_aload_n (pc := 158) dX12_joinIs_158 rfl rfl ?_
      refine S_getR (pc := 159) dX12_joinIs_159 flX12_72 (sM_0 hs) rfl (rM_20 hs) ?_
      refine S_iconst (pc := 162) dX12_joinIs_162 ic4 ?_
      refine S_aload_n (pc := 163) dX12_joinIs_163 rfl rfl ?_
      refine S_get (pc := 164) (v := .int (f35 B 29)) dX12_joinIs_164 flX12_100 (sM_0 hs) rfl ?_
      refine S_imul (pc := 167) dX12_joinIs_167 ?_
      refine S_iload_n (pc := 168) dX12_joinIs_168 rfl rfl ?_
      refine S_iadd (pc := 169) dX12_joinIs_169 ?_
      refine S_iload_n (pc := 170) dX12_joinIs_170 rfl rfl ?_
      obtain ⟨hb39, H⟩ := H
      refine S_iast (pc := 171) dX12_joinIs_171 (sM_8 hs) (Nat.succ_pos _) hb39 ?_
      refine S_aload_n (pc := 172) dX12_joinIs_172 rfl rfl ?_
      refine S_getR (pc := 173) dX12_joinIs_173 flX12_75 (sM_0 hs) rfl (rM_21 hs) ?_
      refine S_iconst (pc := 176) dX12_joinIs_176 ic4 ?_
      refine S_aload_n (pc := 177) dX12_joinIs_177 rfl rfl ?_
      refine S_get (pc := 178) (v := .int ((up2 f35 (B + 8) (((nI 4) * (f35 B 29)) + a1).toNatClampNeg x32) B 29)) dX12_joinIs_178 flX12_100 (sM_0 hs) rfl ?_
      refine S_eqi (x := f35 B 29) ((up2_r (by omega)).trans rfl) ?_
      refine S_imul (pc := 181) dX12_joinIs_181 ?_
      refine S_iload_n (pc := 182) dX12_joinIs_182 rfl rfl ?_
      refine S_iadd (pc := 183) dX12_joinIs_183 ?_
      refine S_iload_n (pc := 184) dX12_joinIs_184 rfl rfl ?_
      obtain ⟨hb40, H⟩ := H
      refine S_iast (pc := 185) dX12_joinIs_185 (sM_9 hs) (Nat.succ_pos _) hb40 ?_
      exact S_vreturn dX12_joinIs_186 rfl H
    · replace H := H.2 hc38
      exact S_vreturn dX12_joinIs_157 rfl H
  · replace H := H.2 hc25
    exact S_vreturn dX12_joinIs_114 rfl H
set_option maxHeartbeats 2000000 in
set_option maxRecDepth 4000 in
theorem VX12_joinIs_98 {l : Launch} {G : Gx} {d : Nat} {Q : Option Value → Hp → Prop} {sh : Sh} {fR : FRt} {B : Nat} {f : FI} {g : FL} {a1 : Int32} (hs : StM sh fR B)
    (H : Cl l G (d + 2) 0 0 mX12_blame [.ref B, .int (nI 3), .int (f B 4)] (sh, f, g, fR) (qv sh fR fun f41 g42 => LpX12_joinIs_107 l G d Q sh fR B f41 g42 a1)) :
    LpX12_joinIs_98 l G d Q sh fR B f g a1 := by
  refine S_aload_n (pc := 98) dX12_joinIs_98 rfl rfl ?_
  refine S_iconst (pc := 99) dX12_joinIs_99 ic3 ?_
  refine S_aload_n (pc := 100) dX12_joinIs_100 rfl rfl ?_
  refine S_get (pc := 101) (v := .int (f B 4)) dX12_joinIs_101 flX12_23 (sM_0 hs) rfl ?_
  refine S_callV (As := [.int (nI 3), .int (f B 4)]) (mc := 0) (ms := 0) (pc := 104) dX12_joinIs_104 miX12_blame mvX12_blame mlX12_232 rfl (sM_0 hs) rfl rfl rfl (RmOK.of rfl) H ?_
  rintro _ _ ⟨f41, g42, rfl, rfl, H⟩
  show WP _ _ _ _ _ _ _ 107 [some (.ref B), some (.int a1), none, none] [] (sh, f41, g42, fR)
  exact H
set_option maxHeartbeats 2000000 in
set_option maxRecDepth 4000 in
theorem VX12_lossIs {l : Launch} {G : Gx} {d : Nat} {Q : Option Value → Hp → Prop} {sh : Sh} {fR : FRt} {B : Nat} {f : FI} {g : FL}  (hs : StM sh fR B)
    (H : Cl l G (d + 2) 0 0 mX12_isCounted [.ref B, .int (nI 0)] (sh, f, g, fR) (qi sh fR fun x3 f1 g2 => ((¬ x3 = 0 → Cl l G (d + 2) 0 0 mX12_number [.ref B, .int (nI 0), .int (nI 100)] (sh, f1, g2, fR) (qi sh fR fun x7 f5 g6 => inb (f1 B 29) 2 ∧ Q none (sh, (up2 f5 (B + 10) (f1 B 29).toNatClampNeg x7), g6, fR))) ∧ (x3 = 0 → Q none (sh, f1, g2, fR))))) :
    Cl l G (d + 3) 0 0 mX12_lossIs [.ref B] (sh, f, g, fR) Q := by
  refine Cl.of (L0 := [some (.ref B)]) miX12_lossIs rfl rfl ?_
  refine S_aload_n (pc := 0) dX12_lossIs_0 rfl rfl ?_
  refine S_iconst (pc := 1) dX12_lossIs_1 ic0 ?_
  refine S_callV (As := [.int (nI 0)]) (mc := 0) (ms := 0) (pc := 2) dX12_lossIs_2 miX12_isCounted mvX12_isCounted mlX12_360 rfl (sM_0 hs) rfl rfl rfl (RmOK.of rfl) H ?_
  rintro _ _ ⟨x3, f1, g2, rfl, rfl, H⟩
  show WP _ _ _ _ _ _ _ 5 [some (.ref B)] [.int x3] (sh, f1, g2, fR)
  refine S_if_ne (pc := 5) (tgt := 9) dX12_lossIs_5 rfl (fun hc4 => ?_) (fun hc4 => ?_)
  · replace H := H.1 hc4
    refine S_aload_n (pc := 9) dX12_lossIs_9 rfl rfl ?_
    refine S_getR (pc := 10) dX12_lossIs_10 flX12_78 (sM_0 hs) rfl (rM_22 hs) ?_
    refine S_aload_n (pc := 13) dX12_lossIs_13 rfl rfl ?_
    refine S_get (pc := 14) (v := .int (f1 B 29)) dX12_lossIs_14 flX12_100 (sM_0 hs) rfl ?_
    refine S_aload_n (pc := 17) dX12_lossIs_17 rfl rfl ?_
    refine S_iconst (pc := 18) dX12_lossIs_18 ic0 ?_
    refine S_bipush (pc := 19) dX12_lossIs_19 bp100 ?_
    refine S_callV (As := [.int (nI 0), .int (nI 100)]) (mc := 0) (ms := 0) (pc := 21) dX12_lossIs_21 miX12_number mvX12_number mlX12_356 rfl (sM_0 hs) rfl rfl rfl (RmOK.of rfl) H ?_
    rintro _ _ ⟨x7, f5, g6, rfl, rfl, H⟩
    show WP _ _ _ _ _ _ _ 24 [some (.ref B)] [.int x7, .int (f1 B 29), .ref (B + 10)] (sh, f5, g6, fR)
    obtain ⟨hb8, H⟩ := H
    refine S_iast (pc := 24) dX12_lossIs_24 (sM_10 hs) (Nat.succ_pos _) hb8 ?_
    exact S_vreturn dX12_lossIs_25 rfl H
  · replace H := H.2 hc4
    exact S_vreturn dX12_lossIs_8 rfl H
set_option maxHeartbeats 2000000 in
set_option maxRecDepth 4000 in
theorem VX12_reading {l : Launch} {G : Gx} {d : Nat} {Q : Option Value → Hp → Prop} {sh : Sh} {fR : FRt} {B : Nat} {f : FI} {g : FL} {a1 : Int32} (hs : StM sh fR B)
    (H : (∀ w1 : Int32, w1 = ((nI 4) * (f B 29)) + a1 → inb w1 8 ∧ (((f (B + 11) w1.toNatClampNeg) = (-1) → Cl l G (d + 4) 0 0 mX12_isCounted [.ref B, .int (nI 0)] (sh, f, g, fR) (qi sh fR fun x7 f5 g6 => ((¬ x7 = 0 → inb w1 8 ∧ ((¬ a1 = 0 → Cl l G (d + 4) 0 0 mX12_reads [.ref B, .int (nI 0)] (sh, (up2 (up2 f5 B 30 a1) (B + 11) w1.toNatClampNeg (f5 B 28)), g6, fR) (qv sh fR fun f11 g12 => inb w1 8 ∧ Q none (sh, (up2 f11 (B + 12) w1.toNatClampNeg (f11 B 28)), g12, fR))) ∧ (a1 = 0 → Cl l G (d + 4) 0 0 mX12_reads [.ref B, .int (nI 1)] (sh, (up2 (up2 f5 B 30 a1) (B + 11) w1.toNatClampNeg (f5 B 28)), g6, fR) (qv sh fR fun f14 g15 => inb w1 8 ∧ Q none (sh, (up2 f14 (B + 12) w1.toNatClampNeg (f14 B 28)), g15, fR))))) ∧ (x7 = 0 → Q none (sh, f5, g6, fR))))) ∧ (¬ (f (B + 11) w1.toNatClampNeg) = (-1) → Cl l G (d + 4) 0 0 mX12_isCounted [.ref B, .int (nI 1)] (sh, f, g, fR) (qi sh fR fun x19 f17 g18 => ((¬ x19 = 0 → inb w1 8 ∧ ((¬ a1 = 0 → Cl l G (d + 4) 0 0 mX12_reads [.ref B, .int (nI 0)] (sh, (up2 (up2 f17 B 30 a1) (B + 11) w1.toNatClampNeg (f17 B 28)), g18, fR) (qv sh fR fun f23 g24 => inb w1 8 ∧ Q none (sh, (up2 f23 (B + 12) w1.toNatClampNeg (f23 B 28)), g24, fR))) ∧ (a1 = 0 → Cl l G (d + 4) 0 0 mX12_reads [.ref B, .int (nI 1)] (sh, (up2 (up2 f17 B 30 a1) (B + 11) w1.toNatClampNeg (f17 B 28)), g18, fR) (qv sh fR fun f26 g27 => inb w1 8 ∧ Q none (sh, (up2 f26 (B + 12) w1.toNatClampNeg (f26 B 28)), g27, fR))))) ∧ (x19 = 0 → Q none (sh, f17, g18, fR)))))))) :
    Cl l G (d + 5) 0 0 mX12_reading [.ref B, .int a1] (sh, f, g, fR) Q := by
  refine Cl.of (L0 := [some (.ref B), some (.int a1), none]) miX12_reading rfl rfl ?_
  refine S_iconst (pc := 0) dX12_reading_0 ic4 ?_
  refine S_aload_n (pc := 1) dX12_reading_1 rfl rfl ?_
  refine S_get (pc := 2) (v := .int (f B 29)) dX12_reading_2 flX12_100 (sM_0 hs) rfl ?_
  refine S_imul (pc := 5) dX12_reading_5 ?_
  refine S_iload_n (pc := 6) dX12_reading_6 rfl rfl ?_
  refine S_iadd (pc := 7) dX12_reading_7 ?_
  refine S_namei (fun w1 e2 => ?_)
  replace H := H w1 e2
  refine S_istore_n (pc := 8) (L' := [some (.ref B), some (.int a1), some (.int w1)]) dX12_reading_8 rfl (by decide) rfl ?_
  refine S_aload_n (pc := 9) dX12_reading_9 rfl rfl ?_
  refine S_aload_n (pc := 10) dX12_reading_10 rfl rfl ?_
  refine S_getR (pc := 11) dX12_reading_11 flX12_81 (sM_0 hs) rfl (rM_23 hs) ?_
  refine S_iload_n (pc := 14) dX12_reading_14 rfl rfl ?_
  obtain ⟨hb3, H⟩ := H
  refine S_iald (pc := 15) dX12_reading_15 (sM_11 hs) hb3 ?_
  refine S_iconst (pc := 16) dX12_reading_16 icm1 ?_
  refine S_icmp_eq (pc := 17) (tgt := 24) dX12_reading_17 rfl (fun hc4 => ?_) (fun hc4 => ?_)
  · replace H := H.1 hc4
    refine S_iconst (pc := 24) dX12_reading_24 ic0 ?_
    refine S_callV (As := [.int (nI 0)]) (mc := 0) (ms := 0) (pc := 25) dX12_reading_25 miX12_isCounted mvX12_isCounted mlX12_360 rfl (sM_0 hs) rfl rfl rfl (RmOK.of rfl) H ?_
    rintro _ _ ⟨x7, f5, g6, rfl, rfl, H⟩
    show WP _ _ _ _ _ _ _ 28 [some (.ref B), some (.int a1), some (.int w1)] [.int x7] (sh, f5, g6, fR)
    refine S_if_ne (pc := 28) (tgt := 32) dX12_reading_28 rfl (fun hc8 => ?_) (fun hc8 => ?_)
    · replace H := H.1 hc8
      refine S_aload_n (pc := 32) dX12_reading_32 rfl rfl ?_
      refine S_iload_n (pc := 33) dX12_reading_33 rfl rfl ?_
      refine S_putI (pc := 34) dX12_reading_34 flX12_103 (sM_0 hs) hs.2.2 (nf_12_30) rfl rfl (fun _ => rfl) ?_
      refine S_aload_n (pc := 37) dX12_reading_37 rfl rfl ?_
      refine S_getR (pc := 38) dX12_reading_38 flX12_81 (sM_0 hs) rfl (rM_23 hs) ?_
      refine S_iload_n (pc := 41) dX12_reading_41 rfl rfl ?_
      refine S_aload_n (pc := 42) dX12_reading_42 rfl rfl ?_
      refine S_get (pc := 43) (v := .int ((up2 f5 B 30 a1) B 28)) dX12_reading_43 flX12_97 (sM_0 hs) rfl ?_
      refine S_eqi (x := f5 B 28) ((up2_k (by decide)).trans rfl) ?_
      obtain ⟨hb9, H⟩ := H
      refine S_iast (pc := 46) dX12_reading_46 (sM_11 hs) (Nat.succ_pos _) hb9 ?_
      refine S_aload_n (pc := 47) dX12_reading_47 rfl rfl ?_
      refine S_iload_n (pc := 48) dX12_reading_48 rfl rfl ?_
      refine S_if_ne (pc := 49) (tgt := 56) dX12_reading_49 rfl (fun hc10 => ?_) (fun hc10 => ?_)
      · replace H := H.1 hc10
        refine S_iconst (pc := 56) dX12_reading_56 ic0 ?_
        refine S_callV (As := [.int (nI 0)]) (mc := 0) (ms := 0) (pc := 57) dX12_reading_57 miX12_reads mvX12_reads mlX12_371 rfl (sM_0 hs) rfl rfl rfl (RmOK.of rfl) H ?_
        rintro _ _ ⟨f11, g12, rfl, rfl, H⟩
        show WP _ _ _ _ _ _ _ 60 [some (.ref B), some (.int a1), some (.int w1)] [] (sh, f11, g12, fR)
        refine S_aload_n (pc := 60) dX12_reading_60 rfl rfl ?_
        refine S_getR (pc := 61) dX12_reading_61 flX12_84 (sM_0 hs) rfl (rM_24 hs) ?_
        refine S_iload_n (pc := 64) dX12_reading_64 rfl rfl ?_
        refine S_aload_n (pc := 65) dX12_reading_65 rfl rfl ?_
        refine S_get (pc := 66) (v := .int (f11 B 28)) dX12_reading_66 flX12_97 (sM_0 hs) rfl ?_
        obtain ⟨hb13, H⟩ := H
        refine S_iast (pc := 69) dX12_reading_69 (sM_12 hs) (Nat.succ_pos _) hb13 ?_
        exact S_vreturn dX12_reading_70 rfl H
      · replace H := H.2 hc10
        refine S_iconst (pc := 52) dX12_reading_52 ic1 ?_
        refine S_goto (pc := 53) (tgt := 57) dX12_reading_53 rfl ?_
        refine S_callV (As := [.int (nI 1)]) (mc := 0) (ms := 0) (pc := 57) dX12_reading_57 miX12_reads mvX12_reads mlX12_371 rfl (sM_0 hs) rfl rfl rfl (RmOK.of rfl) H ?_
        rintro _ _ ⟨f14, g15, rfl, rfl, H⟩
        show WP _ _ _ _ _ _ _ 60 [some (.ref B), some (.int a1), some (.int w1)] [] (sh, f14, g15, fR)
        refine S_aload_n (pc := 60) dX12_reading_60 rfl rfl ?_
        refine S_getR (pc := 61) dX12_reading_61 flX12_84 (sM_0 hs) rfl (rM_24 hs) ?_
        refine S_iload_n (pc := 64) dX12_reading_64 rfl rfl ?_
        refine S_aload_n (pc := 65) dX12_reading_65 rfl rfl ?_
        refine S_get (pc := 66) (v := .int (f14 B 28)) dX12_reading_66 flX12_97 (sM_0 hs) rfl ?_
        obtain ⟨hb16, H⟩ := H
        refine S_iast (pc := 69) dX12_reading_69 (sM_12 hs) (Nat.succ_pos _) hb16 ?_
        exact S_vreturn dX12_reading_70 rfl H
    · replace H := H.2 hc8
      exact S_vreturn dX12_reading_31 rfl H
  · replace H := H.2 hc4
    refine S_iconst (pc := 20) dX12_reading_20 ic1 ?_
    refine S_goto (pc := 21) (tgt := 25) dX12_reading_21 rfl ?_
    refine S_callV (As := [.int (nI 1)]) (mc := 0) (ms := 0) (pc := 25) dX12_reading_25 miX12_isCounted mvX12_isCounted mlX12_360 rfl (sM_0 hs) rfl rfl rfl (RmOK.of rfl) H ?_
    rintro _ _ ⟨x19, f17, g18, rfl, rfl, H⟩
    show WP _ _ _ _ _ _ _ 28 [some (.ref B), some (.int a1), some (.int w1)] [.int x19] (sh, f17, g18, fR)
    refine S_if_ne (pc := 28) (tgt := 32) dX12_reading_28 rfl (fun hc20 => ?_) (fun hc20 => ?_)
    · replace H := H.1 hc20
      refine S_aload_n (pc := 32) dX12_reading_32 rfl rfl ?_
      refine S_iload_n (pc := 33) dX12_reading_33 rfl rfl ?_
      refine S_putI (pc := 34) dX12_reading_34 flX12_103 (sM_0 hs) hs.2.2 (nf_12_30) rfl rfl (fun _ => rfl) ?_
      refine S_aload_n (pc := 37) dX12_reading_37 rfl rfl ?_
      refine S_getR (pc := 38) dX12_reading_38 flX12_81 (sM_0 hs) rfl (rM_23 hs) ?_
      refine S_iload_n (pc := 41) dX12_reading_41 rfl rfl ?_
      refine S_aload_n (pc := 42) dX12_reading_42 rfl rfl ?_
      refine S_get (pc := 43) (v := .int ((up2 f17 B 30 a1) B 28)) dX12_reading_43 flX12_97 (sM_0 hs) rfl ?_
      refine S_eqi (x := f17 B 28) ((up2_k (by decide)).trans rfl) ?_
      obtain ⟨hb21, H⟩ := H
      refine S_iast (pc := 46) dX12_reading_46 (sM_11 hs) (Nat.succ_pos _) hb21 ?_
      refine S_aload_n (pc := 47) dX12_reading_47 rfl rfl ?_
      refine S_iload_n (pc := 48) dX12_reading_48 rfl rfl ?_
      refine S_if_ne (pc := 49) (tgt := 56) dX12_reading_49 rfl (fun hc22 => ?_) (fun hc22 => ?_)
      · replace H := H.1 hc22
        refine S_iconst (pc := 56) dX12_reading_56 ic0 ?_
        refine S_callV (As := [.int (nI 0)]) (mc := 0) (ms := 0) (pc := 57) dX12_reading_57 miX12_reads mvX12_reads mlX12_371 rfl (sM_0 hs) rfl rfl rfl (RmOK.of rfl) H ?_
        rintro _ _ ⟨f23, g24, rfl, rfl, H⟩
        show WP _ _ _ _ _ _ _ 60 [some (.ref B), some (.int a1), some (.int w1)] [] (sh, f23, g24, fR)
        refine S_aload_n (pc := 60) dX12_reading_60 rfl rfl ?_
        refine S_getR (pc := 61) dX12_reading_61 flX12_84 (sM_0 hs) rfl (rM_24 hs) ?_
        refine S_iload_n (pc := 64) dX12_reading_64 rfl rfl ?_
        refine S_aload_n (pc := 65) dX12_reading_65 rfl rfl ?_
        refine S_get (pc := 66) (v := .int (f23 B 28)) dX12_reading_66 flX12_97 (sM_0 hs) rfl ?_
        obtain ⟨hb25, H⟩ := H
        refine S_iast (pc := 69) dX12_reading_69 (sM_12 hs) (Nat.succ_pos _) hb25 ?_
        exact S_vreturn dX12_reading_70 rfl H
      · replace H := H.2 hc22
        refine S_iconst (pc := 52) dX12_reading_52 ic1 ?_
        refine S_goto (pc := 53) (tgt := 57) dX12_reading_53 rfl ?_
        refine S_callV (As := [.int (nI 1)]) (mc := 0) (ms := 0) (pc := 57) dX12_reading_57 miX12_reads mvX12_reads mlX12_371 rfl (sM_0 hs) rfl rfl rfl (RmOK.of rfl) H ?_
        rintro _ _ ⟨f26, g27, rfl, rfl, H⟩
        show WP _ _ _ _ _ _ _ 60 [some (.ref B), some (.int a1), some (.int w1)] [] (sh, f26, g27, fR)
        refine S_aload_n (pc := 60) dX12_reading_60 rfl rfl ?_
        refine S_getR (pc := 61) dX12_reading_61 flX12_84 (sM_0 hs) rfl (rM_24 hs) ?_
        refine S_iload_n (pc := 64) dX12_reading_64 rfl rfl ?_
        refine S_aload_n (pc := 65) dX12_reading_65 rfl rfl ?_
        refine S_get (pc := 66) (v := .int (f26 B 28)) dX12_reading_66 flX12_97 (sM_0 hs) rfl ?_
        obtain ⟨hb28, H⟩ := H
        refine S_iast (pc := 69) dX12_reading_69 (sM_12 hs) (Nat.succ_pos _) hb28 ?_
        exact S_vreturn dX12_reading_70 rfl H
    · replace H := H.2 hc20
      exact S_vreturn dX12_reading_31 rfl H
set_option maxHeartbeats 2000000 in
set_option maxRecDepth 4000 in
theorem VX12_statement {l : Launch} {G : Gx} {d : Nat} {Q : Option Value → Hp → Prop} {sh : Sh} {fR : FRt} {B : Nat} {f : FI} {g : FL}  (hs : StM sh fR B)
    (H : Cl l G (d + 5) 0 0 mX12_lex [.ref B] (sh, f, g, fR) (qv sh fR fun f1 g2 => (((f1 B 8) ≤ 0 → Cl l G (d + 5) 0 0 mX12_isWord [.ref B, .long (lN 1885434984)] (sh, f1, g2, fR) (qi sh fR fun x6 f4 g5 => ((x6 = 0 → Cl l G (d + 5) 0 0 mX12_isWord [.ref B, .long (lN 1785686382)] (sh, f4, g5, fR) (qi sh fR fun x10 f8 g9 => ((x10 = 0 → Cl l G (d + 5) 0 0 mX12_isWord [.ref B, .long (lN 1819243379)] (sh, f8, g9, fR) (qi sh fR fun x14 f12 g13 => ((x14 = 0 → Cl l G (d + 5) 0 0 mX12_isWord [.ref B, .long (lN 431416635507)] (sh, f12, g13, fR) (qi sh fR fun x18 f16 g17 => ((x18 = 0 → Cl l G (d + 5) 0 0 mX12_isWord [.ref B, .long (lN 482804460403)] (sh, f16, g17, fR) (qi sh fR fun x22 f20 g21 => ((x22 = 0 → Cl l G (d + 5) 0 0 mX12_isWord [.ref B, .long (lN 491327153267)] (sh, f20, g21, fR) (qi sh fR fun x26 f24 g25 => ((x26 = 0 → Cl l G (d + 5) 0 0 mX12_isWord [.ref B, .long (lN 512735409267)] (sh, f24, g25, fR) (qi sh fR fun x30 f28 g29 => ((x30 = 0 → Cl l G (d + 5) 0 0 mX12_blame [.ref B, .int (nI 1), .int (f28 B 4)] (sh, f28, g29, fR) (qv sh fR fun f32 g33 => Q none (sh, f32, g33, fR))) ∧ (¬ x30 = 0 → Cl l G (d + 5) 0 0 mX12_reading [.ref B, .int (nI 3)] (sh, f28, g29, fR) (qv sh fR fun f34 g35 => Q none (sh, f34, g35, fR)))))) ∧ (¬ x26 = 0 → Cl l G (d + 5) 0 0 mX12_reading [.ref B, .int (nI 2)] (sh, f24, g25, fR) (qv sh fR fun f36 g37 => Q none (sh, f36, g37, fR)))))) ∧ (¬ x22 = 0 → Cl l G (d + 5) 0 0 mX12_reading [.ref B, .int (nI 1)] (sh, f20, g21, fR) (qv sh fR fun f38 g39 => Q none (sh, f38, g39, fR)))))) ∧ (¬ x18 = 0 → Cl l G (d + 5) 0 0 mX12_reading [.ref B, .int (nI 0)] (sh, f16, g17, fR) (qv sh fR fun f40 g41 => Q none (sh, f40, g41, fR)))))) ∧ (¬ x14 = 0 → Cl l G (d + 5) 0 0 mX12_lossIs [.ref B] (sh, f12, g13, fR) (qv sh fR fun f42 g43 => Q none (sh, f42, g43, fR)))))) ∧ (¬ x10 = 0 → Cl l G (d + 5) 0 0 mX12_joinIs [.ref B] (sh, f8, g9, fR) (qv sh fR fun f44 g45 => Q none (sh, f44, g45, fR)))))) ∧ (¬ x6 = 0 → Cl l G (d + 5) 0 0 mX12_pathIs [.ref B] (sh, f4, g5, fR) (qv sh fR fun f46 g47 => Q none (sh, f46, g47, fR)))))) ∧ (¬ (f1 B 8) ≤ 0 → Q none (sh, f1, g2, fR))))) :
    Cl l G (d + 6) 0 0 mX12_statement [.ref B] (sh, f, g, fR) Q := by
  refine Cl.of (L0 := [some (.ref B)]) miX12_statement rfl rfl ?_
  refine S_aload_n (pc := 0) dX12_statement_0 rfl rfl ?_
  refine S_callV (As := []) (mc := 0) (ms := 0) (pc := 1) dX12_statement_1 miX12_lex mvX12_lex mlX12_243 rfl (sM_0 hs) rfl rfl rfl (RmOK.of rfl) H ?_
  rintro _ _ ⟨f1, g2, rfl, rfl, H⟩
  show WP _ _ _ _ _ _ _ 4 [some (.ref B)] [] (sh, f1, g2, fR)
  refine S_aload_n (pc := 4) dX12_statement_4 rfl rfl ?_
  refine S_get (pc := 5) (v := .int (f1 B 8)) dX12_statement_5 flX12_36 (sM_0 hs) rfl ?_
  refine S_if_le (pc := 8) (tgt := 12) dX12_statement_8 rfl (fun hc3 => ?_) (fun hc3 => ?_)
  · replace H := H.1 hc3
    refine S_aload_n (pc := 12) dX12_statement_12 rfl rfl ?_
    refine S_ldc2 (pc := 13) (v := lN 1885434984) dX12_statement_13 (gw 1463 rfl rfl) ?_
    refine S_callV (As := [.long (lN 1885434984)]) (mc := 0) (ms := 0) (pc := 16) dX12_statement_16 miX12_isWord mvX12_isWord mlX12_326 rfl (sM_0 hs) rfl rfl rfl (RmOK.of rfl) H ?_
    rintro _ _ ⟨x6, f4, g5, rfl, rfl, H⟩
    show WP _ _ _ _ _ _ _ 19 [some (.ref B)] [.int x6] (sh, f4, g5, fR)
    refine S_if_eq (pc := 19) (tgt := 29) dX12_statement_19 rfl (fun hc7 => ?_) (fun hc7 => ?_)
    · replace H := H.1 hc7
      refine S_aload_n (pc := 29) dX12_statement_29 rfl rfl ?_
      refine S_ldc2 (pc := 30) (v := lN 1785686382) dX12_statement_30 (gw 1477 rfl rfl) ?_
      refine S_callV (As := [.long (lN 1785686382)]) (mc := 0) (ms := 0) (pc := 33) dX12_statement_33 miX12_isWord mvX12_isWord mlX12_326 rfl (sM_0 hs) rfl rfl rfl (RmOK.of rfl) H ?_
      rintro _ _ ⟨x10, f8, g9, rfl, rfl, H⟩
      show WP _ _ _ _ _ _ _ 36 [some (.ref B)] [.int x10] (sh, f8, g9, fR)
      refine S_if_eq (pc := 36) (tgt := 46) dX12_statement_36 rfl (fun hc11 => ?_) (fun hc11 => ?_)
      · replace H := H.1 hc11
        refine S_aload_n (pc := 46) dX12_statement_46 rfl rfl ?_
        refine S_ldc2 (pc := 47) (v := lN 1819243379) dX12_statement_47 (gw 1480 rfl rfl) ?_
        refine S_callV (As := [.long (lN 1819243379)]) (mc := 0) (ms := 0) (pc := 50) dX12_statement_50 miX12_isWord mvX12_isWord mlX12_326 rfl (sM_0 hs) rfl rfl rfl (RmOK.of rfl) H ?_
        rintro _ _ ⟨x14, f12, g13, rfl, rfl, H⟩
        show WP _ _ _ _ _ _ _ 53 [some (.ref B)] [.int x14] (sh, f12, g13, fR)
        refine S_if_eq (pc := 53) (tgt := 63) dX12_statement_53 rfl (fun hc15 => ?_) (fun hc15 => ?_)
        · replace H := H.1 hc15
          refine S_aload_n (pc := 63) dX12_statement_63 rfl rfl ?_
          refine S_ldc2 (pc := 64) (v := lN 431416635507) dX12_statement_64 (gw 1481 rfl rfl) ?_
          refine S_callV (As := [.long (lN 431416635507)]) (mc := 0) (ms := 0) (pc := 67) dX12_statement_67 miX12_isWord mvX12_isWord mlX12_326 rfl (sM_0 hs) rfl rfl rfl (RmOK.of rfl) H ?_
          rintro _ _ ⟨x18, f16, g17, rfl, rfl, H⟩
          show WP _ _ _ _ _ _ _ 70 [some (.ref B)] [.int x18] (sh, f16, g17, fR)
          refine S_if_eq (pc := 70) (tgt := 81) dX12_statement_70 rfl (fun hc19 => ?_) (fun hc19 => ?_)
          · replace H := H.1 hc19
            refine S_aload_n (pc := 81) dX12_statement_81 rfl rfl ?_
            refine S_ldc2 (pc := 82) (v := lN 482804460403) dX12_statement_82 (gw 1482 rfl rfl) ?_
            refine S_callV (As := [.long (lN 482804460403)]) (mc := 0) (ms := 0) (pc := 85) dX12_statement_85 miX12_isWord mvX12_isWord mlX12_326 rfl (sM_0 hs) rfl rfl rfl (RmOK.of rfl) H ?_
            rintro _ _ ⟨x22, f20, g21, rfl, rfl, H⟩
            show WP _ _ _ _ _ _ _ 88 [some (.ref B)] [.int x22] (sh, f20, g21, fR)
            refine S_if_eq (pc := 88) (tgt := 99) dX12_statement_88 rfl (fun hc23 => ?_) (fun hc23 => ?_)
            · replace H := H.1 hc23
              refine S_aload_n (pc := 99) dX12_statement_99 rfl rfl ?_
              refine S_ldc2 (pc := 100) (v := lN 491327153267) dX12_statement_100 (gw 1483 rfl rfl) ?_
              refine S_callV (As := [.long (lN 491327153267)]) (mc := 0) (ms := 0) (pc := 103) dX12_statement_103 miX12_isWord mvX12_isWord mlX12_326 rfl (sM_0 hs) rfl rfl rfl (RmOK.of rfl) H ?_
              rintro _ _ ⟨x26, f24, g25, rfl, rfl, H⟩
              show WP _ _ _ _ _ _ _ 106 [some (.ref B)] [.int x26] (sh, f24, g25, fR)
              refine S_if_eq (pc := 106) (tgt := 117) dX12_statement_106 rfl (fun hc27 => ?_) (fun hc27 => ?_)
              · replace H := H.1 hc27
                refine S_aload_n (pc := 117) dX12_statement_117 rfl rfl ?_
                refine S_ldc2 (pc := 118) (v := lN 512735409267) dX12_statement_118 (gw 1484 rfl rfl) ?_
                refine S_callV (As := [.long (lN 512735409267)]) (mc := 0) (ms := 0) (pc := 121) dX12_statement_121 miX12_isWord mvX12_isWord mlX12_326 rfl (sM_0 hs) rfl rfl rfl (RmOK.of rfl) H ?_
                rintro _ _ ⟨x30, f28, g29, rfl, rfl, H⟩
                show WP _ _ _ _ _ _ _ 124 [some (.ref B)] [.int x30] (sh, f28, g29, fR)
                refine S_if_eq (pc := 124) (tgt := 135) dX12_statement_124 rfl (fun hc31 => ?_) (fun hc31 => ?_)
                · replace H := H.1 hc31
                  refine S_aload_n (pc := 135) dX12_statement_135 rfl rfl ?_
                  refine S_iconst (pc := 136) dX12_statement_136 ic1 ?_
                  refine S_aload_n (pc := 137) dX12_statement_137 rfl rfl ?_
                  refine S_get (pc := 138) (v := .int (f28 B 4)) dX12_statement_138 flX12_23 (sM_0 hs) rfl ?_
                  refine S_callV (As := [.int (nI 1), .int (f28 B 4)]) (mc := 0) (ms := 0) (pc := 141) dX12_statement_141 miX12_blame mvX12_blame mlX12_232 rfl (sM_0 hs) rfl rfl rfl (RmOK.of rfl) H ?_
                  rintro _ _ ⟨f32, g33, rfl, rfl, H⟩
                  show WP _ _ _ _ _ _ _ 144 [some (.ref B)] [] (sh, f32, g33, fR)
                  exact S_vreturn dX12_statement_144 rfl H
                · replace H := H.2 hc31
                  refine S_aload_n (pc := 127) dX12_statement_127 rfl rfl ?_
                  refine S_iconst (pc := 128) dX12_statement_128 ic3 ?_
                  refine S_callV (As := [.int (nI 3)]) (mc := 0) (ms := 0) (pc := 129) dX12_statement_129 miX12_reading mvX12_reading mlX12_384 rfl (sM_0 hs) rfl rfl rfl (RmOK.of rfl) H ?_
                  rintro _ _ ⟨f34, g35, rfl, rfl, H⟩
                  show WP _ _ _ _ _ _ _ 132 [some (.ref B)] [] (sh, f34, g35, fR)
                  refine S_goto (pc := 132) (tgt := 144) dX12_statement_132 rfl ?_
                  exact S_vreturn dX12_statement_144 rfl H
              · replace H := H.2 hc27
                refine S_aload_n (pc := 109) dX12_statement_109 rfl rfl ?_
                refine S_iconst (pc := 110) dX12_statement_110 ic2 ?_
                refine S_callV (As := [.int (nI 2)]) (mc := 0) (ms := 0) (pc := 111) dX12_statement_111 miX12_reading mvX12_reading mlX12_384 rfl (sM_0 hs) rfl rfl rfl (RmOK.of rfl) H ?_
                rintro _ _ ⟨f36, g37, rfl, rfl, H⟩
                show WP _ _ _ _ _ _ _ 114 [some (.ref B)] [] (sh, f36, g37, fR)
                refine S_goto (pc := 114) (tgt := 144) dX12_statement_114 rfl ?_
                exact S_vreturn dX12_statement_144 rfl H
            · replace H := H.2 hc23
              refine S_aload_n (pc := 91) dX12_statement_91 rfl rfl ?_
              refine S_iconst (pc := 92) dX12_statement_92 ic1 ?_
              refine S_callV (As := [.int (nI 1)]) (mc := 0) (ms := 0) (pc := 93) dX12_statement_93 miX12_reading mvX12_reading mlX12_384 rfl (sM_0 hs) rfl rfl rfl (RmOK.of rfl) H ?_
              rintro _ _ ⟨f38, g39, rfl, rfl, H⟩
              show WP _ _ _ _ _ _ _ 96 [some (.ref B)] [] (sh, f38, g39, fR)
              refine S_goto (pc := 96) (tgt := 144) dX12_statement_96 rfl ?_
              exact S_vreturn dX12_statement_144 rfl H
          · replace H := H.2 hc19
            refine S_aload_n (pc := 73) dX12_statement_73 rfl rfl ?_
            refine S_iconst (pc := 74) dX12_statement_74 ic0 ?_
            refine S_callV (As := [.int (nI 0)]) (mc := 0) (ms := 0) (pc := 75) dX12_statement_75 miX12_reading mvX12_reading mlX12_384 rfl (sM_0 hs) rfl rfl rfl (RmOK.of rfl) H ?_
            rintro _ _ ⟨f40, g41, rfl, rfl, H⟩
            show WP _ _ _ _ _ _ _ 78 [some (.ref B)] [] (sh, f40, g41, fR)
            refine S_goto (pc := 78) (tgt := 144) dX12_statement_78 rfl ?_
            exact S_vreturn dX12_statement_144 rfl H
        · replace H := H.2 hc15
          refine S_aload_n (pc := 56) dX12_statement_56 rfl rfl ?_
          refine S_callV (As := []) (mc := 0) (ms := 0) (pc := 57) dX12_statement_57 miX12_lossIs mvX12_lossIs mlX12_381 rfl (sM_0 hs) rfl rfl rfl (RmOK.of rfl) H ?_
          rintro _ _ ⟨f42, g43, rfl, rfl, H⟩
          show WP _ _ _ _ _ _ _ 60 [some (.ref B)] [] (sh, f42, g43, fR)
          refine S_goto (pc := 60) (tgt := 144) dX12_statement_60 rfl ?_
          exact S_vreturn dX12_statement_144 rfl H
      · replace H := H.2 hc11
        refine S_aload_n (pc := 39) dX12_statement_39 rfl rfl ?_
        refine S_callV (As := []) (mc := 0) (ms := 0) (pc := 40) dX12_statement_40 miX12_joinIs mvX12_joinIs mlX12_378 rfl (sM_0 hs) rfl rfl rfl (RmOK.of rfl) H ?_
        rintro _ _ ⟨f44, g45, rfl, rfl, H⟩
        show WP _ _ _ _ _ _ _ 43 [some (.ref B)] [] (sh, f44, g45, fR)
        refine S_goto (pc := 43) (tgt := 144) dX12_statement_43 rfl ?_
        exact S_vreturn dX12_statement_144 rfl H
    · replace H := H.2 hc7
      refine S_aload_n (pc := 22) dX12_statement_22 rfl rfl ?_
      refine S_callV (As := []) (mc := 0) (ms := 0) (pc := 23) dX12_statement_23 miX12_pathIs mvX12_pathIs mlX12_375 rfl (sM_0 hs) rfl rfl rfl (RmOK.of rfl) H ?_
      rintro _ _ ⟨f46, g47, rfl, rfl, H⟩
      show WP _ _ _ _ _ _ _ 26 [some (.ref B)] [] (sh, f46, g47, fR)
      refine S_goto (pc := 26) (tgt := 144) dX12_statement_26 rfl ?_
      exact S_vreturn dX12_statement_144 rfl H
  · replace H := H.2 hc3
    exact S_vreturn dX12_statement_11 rfl H
abbrev LpX12_finishes_17 (l : Launch) (G : Gx) (d : Nat) (Q : Option Value → Hp → Prop) (sh : Sh) (fR : FRt) (B : Nat) (f : FI) (g : FL) (a1 : Int32) (a2 : Int32) : Prop := WP l G (Zq G 0 0 Q) mX12_finishes (rmd (d + 3) 0 0) 0 0 17 [some (.ref B), some (.int a1), some (.int a2)] [] (sh, f, g, fR)
abbrev LpX12_finishes_53 (l : Launch) (G : Gx) (d : Nat) (Q : Option Value → Hp → Prop) (sh : Sh) (fR : FRt) (B : Nat) (f : FI) (g : FL) (a1 : Int32) (a2 : Int32) : Prop := WP l G (Zq G 0 0 Q) mX12_finishes (rmd (d + 3) 0 0) 0 0 53 [some (.ref B), some (.int a1), some (.int a2)] [] (sh, f, g, fR)
abbrev LpX12_finishes_47 (l : Launch) (G : Gx) (d : Nat) (Q : Option Value → Hp → Prop) (sh : Sh) (fR : FRt) (B : Nat) (f : FI) (g : FL) (a1 : Int32) (a2 : Int32) : Prop := WP l G (Zq G 0 0 Q) mX12_finishes (rmd (d + 3) 0 0) 0 0 47 [some (.ref B), some (.int a1), some (.int a2)] [] (sh, f, g, fR)
set_option maxHeartbeats 2000000 in
set_option maxRecDepth 4000 in
theorem VX12_finishes {l : Launch} {G : Gx} {d : Nat} {Q : Option Value → Hp → Prop} {sh : Sh} {fR : FRt} {B : Nat} {f : FI} {g : FL} {a1 : Int32} (hs : StM sh fR B)
    (H : Cl l G (d + 2) 0 0 mX12_lex [.ref B] (sh, f, g, fR) (qv sh fR fun f1 g2 => (((f1 B 8) ≤ 0 → (∀ w4 : Int32, w4 = f1 B 5 → LpX12_finishes_17 l G d Q sh fR B f1 g2 a1 w4)) ∧ (¬ (f1 B 8) ≤ 0 → Q none (sh, f1, g2, fR))))) :
    Cl l G (d + 3) 0 0 mX12_finishes [.ref B, .int a1] (sh, f, g, fR) Q := by
  refine Cl.of (L0 := [some (.ref B), some (.int a1), none]) miX12_finishes rfl rfl ?_
  refine S_aload_n (pc := 0) dX12_finishes_0 rfl rfl ?_
  refine S_callV (As := []) (mc := 0) (ms := 0) (pc := 1) dX12_finishes_1 miX12_lex mvX12_lex mlX12_243 rfl (sM_0 hs) rfl rfl rfl (RmOK.of rfl) H ?_
  rintro _ _ ⟨f1, g2, rfl, rfl, H⟩
  show WP _ _ _ _ _ _ _ 4 [some (.ref B), some (.int a1), none] [] (sh, f1, g2, fR)
  refine S_aload_n (pc := 4) dX12_finishes_4 rfl rfl ?_
  refine S_get (pc := 5) (v := .int (f1 B 8)) dX12_finishes_5 flX12_36 (sM_0 hs) rfl ?_
  refine S_if_le (pc := 8) (tgt := 12) dX12_finishes_8 rfl (fun hc3 => ?_) (fun hc3 => ?_)
  · replace H := H.1 hc3
    refine S_aload_n (pc := 12) dX12_finishes_12 rfl rfl ?_
    refine S_get (pc := 13) (v := .int (f1 B 5)) dX12_finishes_13 flX12_26 (sM_0 hs) rfl ?_
    refine S_namei (fun w4 e5 => ?_)
    replace H := H w4 e5
    refine S_istore_n (pc := 16) (L' := [some (.ref B), some (.int a1), some (.int w4)]) dX12_finishes_16 rfl (by decide) rfl ?_
    exact H
  · replace H := H.2 hc3
    exact S_vreturn dX12_finishes_11 rfl H
set_option maxHeartbeats 2000000 in
set_option maxRecDepth 4000 in
theorem VX12_finishes_17 {l : Launch} {G : Gx} {d : Nat} {Q : Option Value → Hp → Prop} {sh : Sh} {fR : FRt} {B : Nat} {f : FI} {g : FL} {a1 : Int32} {a2 : Int32} (hs : StM sh fR B)
    (H : (((f B 2) ≤ a2 → LpX12_finishes_53 l G d Q sh fR B f g a1 a2) ∧ (¬ (f B 2) ≤ a2 → inb a2 1800 ∧ (((f (B + 1) a2.toNatClampNeg) = (nI 32) → LpX12_finishes_47 l G d Q sh fR B f g a1 a2) ∧ (¬ (f (B + 1) a2.toNatClampNeg) = (nI 32) → inb a2 1800 ∧ ((¬ (f (B + 1) a2.toNatClampNeg) = (nI 10) → LpX12_finishes_53 l G d Q sh fR B f g a1 a2) ∧ ((f (B + 1) a2.toNatClampNeg) = (nI 10) → LpX12_finishes_47 l G d Q sh fR B f g a1 a2))))))) :
    LpX12_finishes_17 l G d Q sh fR B f g a1 a2 := by
  refine S_iload_n (pc := 17) dX12_finishes_17 rfl rfl ?_
  refine S_aload_n (pc := 18) dX12_finishes_18 rfl rfl ?_
  refine S_get (pc := 19) (v := .int (f B 2)) dX12_finishes_19 flX12_17 (sM_0 hs) rfl ?_
  refine S_icmp_ge (pc := 22) (tgt := 53) dX12_finishes_22 rfl (fun hc6 => ?_) (fun hc6 => ?_)
  · replace H := H.1 hc6
    exact H
  · replace H := H.2 hc6
    refine S_aload_n (pc := 25) dX12_finishes_25 rfl rfl ?_
    refine S_getR (pc := 26) dX12_finishes_26 flX12_7 (sM_0 hs) rfl (rM_0 hs) ?_
    refine S_iload_n (pc := 29) dX12_finishes_29 rfl rfl ?_
    obtain ⟨hb7, H⟩ := H
    refine S_iald (pc := 30) dX12_finishes_30 (sM_1 hs) hb7 ?_
    refine S_bipush (pc := 31) dX12_finishes_31 bp32 ?_
    refine S_icmp_eq (pc := 33) (tgt := 47) dX12_finishes_33 rfl (fun hc8 => ?_) (fun hc8 => ?_)
    · replace H := H.1 hc8
      exact H
    · replace H := H.2 hc8
      refine S_aload_n (pc := 36) dX12_finishes_36 rfl rfl ?_
      refine S_getR (pc := 37) dX12_finishes_37 flX12_7 (sM_0 hs) rfl (rM_0 hs) ?_
      refine S_iload_n (pc := 40) dX12_finishes_40 rfl rfl ?_
      obtain ⟨hb9, H⟩ := H
      refine S_iald (pc := 41) dX12_finishes_41 (sM_1 hs) hb9 ?_
      refine S_bipush (pc := 42) dX12_finishes_42 bp10 ?_
      refine S_icmp_ne (pc := 44) (tgt := 53) dX12_finishes_44 rfl (fun hc10 => ?_) (fun hc10 => ?_)
      · replace H := H.1 hc10
        exact H
      · replace H := H.2 hc10
        exact H
set_option maxHeartbeats 2000000 in
set_option maxRecDepth 4000 in
theorem VX12_finishes_53 {l : Launch} {G : Gx} {d : Nat} {Q : Option Value → Hp → Prop} {sh : Sh} {fR : FRt} {B : Nat} {f : FI} {g : FL} {a1 : Int32} {a2 : Int32} (hs : StM sh fR B)
    (H : Cl l G (d + 2) 0 0 mX12_isSign [.ref B, .int (nI 59)] (sh, f, g, fR) (qi sh fR fun x13 f11 g12 => ((x13 = 0 → Cl l G (d + 2) 0 0 mX12_must [.ref B, .int (nI 59)] (sh, f11, g12, fR) (qv sh fR fun f15 g16 => Q none (sh, f15, g16, fR))) ∧ (¬ x13 = 0 → ((¬ a1 = (nI 40) → Cl l G (d + 2) 0 0 mX12_must [.ref B, .int (nI 59)] (sh, f11, g12, fR) (qv sh fR fun f18 g19 => Q none (sh, f18, g19, fR))) ∧ (a1 = (nI 40) → (((f11 B 2) ≤ a2 → Cl l G (d + 2) 0 0 mX12_must [.ref B, .int (nI 59)] (sh, f11, g12, fR) (qv sh fR fun f21 g22 => Q none (sh, f21, g22, fR))) ∧ (¬ (f11 B 2) ≤ a2 → Cl l G (d + 2) 0 0 mX12_blame [.ref B, .int (nI 6), .int a2] (sh, f11, g12, fR) (qv sh fR fun f23 g24 => Cl l G (d + 2) 0 0 mX12_must [.ref B, .int (nI 59)] (sh, f23, g24, fR) (qv sh fR fun f25 g26 => Q none (sh, f25, g26, fR))))))))))) :
    LpX12_finishes_53 l G d Q sh fR B f g a1 a2 := by
  refine S_aload_n (pc := 53) dX12_finishes_53 rfl rfl ?_
  refine S_bipush (pc := 54) dX12_finishes_54 bp59 ?_
  refine S_callV (As := [.int (nI 59)]) (mc := 0) (ms := 0) (pc := 56) dX12_finishes_56 miX12_isSign mvX12_isSign mlX12_246 rfl (sM_0 hs) rfl rfl rfl (RmOK.of rfl) H ?_
  rintro _ _ ⟨x13, f11, g12, rfl, rfl, H⟩
  show WP _ _ _ _ _ _ _ 59 [some (.ref B), some (.int a1), some (.int a2)] [.int x13] (sh, f11, g12, fR)
  refine S_if_eq (pc := 59) (tgt := 83) dX12_finishes_59 rfl (fun hc14 => ?_) (fun hc14 => ?_)
  · replace H := H.1 hc14
    refine S_aload_n (pc := 83) dX12_finishes_83 rfl rfl ?_
    refine S_bipush (pc := 84) dX12_finishes_84 bp59 ?_
    refine S_callV (As := [.int (nI 59)]) (mc := 0) (ms := 0) (pc := 86) dX12_finishes_86 miX12_must mvX12_must mlX12_387 rfl (sM_0 hs) rfl rfl rfl (RmOK.of rfl) H ?_
    rintro _ _ ⟨f15, g16, rfl, rfl, H⟩
    show WP _ _ _ _ _ _ _ 89 [some (.ref B), some (.int a1), some (.int a2)] [] (sh, f15, g16, fR)
    exact S_vreturn dX12_finishes_89 rfl H
  · replace H := H.2 hc14
    refine S_iload_n (pc := 62) dX12_finishes_62 rfl rfl ?_
    refine S_bipush (pc := 63) dX12_finishes_63 bp40 ?_
    refine S_icmp_ne (pc := 65) (tgt := 83) dX12_finishes_65 rfl (fun hc17 => ?_) (fun hc17 => ?_)
    · replace H := H.1 hc17
      refine S_aload_n (pc := 83) dX12_finishes_83 rfl rfl ?_
      refine S_bipush (pc := 84) dX12_finishes_84 bp59 ?_
      refine S_callV (As := [.int (nI 59)]) (mc := 0) (ms := 0) (pc := 86) dX12_finishes_86 miX12_must mvX12_must mlX12_387 rfl (sM_0 hs) rfl rfl rfl (RmOK.of rfl) H ?_
      rintro _ _ ⟨f18, g19, rfl, rfl, H⟩
      show WP _ _ _ _ _ _ _ 89 [some (.ref B), some (.int a1), some (.int a2)] [] (sh, f18, g19, fR)
      exact S_vreturn dX12_finishes_89 rfl H
    · replace H := H.2 hc17
      refine S_iload_n (pc := 68) dX12_finishes_68 rfl rfl ?_
      refine S_aload_n (pc := 69) dX12_finishes_69 rfl rfl ?_
      refine S_get (pc := 70) (v := .int (f11 B 2)) dX12_finishes_70 flX12_17 (sM_0 hs) rfl ?_
      refine S_icmp_ge (pc := 73) (tgt := 83) dX12_finishes_73 rfl (fun hc20 => ?_) (fun hc20 => ?_)
      · replace H := H.1 hc20
        refine S_aload_n (pc := 83) dX12_finishes_83 rfl rfl ?_
        refine S_bipush (pc := 84) dX12_finishes_84 bp59 ?_
        refine S_callV (As := [.int (nI 59)]) (mc := 0) (ms := 0) (pc := 86) dX12_finishes_86 miX12_must mvX12_must mlX12_387 rfl (sM_0 hs) rfl rfl rfl (RmOK.of rfl) H ?_
        rintro _ _ ⟨f21, g22, rfl, rfl, H⟩
        show WP _ _ _ _ _ _ _ 89 [some (.ref B), some (.int a1), some (.int a2)] [] (sh, f21, g22, fR)
        exact S_vreturn dX12_finishes_89 rfl H
      · replace H := H.2 hc20
        refine S_aload_n (pc := 76) dX12_finishes_76 rfl rfl ?_
        refine S_bipush (pc := 77) dX12_finishes_77 bp6 ?_
        refine S_iload_n (pc := 79) dX12_finishes_79 rfl rfl ?_
        refine S_callV (As := [.int (nI 6), .int a2]) (mc := 0) (ms := 0) (pc := 80) dX12_finishes_80 miX12_blame mvX12_blame mlX12_232 rfl (sM_0 hs) rfl rfl rfl (RmOK.of rfl) H ?_
        rintro _ _ ⟨f23, g24, rfl, rfl, H⟩
        show WP _ _ _ _ _ _ _ 83 [some (.ref B), some (.int a1), some (.int a2)] [] (sh, f23, g24, fR)
        refine S_aload_n (pc := 83) dX12_finishes_83 rfl rfl ?_
        refine S_bipush (pc := 84) dX12_finishes_84 bp59 ?_
        refine S_callV (As := [.int (nI 59)]) (mc := 0) (ms := 0) (pc := 86) dX12_finishes_86 miX12_must mvX12_must mlX12_387 rfl (sM_0 hs) rfl rfl rfl (RmOK.of rfl) H ?_
        rintro _ _ ⟨f25, g26, rfl, rfl, H⟩
        show WP _ _ _ _ _ _ _ 89 [some (.ref B), some (.int a1), some (.int a2)] [] (sh, f25, g26, fR)
        exact S_vreturn dX12_finishes_89 rfl H
set_option maxHeartbeats 2000000 in
set_option maxRecDepth 4000 in
theorem VX12_finishes_47 {l : Launch} {G : Gx} {d : Nat} {Q : Option Value → Hp → Prop} {sh : Sh} {fR : FRt} {B : Nat} {f : FI} {g : FL} {a1 : Int32} {a2 : Int32} (hs : StM sh fR B)
    (H : LpX12_finishes_17 l G d Q sh fR B f g a1 (a2 + nI 1)) :
    LpX12_finishes_47 l G d Q sh fR B f g a1 a2 := by
  refine S_iinc (pc := 47) (v := nI 1) (L' := [some (.ref B), some (.int a1), some (.int (a2 + nI 1))]) dX12_finishes_47 rfl ic1 rfl ?_
  refine S_goto (pc := 50) (tgt := 17) dX12_finishes_50 rfl ?_
  exact H
abbrev LpX12_stream_65 (l : Launch) (G : Gx) (d : Nat) (Q : Option Value → Hp → Prop) (sh : Sh) (fR : FRt) (B : Nat) (f : FI) (g : FL) (a1 : Int32) : Prop := WP l G (Zq G 0 0 Q) mX12_stream (rmd (d + 7) 0 0) 0 0 65 [some (.ref B), some (.int a1)] [] (sh, f, g, fR)
abbrev LpX12_stream_110 (l : Launch) (G : Gx) (d : Nat) (Q : Option Value → Hp → Prop) (sh : Sh) (fR : FRt) (B : Nat) (f : FI) (g : FL) (a1 : Int32) : Prop := WP l G (Zq G 0 0 Q) mX12_stream (rmd (d + 7) 0 0) 0 0 110 [some (.ref B), some (.int a1)] [] (sh, f, g, fR)
abbrev LpX12_stream_139 (l : Launch) (G : Gx) (d : Nat) (Q : Option Value → Hp → Prop) (sh : Sh) (fR : FRt) (B : Nat) (f : FI) (g : FL) (a1 : Int32) : Prop := WP l G (Zq G 0 0 Q) mX12_stream (rmd (d + 7) 0 0) 0 0 139 [some (.ref B), some (.int a1)] [] (sh, f, g, fR)
set_option maxHeartbeats 2000000 in
set_option maxRecDepth 4000 in
theorem VX12_stream {l : Launch} {G : Gx} {d : Nat} {Q : Option Value → Hp → Prop} {sh : Sh} {fR : FRt} {B : Nat} {f : FI} {g : FL}  (hs : StM sh fR B)
    (H : inb ((nI 1) - (f B 13)) 2 ∧ inb ((nI 1) - (f B 13)) 2 ∧ (∀ w3 : Int32, w3 = (nI 4) * ((nI 1) - (f B 13)) → LpX12_stream_65 l G d Q sh fR B (up2 (up2 (up2 (up2 (up2 (up2 (up2 (up2 f B 2 (f B 1)) B 1 (nI 0)) B 5 (nI 0)) B 8 (nI 0)) B 9 (-1)) B 29 ((nI 1) - (f B 13))) (B + 6) ((nI 1) - (f B 13)).toNatClampNeg (nI 0)) (B + 10) ((nI 1) - (f B 13)).toNatClampNeg (nI 0)) g w3)) :
    Cl l G (d + 7) 0 0 mX12_stream [.ref B] (sh, f, g, fR) Q := by
  refine Cl.of (L0 := [some (.ref B), none]) miX12_stream rfl rfl ?_
  refine S_aload_n (pc := 0) dX12_stream_0 rfl rfl ?_
  refine S_aload_n (pc := 1) dX12_stream_1 rfl rfl ?_
  refine S_get (pc := 2) (v := .int (f B 1)) dX12_stream_2 flX12_13 (sM_0 hs) rfl ?_
  refine S_putI (pc := 5) dX12_stream_5 flX12_17 (sM_0 hs) hs.2.2 (nf_12_2) rfl rfl (fun _ => rfl) ?_
  refine S_aload_n (pc := 8) dX12_stream_8 rfl rfl ?_
  refine S_iconst (pc := 9) dX12_stream_9 ic0 ?_
  refine S_putI (pc := 10) dX12_stream_10 flX12_13 (sM_0 hs) hs.2.2 (nf_12_1) rfl rfl (fun _ => rfl) ?_
  refine S_aload_n (pc := 13) dX12_stream_13 rfl rfl ?_
  refine S_iconst (pc := 14) dX12_stream_14 ic0 ?_
  refine S_putI (pc := 15) dX12_stream_15 flX12_26 (sM_0 hs) hs.2.2 (nf_12_5) rfl rfl (fun _ => rfl) ?_
  refine S_aload_n (pc := 18) dX12_stream_18 rfl rfl ?_
  refine S_iconst (pc := 19) dX12_stream_19 ic0 ?_
  refine S_putI (pc := 20) dX12_stream_20 flX12_36 (sM_0 hs) hs.2.2 (nf_12_8) rfl rfl (fun _ => rfl) ?_
  refine S_aload_n (pc := 23) dX12_stream_23 rfl rfl ?_
  refine S_iconst (pc := 24) dX12_stream_24 icm1 ?_
  refine S_putI (pc := 25) dX12_stream_25 flX12_39 (sM_0 hs) hs.2.2 (nf_12_9) rfl rfl (fun _ => rfl) ?_
  refine S_aload_n (pc := 28) dX12_stream_28 rfl rfl ?_
  refine S_iconst (pc := 29) dX12_stream_29 ic1 ?_
  refine S_aload_n (pc := 30) dX12_stream_30 rfl rfl ?_
  refine S_get (pc := 31) (v := .int ((up2 (up2 (up2 (up2 (up2 f B 2 (f B 1)) B 1 (nI 0)) B 5 (nI 0)) B 8 (nI 0)) B 9 (-1)) B 13)) dX12_stream_31 flX12_51 (sM_0 hs) rfl ?_
  refine S_eqi (x := f B 13) ((up2_k (by decide)).trans ((up2_k (by decide)).trans ((up2_k (by decide)).trans ((up2_k (by decide)).trans ((up2_k (by decide)).trans rfl))))) ?_
  refine S_isub (pc := 34) dX12_stream_34 ?_
  refine S_putI (pc := 35) dX12_stream_35 flX12_100 (sM_0 hs) hs.2.2 (nf_12_29) rfl rfl (fun _ => rfl) ?_
  refine S_aload_n (pc := 38) dX12_stream_38 rfl rfl ?_
  refine S_getR (pc := 39) dX12_stream_39 flX12_66 (sM_0 hs) rfl (rM_18 hs) ?_
  refine S_aload_n (pc := 42) dX12_stream_42 rfl rfl ?_
  refine S_get (pc := 43) (v := .int ((up2 (up2 (up2 (up2 (up2 (up2 f B 2 (f B 1)) B 1 (nI 0)) B 5 (nI 0)) B 8 (nI 0)) B 9 (-1)) B 29 ((nI 1) - (f B 13))) B 29)) dX12_stream_43 flX12_100 (sM_0 hs) rfl ?_
  refine S_eqi (x := (nI 1) - (f B 13)) up2_eq ?_
  refine S_iconst (pc := 46) dX12_stream_46 ic0 ?_
  obtain ⟨hb1, H⟩ := H
  refine S_iast (pc := 47) dX12_stream_47 (sM_6 hs) (Nat.succ_pos _) hb1 ?_
  refine S_aload_n (pc := 48) dX12_stream_48 rfl rfl ?_
  refine S_getR (pc := 49) dX12_stream_49 flX12_78 (sM_0 hs) rfl (rM_22 hs) ?_
  refine S_aload_n (pc := 52) dX12_stream_52 rfl rfl ?_
  refine S_get (pc := 53) (v := .int ((up2 (up2 (up2 (up2 (up2 (up2 (up2 f B 2 (f B 1)) B 1 (nI 0)) B 5 (nI 0)) B 8 (nI 0)) B 9 (-1)) B 29 ((nI 1) - (f B 13))) (B + 6) ((nI 1) - (f B 13)).toNatClampNeg (nI 0)) B 29)) dX12_stream_53 flX12_100 (sM_0 hs) rfl ?_
  refine S_eqi (x := (nI 1) - (f B 13)) ((up2_r (by omega)).trans up2_eq) ?_
  refine S_iconst (pc := 56) dX12_stream_56 ic0 ?_
  obtain ⟨hb2, H⟩ := H
  refine S_iast (pc := 57) dX12_stream_57 (sM_10 hs) (Nat.succ_pos _) hb2 ?_
  refine S_iconst (pc := 58) dX12_stream_58 ic4 ?_
  refine S_aload_n (pc := 59) dX12_stream_59 rfl rfl ?_
  refine S_get (pc := 60) (v := .int ((up2 (up2 (up2 (up2 (up2 (up2 (up2 (up2 f B 2 (f B 1)) B 1 (nI 0)) B 5 (nI 0)) B 8 (nI 0)) B 9 (-1)) B 29 ((nI 1) - (f B 13))) (B + 6) ((nI 1) - (f B 13)).toNatClampNeg (nI 0)) (B + 10) ((nI 1) - (f B 13)).toNatClampNeg (nI 0)) B 29)) dX12_stream_60 flX12_100 (sM_0 hs) rfl ?_
  refine S_eqi (x := (nI 1) - (f B 13)) ((up2_r (by omega)).trans ((up2_r (by omega)).trans up2_eq)) ?_
  refine S_imul (pc := 63) dX12_stream_63 ?_
  refine S_namei (fun w3 e4 => ?_)
  replace H := H w3 e4
  refine S_istore_n (pc := 64) (L' := [some (.ref B), some (.int w3)]) dX12_stream_64 rfl (by decide) rfl ?_
  exact H
set_option maxHeartbeats 2000000 in
set_option maxRecDepth 4000 in
theorem VX12_stream_65 {l : Launch} {G : Gx} {d : Nat} {Q : Option Value → Hp → Prop} {sh : Sh} {fR : FRt} {B : Nat} {f : FI} {g : FL} {a1 : Int32} (hs : StM sh fR B)
    (H : (((((nI 4) * (f B 29)) + (nI 4)) ≤ a1 → Cl l G (d + 6) 0 0 mX12_ahead [.ref B] (sh, (up2 f B 28 (nI 0)), g, fR) (qv sh fR fun f6 g7 => Cl l G (d + 6) 0 0 mX12_streamIs [.ref B] (sh, f6, g7, fR) (qv sh fR fun f8 g9 => Cl l G (d + 6) 0 0 mX12_finishes [.ref B, .int (nI 1)] (sh, f8, g9, fR) (qv sh fR fun f10 g11 => LpX12_stream_110 l G d Q sh fR B f10 g11 (nI 1))))) ∧ (¬ (((nI 4) * (f B 29)) + (nI 4)) ≤ a1 → inb a1 8 ∧ LpX12_stream_65 l G d Q sh fR B (up2 f (B + 11) a1.toNatClampNeg (-1)) g (a1 + nI 1)))) :
    LpX12_stream_65 l G d Q sh fR B f g a1 := by
  refine S_iload_n (pc := 65) dX12_stream_65 rfl rfl ?_
  refine S_iconst (pc := 66) dX12_stream_66 ic4 ?_
  refine S_aload_n (pc := 67) dX12_stream_67 rfl rfl ?_
  refine S_get (pc := 68) (v := .int (f B 29)) dX12_stream_68 flX12_100 (sM_0 hs) rfl ?_
  refine S_imul (pc := 71) dX12_stream_71 ?_
  refine S_iconst (pc := 72) dX12_stream_72 ic4 ?_
  refine S_iadd (pc := 73) dX12_stream_73 ?_
  refine S_icmp_ge (pc := 74) (tgt := 90) dX12_stream_74 rfl (fun hc5 => ?_) (fun hc5 => ?_)
  · replace H := H.1 hc5
    refine S_aload_n (pc := 90) dX12_stream_90 rfl rfl ?_
    refine S_iconst (pc := 91) dX12_stream_91 ic0 ?_
    refine S_putI (pc := 92) dX12_stream_92 flX12_97 (sM_0 hs) hs.2.2 (nf_12_28) rfl rfl (fun _ => rfl) ?_
    refine S_iconst (pc := 95) dX12_stream_95 ic1 ?_
    refine S_istore_n (pc := 96) (L' := [some (.ref B), some (.int (nI 1))]) dX12_stream_96 rfl (by decide) rfl ?_
    refine S_aload_n (pc := 97) dX12_stream_97 rfl rfl ?_
    refine S_callV (As := []) (mc := 0) (ms := 0) (pc := 98) dX12_stream_98 miX12_ahead mvX12_ahead mlX12_249 rfl (sM_0 hs) rfl rfl rfl (RmOK.of rfl) H ?_
    rintro _ _ ⟨f6, g7, rfl, rfl, H⟩
    show WP _ _ _ _ _ _ _ 101 [some (.ref B), some (.int (nI 1))] [] (sh, f6, g7, fR)
    refine S_aload_n (pc := 101) dX12_stream_101 rfl rfl ?_
    refine S_callV (As := []) (mc := 0) (ms := 0) (pc := 102) dX12_stream_102 miX12_streamIs mvX12_streamIs mlX12_390 rfl (sM_0 hs) rfl rfl rfl (RmOK.of rfl) H ?_
    rintro _ _ ⟨f8, g9, rfl, rfl, H⟩
    show WP _ _ _ _ _ _ _ 105 [some (.ref B), some (.int (nI 1))] [] (sh, f8, g9, fR)
    refine S_aload_n (pc := 105) dX12_stream_105 rfl rfl ?_
    refine S_iload_n (pc := 106) dX12_stream_106 rfl rfl ?_
    refine S_callV (As := [.int (nI 1)]) (mc := 0) (ms := 0) (pc := 107) dX12_stream_107 miX12_finishes mvX12_finishes mlX12_393 rfl (sM_0 hs) rfl rfl rfl (RmOK.of rfl) H ?_
    rintro _ _ ⟨f10, g11, rfl, rfl, H⟩
    show WP _ _ _ _ _ _ _ 110 [some (.ref B), some (.int (nI 1))] [] (sh, f10, g11, fR)
    exact H
  · replace H := H.2 hc5
    refine S_aload_n (pc := 77) dX12_stream_77 rfl rfl ?_
    refine S_getR (pc := 78) dX12_stream_78 flX12_81 (sM_0 hs) rfl (rM_23 hs) ?_
    refine S_iload_n (pc := 81) dX12_stream_81 rfl rfl ?_
    refine S_iconst (pc := 82) dX12_stream_82 icm1 ?_
    obtain ⟨hb12, H⟩ := H
    refine S_iast (pc := 83) dX12_stream_83 (sM_11 hs) (Nat.succ_pos _) hb12 ?_
    refine S_iinc (pc := 84) (v := nI 1) (L' := [some (.ref B), some (.int (a1 + nI 1))]) dX12_stream_84 rfl ic1 rfl ?_
    refine S_goto (pc := 87) (tgt := 65) dX12_stream_87 rfl ?_
    exact H
set_option maxHeartbeats 2000000 in
set_option maxRecDepth 4000 in
theorem VX12_stream_110 {l : Launch} {G : Gx} {d : Nat} {Q : Option Value → Hp → Prop} {sh : Sh} {fR : FRt} {B : Nat} {f : FI} {g : FL} {a1 : Int32} (hs : StM sh fR B)
    (H : ((¬ (f B 8) = 0 → LpX12_stream_139 l G d Q sh fR B f g a1) ∧ ((f B 8) = 0 → (((f B 3) = 0 → LpX12_stream_139 l G d Q sh fR B f g a1) ∧ (¬ (f B 3) = 0 → Cl l G (d + 6) 0 0 mX12_statement [.ref B] (sh, f, g, fR) (qv sh fR fun f15 g16 => Cl l G (d + 6) 0 0 mX12_finishes [.ref B, .int (a1 + nI 1)] (sh, f15, g16, fR) (qv sh fR fun f17 g18 => LpX12_stream_110 l G d Q sh fR B f17 g18 (a1 + nI 1)))))))) :
    LpX12_stream_110 l G d Q sh fR B f g a1 := by
  refine S_aload_n (pc := 110) dX12_stream_110 rfl rfl ?_
  refine S_get (pc := 111) (v := .int (f B 8)) dX12_stream_111 flX12_36 (sM_0 hs) rfl ?_
  refine S_if_ne (pc := 114) (tgt := 139) dX12_stream_114 rfl (fun hc13 => ?_) (fun hc13 => ?_)
  · replace H := H.1 hc13
    exact H
  · replace H := H.2 hc13
    refine S_aload_n (pc := 117) dX12_stream_117 rfl rfl ?_
    refine S_get (pc := 118) (v := .int (f B 3)) dX12_stream_118 flX12_20 (sM_0 hs) rfl ?_
    refine S_if_eq (pc := 121) (tgt := 139) dX12_stream_121 rfl (fun hc14 => ?_) (fun hc14 => ?_)
    · replace H := H.1 hc14
      exact H
    · replace H := H.2 hc14
      refine S_aload_n (pc := 124) dX12_stream_124 rfl rfl ?_
      refine S_callV (As := []) (mc := 0) (ms := 0) (pc := 125) dX12_stream_125 miX12_statement mvX12_statement mlX12_396 rfl (sM_0 hs) rfl rfl rfl (RmOK.of rfl) H ?_
      rintro _ _ ⟨f15, g16, rfl, rfl, H⟩
      show WP _ _ _ _ _ _ _ 128 [some (.ref B), some (.int a1)] [] (sh, f15, g16, fR)
      refine S_iinc (pc := 128) (v := nI 1) (L' := [some (.ref B), some (.int (a1 + nI 1))]) dX12_stream_128 rfl ic1 rfl ?_
      refine S_aload_n (pc := 131) dX12_stream_131 rfl rfl ?_
      refine S_iload_n (pc := 132) dX12_stream_132 rfl rfl ?_
      refine S_callV (As := [.int (a1 + nI 1)]) (mc := 0) (ms := 0) (pc := 133) dX12_stream_133 miX12_finishes mvX12_finishes mlX12_393 rfl (sM_0 hs) rfl rfl rfl (RmOK.of rfl) H ?_
      rintro _ _ ⟨f17, g18, rfl, rfl, H⟩
      show WP _ _ _ _ _ _ _ 136 [some (.ref B), some (.int (a1 + nI 1))] [] (sh, f17, g18, fR)
      refine S_goto (pc := 136) (tgt := 110) dX12_stream_136 rfl ?_
      exact H
set_option maxHeartbeats 2000000 in
set_option maxRecDepth 4000 in
theorem VX12_stream_139 {l : Launch} {G : Gx} {d : Nat} {Q : Option Value → Hp → Prop} {sh : Sh} {fR : FRt} {B : Nat} {f : FI} {g : FL} {a1 : Int32} (hs : StM sh fR B)
    (H : (((f B 8) ≤ 0 → Cl l G (d + 6) 0 0 mX12_begin [.ref B] (sh, (up2 (up2 (up2 (up2 f B 10 (f B 8)) B 11 (f B 9)) B 13 (f B 29)) B 41 (nI 1)), g, fR) (qv sh fR fun f20 g21 => Q (some (.int a1)) (sh, f20, g21, fR))) ∧ (¬ (f B 8) ≤ 0 → Q (some (.int (-1))) (sh, (up2 (up2 (up2 f B 10 (f B 8)) B 11 (f B 9)) (B + 22) 1 ((f (B + 22) 1) + (nI 1))), g, fR)))) :
    LpX12_stream_139 l G d Q sh fR B f g a1 := by
  refine S_aload_n (pc := 139) dX12_stream_139 rfl rfl ?_
  refine S_aload_n (pc := 140) dX12_stream_140 rfl rfl ?_
  refine S_get (pc := 141) (v := .int (f B 8)) dX12_stream_141 flX12_36 (sM_0 hs) rfl ?_
  refine S_putI (pc := 144) dX12_stream_144 flX12_42 (sM_0 hs) hs.2.2 (nf_12_10) rfl rfl (fun _ => rfl) ?_
  refine S_aload_n (pc := 147) dX12_stream_147 rfl rfl ?_
  refine S_aload_n (pc := 148) dX12_stream_148 rfl rfl ?_
  refine S_get (pc := 149) (v := .int ((up2 f B 10 (f B 8)) B 9)) dX12_stream_149 flX12_39 (sM_0 hs) rfl ?_
  refine S_eqi (x := f B 9) ((up2_k (by decide)).trans rfl) ?_
  refine S_putI (pc := 152) dX12_stream_152 flX12_45 (sM_0 hs) hs.2.2 (nf_12_11) rfl rfl (fun _ => rfl) ?_
  refine S_aload_n (pc := 155) dX12_stream_155 rfl rfl ?_
  refine S_get (pc := 156) (v := .int ((up2 (up2 f B 10 (f B 8)) B 11 (f B 9)) B 8)) dX12_stream_156 flX12_36 (sM_0 hs) rfl ?_
  refine S_eqi (x := f B 8) ((up2_k (by decide)).trans ((up2_k (by decide)).trans rfl)) ?_
  refine S_if_le (pc := 159) (tgt := 168) dX12_stream_159 rfl (fun hc19 => ?_) (fun hc19 => ?_)
  · replace H := H.1 hc19
    refine S_aload_n (pc := 168) dX12_stream_168 rfl rfl ?_
    refine S_aload_n (pc := 169) dX12_stream_169 rfl rfl ?_
    refine S_get (pc := 170) (v := .int ((up2 (up2 f B 10 (f B 8)) B 11 (f B 9)) B 29)) dX12_stream_170 flX12_100 (sM_0 hs) rfl ?_
    refine S_eqi (x := f B 29) ((up2_k (by decide)).trans ((up2_k (by decide)).trans rfl)) ?_
    refine S_putI (pc := 173) dX12_stream_173 flX12_51 (sM_0 hs) hs.2.2 (nf_12_13) rfl rfl (fun _ => rfl) ?_
    refine S_aload_n (pc := 176) dX12_stream_176 rfl rfl ?_
    refine S_iconst (pc := 177) dX12_stream_177 ic1 ?_
    refine S_putI (pc := 178) dX12_stream_178 flX12_138 (sM_0 hs) hs.2.2 (nf_12_41) nb1 rfl (fun _ => rfl) ?_
    refine S_aload_n (pc := 181) dX12_stream_181 rfl rfl ?_
    refine S_callV (As := []) (mc := 0) (ms := 0) (pc := 182) dX12_stream_182 miX12_begin mvX12_begin mlX12_399 rfl (sM_0 hs) rfl rfl rfl (RmOK.of rfl) H ?_
    rintro _ _ ⟨f20, g21, rfl, rfl, H⟩
    show WP _ _ _ _ _ _ _ 185 [some (.ref B), some (.int a1)] [] (sh, f20, g21, fR)
    refine S_iload_n (pc := 185) dX12_stream_185 rfl rfl ?_
    exact S_ireturn dX12_stream_186 rfl H
  · replace H := H.2 hc19
    refine S_aload_n (pc := 162) dX12_stream_162 rfl rfl ?_
    refine S_iconst (pc := 163) dX12_stream_163 ic1 ?_
    refine S_callV (As := [.int (nI 1)]) (mc := 0) (ms := 0) (pc := 164) dX12_stream_164 miX12_refuses mvX12_refuses mlX12_224 rfl (sM_0 hs) rfl rfl rfl (RmOK.of rfl) (Q := fun r h => WP _ _ _ _ _ _ _ 167 [some (.ref B), some (.int a1)] (r.toList ++ []) h) (Cl.of miX12_refuses rfl rfl ?_) (fun _ _ q => q)
    refine S_aload_n (pc := 0) dX12_refuses_0 rfl rfl ?_
    refine S_getR (pc := 1) dX12_refuses_1 flX12_141 (sM_0 hs) rfl (rM_42 hs) ?_
    refine S_iload_n (pc := 4) dX12_refuses_4 rfl rfl ?_
    refine S_dup2 (pc := 5) dX12_refuses_5 rfl rfl ?_
    refine S_iald (pc := 6) dX12_refuses_6 (sM_22 hs) (vp_in_nI (by decide) (by decide)) ?_
    show WP _ _ _ _ _ _ _ 7 _ (.int ((up2 (up2 f B 10 (f B 8)) B 11 (f B 9)) (B + 22) 1) :: _) _
    refine S_eqi (x := f (B + 22) 1) ((up2_r (by omega)).trans ((up2_r (by omega)).trans rfl)) ?_
    refine S_iconst (pc := 7) dX12_refuses_7 ic1 ?_
    refine S_iadd (pc := 8) dX12_refuses_8 ?_
    refine S_iast (pc := 9) dX12_refuses_9 (sM_22 hs) (Nat.succ_pos _) (vp_in_nI (by decide) (by decide)) ?_
    show WP _ _ _ _ _ _ _ 10 _ _ (sh, (up2 (up2 (up2 f B 10 (f B 8)) B 11 (f B 9)) (B + 22) 1 ((f (B + 22) 1) + (nI 1))), g, fR)
    refine S_iconst (pc := 10) dX12_refuses_10 icm1 ?_
    refine S_ireturn dX12_refuses_11 rfl ?_
    show WP _ _ _ _ _ _ _ 167 [some (.ref B), some (.int a1)] [.int (-1)] (sh, (up2 (up2 (up2 f B 10 (f B 8)) B 11 (f B 9)) (B + 22) 1 ((f (B + 22) 1) + (nI 1))), g, fR)
    exact S_ireturn dX12_stream_167 rfl H
set_option maxHeartbeats 2000000 in
set_option maxRecDepth 4000 in
theorem VX12_fault {l : Launch} {G : Gx} {d : Nat} {Q : Option Value → Hp → Prop} {sh : Sh} {fR : FRt} {B : Nat} {f : FI} {g : FL} {a1 : Int32} (hs : StM sh fR B)
    (H : ((¬ a1 = 0 → ((¬ a1 = (nI 1) → Q (some (.int (-1))) (sh, f, g, fR)) ∧ (a1 = (nI 1) → Q (some (.int (f B 11))) (sh, f, g, fR)))) ∧ (a1 = 0 → Q (some (.int (f B 10))) (sh, f, g, fR)))) :
    Cl l G d 0 0 mX12_fault [.ref B, .int a1] (sh, f, g, fR) Q := by
  refine Cl.of (L0 := [some (.ref B), some (.int a1)]) miX12_fault rfl rfl ?_
  refine S_iload_n (pc := 0) dX12_fault_0 rfl rfl ?_
  refine S_if_ne (pc := 1) (tgt := 11) dX12_fault_1 rfl (fun hc1 => ?_) (fun hc1 => ?_)
  · replace H := H.1 hc1
    refine S_iload_n (pc := 11) dX12_fault_11 rfl rfl ?_
    refine S_iconst (pc := 12) dX12_fault_12 ic1 ?_
    refine S_icmp_ne (pc := 13) (tgt := 23) dX12_fault_13 rfl (fun hc2 => ?_) (fun hc2 => ?_)
    · replace H := H.1 hc2
      refine S_iconst (pc := 23) dX12_fault_23 icm1 ?_
      exact S_ireturn dX12_fault_24 rfl H
    · replace H := H.2 hc2
      refine S_aload_n (pc := 16) dX12_fault_16 rfl rfl ?_
      refine S_get (pc := 17) (v := .int (f B 11)) dX12_fault_17 flX12_45 (sM_0 hs) rfl ?_
      refine S_goto (pc := 20) (tgt := 24) dX12_fault_20 rfl ?_
      exact S_ireturn dX12_fault_24 rfl H
  · replace H := H.2 hc1
    refine S_aload_n (pc := 4) dX12_fault_4 rfl rfl ?_
    refine S_get (pc := 5) (v := .int (f B 10)) dX12_fault_5 flX12_42 (sM_0 hs) rfl ?_
    refine S_goto (pc := 8) (tgt := 24) dX12_fault_8 rfl ?_
    exact S_ireturn dX12_fault_24 rfl H
set_option maxHeartbeats 2000000 in
set_option maxRecDepth 4000 in
theorem VX12_status {l : Launch} {G : Gx} {d : Nat} {Q : Option Value → Hp → Prop} {sh : Sh} {fR : FRt} {B : Nat} {f : FI} {g : FL} {a1 : Int32} (hs : StM sh fR B)
    (H : Cl l G d 0 0 mX12_is [.int a1, .int (nI 0), .int (nI 5)] (sh, f, g, fR) (qi sh fR fun x3 f1 g2 => ((x3 = 0 → Q (some (.int (-1))) (sh, f1, g2, fR)) ∧ (¬ x3 = 0 → inb a1 6 ∧ Q (some (.int (f1 (B + 22) a1.toNatClampNeg))) (sh, f1, g2, fR))))) :
    Cl l G (d + 1) 0 0 mX12_status [.ref B, .int a1] (sh, f, g, fR) Q := by
  refine Cl.of (L0 := [some (.ref B), some (.int a1)]) miX12_status rfl rfl ?_
  refine S_iload_n (pc := 0) dX12_status_0 rfl rfl ?_
  refine S_iconst (pc := 1) dX12_status_1 ic0 ?_
  refine S_iconst (pc := 2) dX12_status_2 ic5 ?_
  refine S_callS (As := [.int a1, .int (nI 0), .int (nI 5)]) (mc := 0) (ms := 0) (pc := 3) dX12_status_3 miX12_is mvX12_is mlX12_310 rfl rfl (RmOK.of rfl) H ?_
  rintro _ _ ⟨x3, f1, g2, rfl, rfl, H⟩
  show WP _ _ _ _ _ _ _ 6 [some (.ref B), some (.int a1)] [.int x3] (sh, f1, g2, fR)
  refine S_if_eq (pc := 6) (tgt := 18) dX12_status_6 rfl (fun hc4 => ?_) (fun hc4 => ?_)
  · replace H := H.1 hc4
    refine S_iconst (pc := 18) dX12_status_18 icm1 ?_
    exact S_ireturn dX12_status_19 rfl H
  · replace H := H.2 hc4
    refine S_aload_n (pc := 9) dX12_status_9 rfl rfl ?_
    refine S_getR (pc := 10) dX12_status_10 flX12_141 (sM_0 hs) rfl (rM_42 hs) ?_
    refine S_iload_n (pc := 13) dX12_status_13 rfl rfl ?_
    obtain ⟨hb5, H⟩ := H
    refine S_iald (pc := 14) dX12_status_14 (sM_22 hs) hb5 ?_
    refine S_goto (pc := 15) (tgt := 19) dX12_status_15 rfl ?_
    exact S_ireturn dX12_status_19 rfl H
abbrev LpX12_copies_2 (l : Launch) (G : Gx) (d : Nat) (Q : Option Value → Hp → Prop) (sh : Sh) (fR : FRt) (B : Nat) (f : FI) (g : FL) (a1 : Int32) (a2 : Int32) (a3 : Int32) : Prop := WP l G (Zq G 0 0 Q) mX12_copies (rmd (d + 1) 0 0) 0 0 2 [some (.ref B), some (.int a1), some (.int a2), some (.int a3)] [] (sh, f, g, fR)
abbrev LpX12_copies_38 (l : Launch) (G : Gx) (d : Nat) (Q : Option Value → Hp → Prop) (sh : Sh) (fR : FRt) (B : Nat) (f : FI) (g : FL) (a1 : Int32) (a2 : Int32) (a3 : Int32) : Prop := WP l G (Zq G 0 0 Q) mX12_copies (rmd (d + 1) 0 0) 0 0 38 [some (.ref B), some (.int a1), some (.int a2), some (.int a3)] [] (sh, f, g, fR)
abbrev LpX12_copies_84 (l : Launch) (G : Gx) (d : Nat) (Q : Option Value → Hp → Prop) (sh : Sh) (fR : FRt) (B : Nat) (f : FI) (g : FL) (a1 : Int32) (a2 : Int32) (a3 : Int32) : Prop := WP l G (Zq G 0 0 Q) mX12_copies (rmd (d + 1) 0 0) 0 0 84 [some (.ref B), some (.int a1), some (.int a2), some (.int a3)] [] (sh, f, g, fR)
abbrev LpX12_copies_129 (l : Launch) (G : Gx) (d : Nat) (Q : Option Value → Hp → Prop) (sh : Sh) (fR : FRt) (B : Nat) (f : FI) (g : FL) (a1 : Int32) (a2 : Int32) (a3 : Int32) : Prop := WP l G (Zq G 0 0 Q) mX12_copies (rmd (d + 1) 0 0) 0 0 129 [some (.ref B), some (.int a1), some (.int a2), some (.int a3)] [] (sh, f, g, fR)
abbrev LpX12_copies_174 (l : Launch) (G : Gx) (d : Nat) (Q : Option Value → Hp → Prop) (sh : Sh) (fR : FRt) (B : Nat) (f : FI) (g : FL) (a1 : Int32) (a2 : Int32) (a3 : Int32) : Prop := WP l G (Zq G 0 0 Q) mX12_copies (rmd (d + 1) 0 0) 0 0 174 [some (.ref B), some (.int a1), some (.int a2), some (.int a3)] [] (sh, f, g, fR)
abbrev LpX12_copies_213 (l : Launch) (G : Gx) (d : Nat) (Q : Option Value → Hp → Prop) (sh : Sh) (fR : FRt) (B : Nat) (f : FI) (g : FL) (a1 : Int32) (a2 : Int32) (a3 : Int32) : Prop := WP l G (Zq G 0 0 Q) mX12_copies (rmd (d + 1) 0 0) 0 0 213 [some (.ref B), some (.int a1), some (.int a2), some (.int a3)] [] (sh, f, g, fR)
set_option maxHeartbeats 2000000 in
set_option maxRecDepth 4000 in
theorem VX12_copies {l : Launch} {G : Gx} {d : Nat} {Q : Option Value → Hp → Prop} {sh : Sh} {fR : FRt} {B : Nat} {f : FI} {g : FL} {a1 : Int32} {a2 : Int32} (hs : StM sh fR B)
    (H : LpX12_copies_2 l G d Q sh fR B f g a1 a2 (nI 0)) :
    Cl l G (d + 1) 0 0 mX12_copies [.ref B, .int a1, .int a2] (sh, f, g, fR) Q := by
  refine Cl.of (L0 := [some (.ref B), some (.int a1), some (.int a2), none]) miX12_copies rfl rfl ?_
  refine S_iconst (pc := 0) dX12_copies_0 ic0 ?_
  refine S_istore_n (pc := 1) (L' := [some (.ref B), some (.int a1), some (.int a2), some (.int (nI 0))]) dX12_copies_1 rfl (by decide) rfl ?_
  exact H
set_option maxHeartbeats 2000000 in
set_option maxRecDepth 4000 in
theorem VX12_copies_2 {l : Launch} {G : Gx} {d : Nat} {Q : Option Value → Hp → Prop} {sh : Sh} {fR : FRt} {B : Nat} {f : FI} {g : FL} {a1 : Int32} {a2 : Int32} {a3 : Int32} (hs : StM sh fR B)
    (H : (((nI 40) ≤ a3 → LpX12_copies_38 l G d Q sh fR B f g a1 a2 (nI 0)) ∧ (¬ (nI 40) ≤ a3 → inb (((nI 40) * a2) + a3) 880 ∧ inb (((nI 40) * a1) + a3) 880 ∧ LpX12_copies_2 l G d Q sh fR B (up2 f (B + 23) (((nI 40) * a1) + a3).toNatClampNeg (f (B + 23) (((nI 40) * a2) + a3).toNatClampNeg)) g a1 a2 (a3 + nI 1)))) :
    LpX12_copies_2 l G d Q sh fR B f g a1 a2 a3 := by
  refine S_iload_n (pc := 2) dX12_copies_2 rfl rfl ?_
  refine S_bipush (pc := 3) dX12_copies_3 bp40 ?_
  refine S_icmp_ge (pc := 5) (tgt := 36) dX12_copies_5 rfl (fun hc1 => ?_) (fun hc1 => ?_)
  · replace H := H.1 hc1
    refine S_iconst (pc := 36) dX12_copies_36 ic0 ?_
    refine S_istore_n (pc := 37) (L' := [some (.ref B), some (.int a1), some (.int a2), some (.int (nI 0))]) dX12_copies_37 rfl (by decide) rfl ?_
    exact H
  · replace H := H.2 hc1
    refine S_aload_n (pc := 8) dX12_copies_8 rfl rfl ?_
    refine S_getR (pc := 9) dX12_copies_9 flX12_144 (sM_0 hs) rfl (rM_43 hs) ?_
    refine S_bipush (pc := 12) dX12_copies_12 bp40 ?_
    refine S_iload_n (pc := 14) dX12_copies_14 rfl rfl ?_
    refine S_imul (pc := 15) dX12_copies_15 ?_
    refine S_iload_n (pc := 16) dX12_copies_16 rfl rfl ?_
    refine S_iadd (pc := 17) dX12_copies_17 ?_
    refine S_aload_n (pc := 18) dX12_copies_18 rfl rfl ?_
    refine S_getR (pc := 19) dX12_copies_19 flX12_144 (sM_0 hs) rfl (rM_43 hs) ?_
    refine S_bipush (pc := 22) dX12_copies_22 bp40 ?_
    refine S_iload_n (pc := 24) dX12_copies_24 rfl rfl ?_
    refine S_imul (pc := 25) dX12_copies_25 ?_
    refine S_iload_n (pc := 26) dX12_copies_26 rfl rfl ?_
    refine S_iadd (pc := 27) dX12_copies_27 ?_
    obtain ⟨hb2, H⟩ := H
    refine S_iald (pc := 28) dX12_copies_28 (sM_23 hs) hb2 ?_
    obtain ⟨hb3, H⟩ := H
    refine S_iast (pc := 29) dX12_copies_29 (sM_23 hs) (Nat.succ_pos _) hb3 ?_
    refine S_iinc (pc := 30) (v := nI 1) (L' := [some (.ref B), some (.int a1), some (.int a2), some (.int (a3 + nI 1))]) dX12_copies_30 rfl ic1 rfl ?_
    refine S_goto (pc := 33) (tgt := 2) dX12_copies_33 rfl ?_
    exact H
set_option maxHeartbeats 2000000 in
set_option maxRecDepth 4000 in
theorem VX12_copies_38 {l : Launch} {G : Gx} {d : Nat} {Q : Option Value → Hp → Prop} {sh : Sh} {fR : FRt} {B : Nat} {f : FI} {g : FL} {a1 : Int32} {a2 : Int32} {a3 : Int32} (hs : StM sh fR B)
    (H : inb (((nI 40) * a2) + (nI 6)) 880 ∧ ((((nI 8) * (f (B + 23) (((nI 40) * a2) + (nI 6)).toNatClampNeg)) ≤ a3 → LpX12_copies_84 l G d Q sh fR B f g a1 a2 (nI 0)) ∧ (¬ ((nI 8) * (f (B + 23) (((nI 40) * a2) + (nI 6)).toNatClampNeg)) ≤ a3 → inb (((nI 3840) * a2) + a3) 84480 ∧ inb (((nI 3840) * a1) + a3) 84480 ∧ LpX12_copies_38 l G d Q sh fR B (up2 f (B + 24) (((nI 3840) * a1) + a3).toNatClampNeg (f (B + 24) (((nI 3840) * a2) + a3).toNatClampNeg)) g a1 a2 (a3 + nI 1)))) :
    LpX12_copies_38 l G d Q sh fR B f g a1 a2 a3 := by
  refine S_iload_n (pc := 38) dX12_copies_38 rfl rfl ?_
  refine S_bipush (pc := 39) dX12_copies_39 bp8 ?_
  refine S_aload_n (pc := 41) dX12_copies_41 rfl rfl ?_
  refine S_iload_n (pc := 42) dX12_copies_42 rfl rfl ?_
  refine S_bipush (pc := 43) dX12_copies_43 bp6 ?_
  refine S_callV (As := [.int a2, .int (nI 6)]) (mc := 0) (ms := 0) (pc := 45) dX12_copies_45 miX12_n mvX12_n mlX12_402 rfl (sM_0 hs) rfl rfl rfl (RmOK.of rfl) (Q := fun r h => WP _ _ _ _ _ _ _ 48 [some (.ref B), some (.int a1), some (.int a2), some (.int a3)] (r.toList ++ [.int (nI 8), .int a3]) h) (Cl.of miX12_n rfl rfl ?_) (fun _ _ q => q)
  refine S_aload_n (pc := 0) dX12_n_0 rfl rfl ?_
  refine S_getR (pc := 1) dX12_n_1 flX12_144 (sM_0 hs) rfl (rM_43 hs) ?_
  refine S_bipush (pc := 4) dX12_n_4 bp40 ?_
  refine S_iload_n (pc := 6) dX12_n_6 rfl rfl ?_
  refine S_imul (pc := 7) dX12_n_7 ?_
  refine S_iload_n (pc := 8) dX12_n_8 rfl rfl ?_
  refine S_iadd (pc := 9) dX12_n_9 ?_
  obtain ⟨hb4, H⟩ := H
  refine S_iald (pc := 10) dX12_n_10 (sM_23 hs) hb4 ?_
  refine S_ireturn dX12_n_11 rfl ?_
  show WP _ _ _ _ _ _ _ 48 [some (.ref B), some (.int a1), some (.int a2), some (.int a3)] [.int (f (B + 23) (((nI 40) * a2) + (nI 6)).toNatClampNeg), .int (nI 8), .int a3] (sh, f, g, fR)
  refine S_imul (pc := 48) dX12_copies_48 ?_
  refine S_icmp_ge (pc := 49) (tgt := 82) dX12_copies_49 rfl (fun hc5 => ?_) (fun hc5 => ?_)
  · replace H := H.1 hc5
    refine S_iconst (pc := 82) dX12_copies_82 ic0 ?_
    refine S_istore_n (pc := 83) (L' := [some (.ref B), some (.int a1), some (.int a2), some (.int (nI 0))]) dX12_copies_83 rfl (by decide) rfl ?_
    exact H
  · replace H := H.2 hc5
    refine S_aload_n (pc := 52) dX12_copies_52 rfl rfl ?_
    refine S_getR (pc := 53) dX12_copies_53 flX12_148 (sM_0 hs) rfl (rM_44 hs) ?_
    refine S_sipush (pc := 56) dX12_copies_56 sp3840 ?_
    refine S_iload_n (pc := 59) dX12_copies_59 rfl rfl ?_
    refine S_imul (pc := 60) dX12_copies_60 ?_
    refine S_iload_n (pc := 61) dX12_copies_61 rfl rfl ?_
    refine S_iadd (pc := 62) dX12_copies_62 ?_
    refine S_aload_n (pc := 63) dX12_copies_63 rfl rfl ?_
    refine S_getR (pc := 64) dX12_copies_64 flX12_148 (sM_0 hs) rfl (rM_44 hs) ?_
    refine S_sipush (pc := 67) dX12_copies_67 sp3840 ?_
    refine S_iload_n (pc := 70) dX12_copies_70 rfl rfl ?_
    refine S_imul (pc := 71) dX12_copies_71 ?_
    refine S_iload_n (pc := 72) dX12_copies_72 rfl rfl ?_
    refine S_iadd (pc := 73) dX12_copies_73 ?_
    obtain ⟨hb6, H⟩ := H
    refine S_iald (pc := 74) dX12_copies_74 (sM_24 hs) hb6 ?_
    obtain ⟨hb7, H⟩ := H
    refine S_iast (pc := 75) dX12_copies_75 (sM_24 hs) (Nat.succ_pos _) hb7 ?_
    refine S_iinc (pc := 76) (v := nI 1) (L' := [some (.ref B), some (.int a1), some (.int a2), some (.int (a3 + nI 1))]) dX12_copies_76 rfl ic1 rfl ?_
    refine S_goto (pc := 79) (tgt := 38) dX12_copies_79 rfl ?_
    exact H
set_option maxHeartbeats 2000000 in
set_option maxRecDepth 4000 in
theorem VX12_copies_84 {l : Launch} {G : Gx} {d : Nat} {Q : Option Value → Hp → Prop} {sh : Sh} {fR : FRt} {B : Nat} {f : FI} {g : FL} {a1 : Int32} {a2 : Int32} {a3 : Int32} (hs : StM sh fR B)
    (H : inb (((nI 40) * a2) + (nI 7)) 880 ∧ ((((nI 2) * (f (B + 23) (((nI 40) * a2) + (nI 7)).toNatClampNeg)) ≤ a3 → LpX12_copies_129 l G d Q sh fR B f g a1 a2 (nI 0)) ∧ (¬ ((nI 2) * (f (B + 23) (((nI 40) * a2) + (nI 7)).toNatClampNeg)) ≤ a3 → inb (((nI 960) * a2) + a3) 21120 ∧ inb (((nI 960) * a1) + a3) 21120 ∧ LpX12_copies_84 l G d Q sh fR B (up2 f (B + 25) (((nI 960) * a1) + a3).toNatClampNeg (f (B + 25) (((nI 960) * a2) + a3).toNatClampNeg)) g a1 a2 (a3 + nI 1)))) :
    LpX12_copies_84 l G d Q sh fR B f g a1 a2 a3 := by
  refine S_iload_n (pc := 84) dX12_copies_84 rfl rfl ?_
  refine S_iconst (pc := 85) dX12_copies_85 ic2 ?_
  refine S_aload_n (pc := 86) dX12_copies_86 rfl rfl ?_
  refine S_iload_n (pc := 87) dX12_copies_87 rfl rfl ?_
  refine S_bipush (pc := 88) dX12_copies_88 bp7 ?_
  refine S_callV (As := [.int a2, .int (nI 7)]) (mc := 0) (ms := 0) (pc := 90) dX12_copies_90 miX12_n mvX12_n mlX12_402 rfl (sM_0 hs) rfl rfl rfl (RmOK.of rfl) (Q := fun r h => WP _ _ _ _ _ _ _ 93 [some (.ref B), some (.int a1), some (.int a2), some (.int a3)] (r.toList ++ [.int (nI 2), .int a3]) h) (Cl.of miX12_n rfl rfl ?_) (fun _ _ q => q)
  refine S_aload_n (pc := 0) dX12_n_0 rfl rfl ?_
  refine S_getR (pc := 1) dX12_n_1 flX12_144 (sM_0 hs) rfl (rM_43 hs) ?_
  refine S_bipush (pc := 4) dX12_n_4 bp40 ?_
  refine S_iload_n (pc := 6) dX12_n_6 rfl rfl ?_
  refine S_imul (pc := 7) dX12_n_7 ?_
  refine S_iload_n (pc := 8) dX12_n_8 rfl rfl ?_
  refine S_iadd (pc := 9) dX12_n_9 ?_
  obtain ⟨hb8, H⟩ := H
  refine S_iald (pc := 10) dX12_n_10 (sM_23 hs) hb8 ?_
  refine S_ireturn dX12_n_11 rfl ?_
  show WP _ _ _ _ _ _ _ 93 [some (.ref B), some (.int a1), some (.int a2), some (.int a3)] [.int (f (B + 23) (((nI 40) * a2) + (nI 7)).toNatClampNeg), .int (nI 2), .int a3] (sh, f, g, fR)
  refine S_imul (pc := 93) dX12_copies_93 ?_
  refine S_icmp_ge (pc := 94) (tgt := 127) dX12_copies_94 rfl (fun hc9 => ?_) (fun hc9 => ?_)
  · replace H := H.1 hc9
    refine S_iconst (pc := 127) dX12_copies_127 ic0 ?_
    refine S_istore_n (pc := 128) (L' := [some (.ref B), some (.int a1), some (.int a2), some (.int (nI 0))]) dX12_copies_128 rfl (by decide) rfl ?_
    exact H
  · replace H := H.2 hc9
    refine S_aload_n (pc := 97) dX12_copies_97 rfl rfl ?_
    refine S_getR (pc := 98) dX12_copies_98 flX12_151 (sM_0 hs) rfl (rM_45 hs) ?_
    refine S_sipush (pc := 101) dX12_copies_101 sp960 ?_
    refine S_iload_n (pc := 104) dX12_copies_104 rfl rfl ?_
    refine S_imul (pc := 105) dX12_copies_105 ?_
    refine S_iload_n (pc := 106) dX12_copies_106 rfl rfl ?_
    refine S_iadd (pc := 107) dX12_copies_107 ?_
    refine S_aload_n (pc := 108) dX12_copies_108 rfl rfl ?_
    refine S_getR (pc := 109) dX12_copies_109 flX12_151 (sM_0 hs) rfl (rM_45 hs) ?_
    refine S_sipush (pc := 112) dX12_copies_112 sp960 ?_
    refine S_iload_n (pc := 115) dX12_copies_115 rfl rfl ?_
    refine S_imul (pc := 116) dX12_copies_116 ?_
    refine S_iload_n (pc := 117) dX12_copies_117 rfl rfl ?_
    refine S_iadd (pc := 118) dX12_copies_118 ?_
    obtain ⟨hb10, H⟩ := H
    refine S_iald (pc := 119) dX12_copies_119 (sM_25 hs) hb10 ?_
    obtain ⟨hb11, H⟩ := H
    refine S_iast (pc := 120) dX12_copies_120 (sM_25 hs) (Nat.succ_pos _) hb11 ?_
    refine S_iinc (pc := 121) (v := nI 1) (L' := [some (.ref B), some (.int a1), some (.int a2), some (.int (a3 + nI 1))]) dX12_copies_121 rfl ic1 rfl ?_
    refine S_goto (pc := 124) (tgt := 84) dX12_copies_124 rfl ?_
    exact H
set_option maxHeartbeats 2000000 in
set_option maxRecDepth 4000 in
theorem VX12_copies_129 {l : Launch} {G : Gx} {d : Nat} {Q : Option Value → Hp → Prop} {sh : Sh} {fR : FRt} {B : Nat} {f : FI} {g : FL} {a1 : Int32} {a2 : Int32} {a3 : Int32} (hs : StM sh fR B)
    (H : inb (((nI 40) * a2) + (nI 8)) 880 ∧ ((((nI 5) * (f (B + 23) (((nI 40) * a2) + (nI 8)).toNatClampNeg)) ≤ a3 → LpX12_copies_174 l G d Q sh fR B f g a1 a2 (nI 0)) ∧ (¬ ((nI 5) * (f (B + 23) (((nI 40) * a2) + (nI 8)).toNatClampNeg)) ≤ a3 → inb (((nI 2600) * a2) + a3) 57200 ∧ inb (((nI 2600) * a1) + a3) 57200 ∧ LpX12_copies_129 l G d Q sh fR B (up2 f (B + 26) (((nI 2600) * a1) + a3).toNatClampNeg (f (B + 26) (((nI 2600) * a2) + a3).toNatClampNeg)) g a1 a2 (a3 + nI 1)))) :
    LpX12_copies_129 l G d Q sh fR B f g a1 a2 a3 := by
  refine S_iload_n (pc := 129) dX12_copies_129 rfl rfl ?_
  refine S_iconst (pc := 130) dX12_copies_130 ic5 ?_
  refine S_aload_n (pc := 131) dX12_copies_131 rfl rfl ?_
  refine S_iload_n (pc := 132) dX12_copies_132 rfl rfl ?_
  refine S_bipush (pc := 133) dX12_copies_133 bp8 ?_
  refine S_callV (As := [.int a2, .int (nI 8)]) (mc := 0) (ms := 0) (pc := 135) dX12_copies_135 miX12_n mvX12_n mlX12_402 rfl (sM_0 hs) rfl rfl rfl (RmOK.of rfl) (Q := fun r h => WP _ _ _ _ _ _ _ 138 [some (.ref B), some (.int a1), some (.int a2), some (.int a3)] (r.toList ++ [.int (nI 5), .int a3]) h) (Cl.of miX12_n rfl rfl ?_) (fun _ _ q => q)
  refine S_aload_n (pc := 0) dX12_n_0 rfl rfl ?_
  refine S_getR (pc := 1) dX12_n_1 flX12_144 (sM_0 hs) rfl (rM_43 hs) ?_
  refine S_bipush (pc := 4) dX12_n_4 bp40 ?_
  refine S_iload_n (pc := 6) dX12_n_6 rfl rfl ?_
  refine S_imul (pc := 7) dX12_n_7 ?_
  refine S_iload_n (pc := 8) dX12_n_8 rfl rfl ?_
  refine S_iadd (pc := 9) dX12_n_9 ?_
  obtain ⟨hb12, H⟩ := H
  refine S_iald (pc := 10) dX12_n_10 (sM_23 hs) hb12 ?_
  refine S_ireturn dX12_n_11 rfl ?_
  show WP _ _ _ _ _ _ _ 138 [some (.ref B), some (.int a1), some (.int a2), some (.int a3)] [.int (f (B + 23) (((nI 40) * a2) + (nI 8)).toNatClampNeg), .int (nI 5), .int a3] (sh, f, g, fR)
  refine S_imul (pc := 138) dX12_copies_138 ?_
  refine S_icmp_ge (pc := 139) (tgt := 172) dX12_copies_139 rfl (fun hc13 => ?_) (fun hc13 => ?_)
  · replace H := H.1 hc13
    refine S_iconst (pc := 172) dX12_copies_172 ic0 ?_
    refine S_istore_n (pc := 173) (L' := [some (.ref B), some (.int a1), some (.int a2), some (.int (nI 0))]) dX12_copies_173 rfl (by decide) rfl ?_
    exact H
  · replace H := H.2 hc13
    refine S_aload_n (pc := 142) dX12_copies_142 rfl rfl ?_
    refine S_getR (pc := 143) dX12_copies_143 flX12_155 (sM_0 hs) rfl (rM_46 hs) ?_
    refine S_sipush (pc := 146) dX12_copies_146 sp2600 ?_
    refine S_iload_n (pc := 149) dX12_copies_149 rfl rfl ?_
    refine S_imul (pc := 150) dX12_copies_150 ?_
    refine S_iload_n (pc := 151) dX12_copies_151 rfl rfl ?_
    refine S_iadd (pc := 152) dX12_copies_152 ?_
    refine S_aload_n (pc := 153) dX12_copies_153 rfl rfl ?_
    refine S_getR (pc := 154) dX12_copies_154 flX12_155 (sM_0 hs) rfl (rM_46 hs) ?_
    refine S_sipush (pc := 157) dX12_copies_157 sp2600 ?_
    refine S_iload_n (pc := 160) dX12_copies_160 rfl rfl ?_
    refine S_imul (pc := 161) dX12_copies_161 ?_
    refine S_iload_n (pc := 162) dX12_copies_162 rfl rfl ?_
    refine S_iadd (pc := 163) dX12_copies_163 ?_
    obtain ⟨hb14, H⟩ := H
    refine S_iald (pc := 164) dX12_copies_164 (sM_26 hs) hb14 ?_
    obtain ⟨hb15, H⟩ := H
    refine S_iast (pc := 165) dX12_copies_165 (sM_26 hs) (Nat.succ_pos _) hb15 ?_
    refine S_iinc (pc := 166) (v := nI 1) (L' := [some (.ref B), some (.int a1), some (.int a2), some (.int (a3 + nI 1))]) dX12_copies_166 rfl ic1 rfl ?_
    refine S_goto (pc := 169) (tgt := 129) dX12_copies_169 rfl ?_
    exact H
set_option maxHeartbeats 2000000 in
set_option maxRecDepth 4000 in
theorem VX12_copies_174 {l : Launch} {G : Gx} {d : Nat} {Q : Option Value → Hp → Prop} {sh : Sh} {fR : FRt} {B : Nat} {f : FI} {g : FL} {a1 : Int32} {a2 : Int32} {a3 : Int32} (hs : StM sh fR B)
    (H : (((nI 200) ≤ a3 → LpX12_copies_213 l G d Q sh fR B f g a1 a2 (nI 0)) ∧ (¬ (nI 200) ≤ a3 → inb (((nI 200) * a2) + a3) 4400 ∧ inb (((nI 200) * a1) + a3) 4400 ∧ LpX12_copies_174 l G d Q sh fR B (up2 f (B + 27) (((nI 200) * a1) + a3).toNatClampNeg (f (B + 27) (((nI 200) * a2) + a3).toNatClampNeg)) g a1 a2 (a3 + nI 1)))) :
    LpX12_copies_174 l G d Q sh fR B f g a1 a2 a3 := by
  refine S_iload_n (pc := 174) dX12_copies_174 rfl rfl ?_
  refine S_sipush (pc := 175) dX12_copies_175 sp200 ?_
  refine S_icmp_ge (pc := 178) (tgt := 211) dX12_copies_178 rfl (fun hc16 => ?_) (fun hc16 => ?_)
  · replace H := H.1 hc16
    refine S_iconst (pc := 211) dX12_copies_211 ic0 ?_
    refine S_istore_n (pc := 212) (L' := [some (.ref B), some (.int a1), some (.int a2), some (.int (nI 0))]) dX12_copies_212 rfl (by decide) rfl ?_
    exact H
  · replace H := H.2 hc16
    refine S_aload_n (pc := 181) dX12_copies_181 rfl rfl ?_
    refine S_getR (pc := 182) dX12_copies_182 flX12_158 (sM_0 hs) rfl (rM_47 hs) ?_
    refine S_sipush (pc := 185) dX12_copies_185 sp200 ?_
    refine S_iload_n (pc := 188) dX12_copies_188 rfl rfl ?_
    refine S_imul (pc := 189) dX12_copies_189 ?_
    refine S_iload_n (pc := 190) dX12_copies_190 rfl rfl ?_
    refine S_iadd (pc := 191) dX12_copies_191 ?_
    refine S_aload_n (pc := 192) dX12_copies_192 rfl rfl ?_
    refine S_getR (pc := 193) dX12_copies_193 flX12_158 (sM_0 hs) rfl (rM_47 hs) ?_
    refine S_sipush (pc := 196) dX12_copies_196 sp200 ?_
    refine S_iload_n (pc := 199) dX12_copies_199 rfl rfl ?_
    refine S_imul (pc := 200) dX12_copies_200 ?_
    refine S_iload_n (pc := 201) dX12_copies_201 rfl rfl ?_
    refine S_iadd (pc := 202) dX12_copies_202 ?_
    obtain ⟨hb17, H⟩ := H
    refine S_iald (pc := 203) dX12_copies_203 (sM_27 hs) hb17 ?_
    obtain ⟨hb18, H⟩ := H
    refine S_iast (pc := 204) dX12_copies_204 (sM_27 hs) (Nat.succ_pos _) hb18 ?_
    refine S_iinc (pc := 205) (v := nI 1) (L' := [some (.ref B), some (.int a1), some (.int a2), some (.int (a3 + nI 1))]) dX12_copies_205 rfl ic1 rfl ?_
    refine S_goto (pc := 208) (tgt := 174) dX12_copies_208 rfl ?_
    exact H
set_option maxHeartbeats 2000000 in
set_option maxRecDepth 4000 in
theorem VX12_copies_213 {l : Launch} {G : Gx} {d : Nat} {Q : Option Value → Hp → Prop} {sh : Sh} {fR : FRt} {B : Nat} {f : FI} {g : FL} {a1 : Int32} {a2 : Int32} {a3 : Int32} (hs : StM sh fR B)
    (H : inb (((nI 40) * a2) + (nI 9)) 880 ∧ ((((nI 3) * (f (B + 23) (((nI 40) * a2) + (nI 9)).toNatClampNeg)) ≤ a3 → Q none (sh, f, g, fR)) ∧ (¬ ((nI 3) * (f (B + 23) (((nI 40) * a2) + (nI 9)).toNatClampNeg)) ≤ a3 → inb (((nI 120) * a2) + a3) 2640 ∧ inb (((nI 120) * a1) + a3) 2640 ∧ LpX12_copies_213 l G d Q sh fR B (up2 f (B + 28) (((nI 120) * a1) + a3).toNatClampNeg (f (B + 28) (((nI 120) * a2) + a3).toNatClampNeg)) g a1 a2 (a3 + nI 1)))) :
    LpX12_copies_213 l G d Q sh fR B f g a1 a2 a3 := by
  refine S_iload_n (pc := 213) dX12_copies_213 rfl rfl ?_
  refine S_iconst (pc := 214) dX12_copies_214 ic3 ?_
  refine S_aload_n (pc := 215) dX12_copies_215 rfl rfl ?_
  refine S_iload_n (pc := 216) dX12_copies_216 rfl rfl ?_
  refine S_bipush (pc := 217) dX12_copies_217 bp9 ?_
  refine S_callV (As := [.int a2, .int (nI 9)]) (mc := 0) (ms := 0) (pc := 219) dX12_copies_219 miX12_n mvX12_n mlX12_402 rfl (sM_0 hs) rfl rfl rfl (RmOK.of rfl) (Q := fun r h => WP _ _ _ _ _ _ _ 222 [some (.ref B), some (.int a1), some (.int a2), some (.int a3)] (r.toList ++ [.int (nI 3), .int a3]) h) (Cl.of miX12_n rfl rfl ?_) (fun _ _ q => q)
  refine S_aload_n (pc := 0) dX12_n_0 rfl rfl ?_
  refine S_getR (pc := 1) dX12_n_1 flX12_144 (sM_0 hs) rfl (rM_43 hs) ?_
  refine S_bipush (pc := 4) dX12_n_4 bp40 ?_
  refine S_iload_n (pc := 6) dX12_n_6 rfl rfl ?_
  refine S_imul (pc := 7) dX12_n_7 ?_
  refine S_iload_n (pc := 8) dX12_n_8 rfl rfl ?_
  refine S_iadd (pc := 9) dX12_n_9 ?_
  obtain ⟨hb19, H⟩ := H
  refine S_iald (pc := 10) dX12_n_10 (sM_23 hs) hb19 ?_
  refine S_ireturn dX12_n_11 rfl ?_
  show WP _ _ _ _ _ _ _ 222 [some (.ref B), some (.int a1), some (.int a2), some (.int a3)] [.int (f (B + 23) (((nI 40) * a2) + (nI 9)).toNatClampNeg), .int (nI 3), .int a3] (sh, f, g, fR)
  refine S_imul (pc := 222) dX12_copies_222 ?_
  refine S_icmp_ge (pc := 223) (tgt := 254) dX12_copies_223 rfl (fun hc20 => ?_) (fun hc20 => ?_)
  · replace H := H.1 hc20
    exact S_vreturn dX12_copies_254 rfl H
  · replace H := H.2 hc20
    refine S_aload_n (pc := 226) dX12_copies_226 rfl rfl ?_
    refine S_getR (pc := 227) dX12_copies_227 flX12_161 (sM_0 hs) rfl (rM_48 hs) ?_
    refine S_bipush (pc := 230) dX12_copies_230 bp120 ?_
    refine S_iload_n (pc := 232) dX12_copies_232 rfl rfl ?_
    refine S_imul (pc := 233) dX12_copies_233 ?_
    refine S_iload_n (pc := 234) dX12_copies_234 rfl rfl ?_
    refine S_iadd (pc := 235) dX12_copies_235 ?_
    refine S_aload_n (pc := 236) dX12_copies_236 rfl rfl ?_
    refine S_getR (pc := 237) dX12_copies_237 flX12_161 (sM_0 hs) rfl (rM_48 hs) ?_
    refine S_bipush (pc := 240) dX12_copies_240 bp120 ?_
    refine S_iload_n (pc := 242) dX12_copies_242 rfl rfl ?_
    refine S_imul (pc := 243) dX12_copies_243 ?_
    refine S_iload_n (pc := 244) dX12_copies_244 rfl rfl ?_
    refine S_iadd (pc := 245) dX12_copies_245 ?_
    obtain ⟨hb21, H⟩ := H
    refine S_iald (pc := 246) dX12_copies_246 (sM_28 hs) hb21 ?_
    obtain ⟨hb22, H⟩ := H
    refine S_iast (pc := 247) dX12_copies_247 (sM_28 hs) (Nat.succ_pos _) hb22 ?_
    refine S_iinc (pc := 248) (v := nI 1) (L' := [some (.ref B), some (.int a1), some (.int a2), some (.int (a3 + nI 1))]) dX12_copies_248 rfl ic1 rfl ?_
    refine S_goto (pc := 251) (tgt := 213) dX12_copies_251 rfl ?_
    exact H
abbrev LpX12_begin_2 (l : Launch) (G : Gx) (d : Nat) (Q : Option Value → Hp → Prop) (sh : Sh) (fR : FRt) (B : Nat) (f : FI) (g : FL) (a1 : Int32) : Prop := WP l G (Zq G 0 0 Q) mX12_begin (rmd (d + 2) 0 0) 0 0 2 [some (.ref B), some (.int a1)] [] (sh, f, g, fR)
abbrev LpX12_begin_23 (l : Launch) (G : Gx) (d : Nat) (Q : Option Value → Hp → Prop) (sh : Sh) (fR : FRt) (B : Nat) (f : FI) (g : FL) (a1 : Int32) : Prop := WP l G (Zq G 0 0 Q) mX12_begin (rmd (d + 2) 0 0) 0 0 23 [some (.ref B), some (.int a1)] [] (sh, f, g, fR)
abbrev LpX12_begin_73 (l : Launch) (G : Gx) (d : Nat) (Q : Option Value → Hp → Prop) (sh : Sh) (fR : FRt) (B : Nat) (f : FI) (g : FL) (a1 : Int32) : Prop := WP l G (Zq G 0 0 Q) mX12_begin (rmd (d + 2) 0 0) 0 0 73 [some (.ref B), some (.int a1)] [] (sh, f, g, fR)
set_option maxHeartbeats 2000000 in
set_option maxRecDepth 4000 in
theorem VX12_begin {l : Launch} {G : Gx} {d : Nat} {Q : Option Value → Hp → Prop} {sh : Sh} {fR : FRt} {B : Nat} {f : FI} {g : FL}  (hs : StM sh fR B)
    (H : LpX12_begin_2 l G d Q sh fR B f g (nI 0)) :
    Cl l G (d + 2) 0 0 mX12_begin [.ref B] (sh, f, g, fR) Q := by
  refine Cl.of (L0 := [some (.ref B), none]) miX12_begin rfl rfl ?_
  refine S_iconst (pc := 0) dX12_begin_0 ic0 ?_
  refine S_istore_n (pc := 1) (L' := [some (.ref B), some (.int (nI 0))]) dX12_begin_1 rfl (by decide) rfl ?_
  exact H
set_option maxHeartbeats 2000000 in
set_option maxRecDepth 4000 in
theorem VX12_begin_2 {l : Launch} {G : Gx} {d : Nat} {Q : Option Value → Hp → Prop} {sh : Sh} {fR : FRt} {B : Nat} {f : FI} {g : FL} {a1 : Int32} (hs : StM sh fR B)
    (H : (((nI 40) ≤ a1 → LpX12_begin_23 l G d Q sh fR B f g (nI 0)) ∧ (¬ (nI 40) ≤ a1 → inb a1 880 ∧ LpX12_begin_2 l G d Q sh fR B (up2 f (B + 23) a1.toNatClampNeg (nI 0)) g (a1 + nI 1)))) :
    LpX12_begin_2 l G d Q sh fR B f g a1 := by
  refine S_iload_n (pc := 2) dX12_begin_2 rfl rfl ?_
  refine S_bipush (pc := 3) dX12_begin_3 bp40 ?_
  refine S_icmp_ge (pc := 5) (tgt := 21) dX12_begin_5 rfl (fun hc1 => ?_) (fun hc1 => ?_)
  · replace H := H.1 hc1
    refine S_iconst (pc := 21) dX12_begin_21 ic0 ?_
    refine S_istore_n (pc := 22) (L' := [some (.ref B), some (.int (nI 0))]) dX12_begin_22 rfl (by decide) rfl ?_
    exact H
  · replace H := H.2 hc1
    refine S_aload_n (pc := 8) dX12_begin_8 rfl rfl ?_
    refine S_getR (pc := 9) dX12_begin_9 flX12_144 (sM_0 hs) rfl (rM_43 hs) ?_
    refine S_iload_n (pc := 12) dX12_begin_12 rfl rfl ?_
    refine S_iconst (pc := 13) dX12_begin_13 ic0 ?_
    obtain ⟨hb2, H⟩ := H
    refine S_iast (pc := 14) dX12_begin_14 (sM_23 hs) (Nat.succ_pos _) hb2 ?_
    refine S_iinc (pc := 15) (v := nI 1) (L' := [some (.ref B), some (.int (a1 + nI 1))]) dX12_begin_15 rfl ic1 rfl ?_
    refine S_goto (pc := 18) (tgt := 2) dX12_begin_18 rfl ?_
    exact H
set_option maxHeartbeats 2000000 in
set_option maxRecDepth 4000 in
theorem VX12_begin_23 {l : Launch} {G : Gx} {d : Nat} {Q : Option Value → Hp → Prop} {sh : Sh} {fR : FRt} {B : Nat} {f : FI} {g : FL} {a1 : Int32} (hs : StM sh fR B)
    (H : (((nI 200) ≤ a1 → inb (f B 13) 2 ∧ inb (((nI 40) * (nI 0)) + (nI 3)) 880 ∧ inb (f B 13) 2 ∧ LpX12_begin_73 l G d Q sh fR B (up2 (up2 f (B + 23) (((nI 40) * (nI 0)) + (nI 3)).toNatClampNeg (f (B + 4) (f B 13).toNatClampNeg)) B 52 (f (B + 4) (f B 13).toNatClampNeg)) g (nI 0)) ∧ (¬ (nI 200) ≤ a1 → inb a1 4400 ∧ LpX12_begin_23 l G d Q sh fR B (up2 f (B + 27) a1.toNatClampNeg (nI 0)) g (a1 + nI 1)))) :
    LpX12_begin_23 l G d Q sh fR B f g a1 := by
  refine S_iload_n (pc := 23) dX12_begin_23 rfl rfl ?_
  refine S_sipush (pc := 24) dX12_begin_24 sp200 ?_
  refine S_icmp_ge (pc := 27) (tgt := 43) dX12_begin_27 rfl (fun hc3 => ?_) (fun hc3 => ?_)
  · replace H := H.1 hc3
    refine S_aload_n (pc := 43) dX12_begin_43 rfl rfl ?_
    refine S_iconst (pc := 44) dX12_begin_44 ic0 ?_
    refine S_iconst (pc := 45) dX12_begin_45 ic3 ?_
    refine S_aload_n (pc := 46) dX12_begin_46 rfl rfl ?_
    refine S_getR (pc := 47) dX12_begin_47 flX12_60 (sM_0 hs) rfl (rM_16 hs) ?_
    refine S_aload_n (pc := 50) dX12_begin_50 rfl rfl ?_
    refine S_get (pc := 51) (v := .int (f B 13)) dX12_begin_51 flX12_51 (sM_0 hs) rfl ?_
    obtain ⟨hb4, H⟩ := H
    refine S_iald (pc := 54) dX12_begin_54 (sM_4 hs) hb4 ?_
    refine S_callV (As := [.int (nI 0), .int (nI 3), .int (f (B + 4) (f B 13).toNatClampNeg)]) (mc := 0) (ms := 0) (pc := 55) dX12_begin_55 miX12_sets mvX12_sets mlX12_405 rfl (sM_0 hs) rfl rfl rfl (RmOK.of rfl) (Q := fun r h => WP _ _ _ _ _ _ _ 58 [some (.ref B), some (.int a1)] (r.toList ++ []) h) (Cl.of miX12_sets rfl rfl ?_) (fun _ _ q => q)
    refine S_aload_n (pc := 0) dX12_sets_0 rfl rfl ?_
    refine S_getR (pc := 1) dX12_sets_1 flX12_144 (sM_0 hs) rfl (rM_43 hs) ?_
    refine S_bipush (pc := 4) dX12_sets_4 bp40 ?_
    refine S_iload_n (pc := 6) dX12_sets_6 rfl rfl ?_
    refine S_imul (pc := 7) dX12_sets_7 ?_
    refine S_iload_n (pc := 8) dX12_sets_8 rfl rfl ?_
    refine S_iadd (pc := 9) dX12_sets_9 ?_
    refine S_iload_n (pc := 10) dX12_sets_10 rfl rfl ?_
    obtain ⟨hb5, H⟩ := H
    refine S_iast (pc := 11) dX12_sets_11 (sM_23 hs) (Nat.succ_pos _) hb5 ?_
    refine S_vreturn dX12_sets_12 rfl ?_
    show WP _ _ _ _ _ _ _ 58 [some (.ref B), some (.int a1)] [] (sh, (up2 f (B + 23) (((nI 40) * (nI 0)) + (nI 3)).toNatClampNeg (f (B + 4) (f B 13).toNatClampNeg)), g, fR)
    refine S_aload_n (pc := 58) dX12_begin_58 rfl rfl ?_
    refine S_aload_n (pc := 59) dX12_begin_59 rfl rfl ?_
    refine S_getR (pc := 60) dX12_begin_60 flX12_60 (sM_0 hs) rfl (rM_16 hs) ?_
    refine S_aload_n (pc := 63) dX12_begin_63 rfl rfl ?_
    refine S_get (pc := 64) (v := .int ((up2 f (B + 23) (((nI 40) * (nI 0)) + (nI 3)).toNatClampNeg (f (B + 4) (f B 13).toNatClampNeg)) B 13)) dX12_begin_64 flX12_51 (sM_0 hs) rfl ?_
    refine S_eqi (x := f B 13) ((up2_r (by omega)).trans rfl) ?_
    obtain ⟨hb6, H⟩ := H
    refine S_iald (pc := 67) dX12_begin_67 (sM_4 hs) hb6 ?_
    refine S_eqi (x := f (B + 4) (f B 13).toNatClampNeg) ((up2_r (by omega)).trans rfl) ?_
    refine S_putI (pc := 68) dX12_begin_68 flX12_173 (sM_0 hs) hs.2.2 (nf_12_52) rfl rfl (fun _ => rfl) ?_
    refine S_iconst (pc := 71) dX12_begin_71 ic0 ?_
    refine S_istore_n (pc := 72) (L' := [some (.ref B), some (.int (nI 0))]) dX12_begin_72 rfl (by decide) rfl ?_
    exact H
  · replace H := H.2 hc3
    refine S_aload_n (pc := 30) dX12_begin_30 rfl rfl ?_
    refine S_getR (pc := 31) dX12_begin_31 flX12_158 (sM_0 hs) rfl (rM_47 hs) ?_
    refine S_iload_n (pc := 34) dX12_begin_34 rfl rfl ?_
    refine S_iconst (pc := 35) dX12_begin_35 ic0 ?_
    obtain ⟨hb7, H⟩ := H
    refine S_iast (pc := 36) dX12_begin_36 (sM_27 hs) (Nat.succ_pos _) hb7 ?_
    refine S_iinc (pc := 37) (v := nI 1) (L' := [some (.ref B), some (.int (a1 + nI 1))]) dX12_begin_37 rfl ic1 rfl ?_
    refine S_goto (pc := 40) (tgt := 23) dX12_begin_40 rfl ?_
    exact H
set_option maxHeartbeats 2000000 in
set_option maxRecDepth 4000 in
theorem VX12_begin_73 {l : Launch} {G : Gx} {d : Nat} {Q : Option Value → Hp → Prop} {sh : Sh} {fR : FRt} {B : Nat} {f : FI} {g : FL} {a1 : Int32} (hs : StM sh fR B)
    (H : (((nI 4) ≤ a1 → inb (f B 13) 2 ∧ (((f (B + 6) (f B 13).toNatClampNeg) ≤ 0 → Q none (sh, (up2 (up2 f B 50 (nI 0)) B 64 (nI 0)), g, fR)) ∧ (¬ (f (B + 6) (f B 13).toNatClampNeg) ≤ 0 → inb (((((nI 40) * (nI 0)) + (nI 14)) + ((nI 6) * (nI 0))) + (nI 0)) 880 ∧ inb (((((nI 40) * (nI 0)) + (nI 14)) + ((nI 6) * (nI 0))) + (nI 2)) 880 ∧ Q none (sh, (up2 (up2 (up2 (up2 f (B + 23) (((((nI 40) * (nI 0)) + (nI 14)) + ((nI 6) * (nI 0))) + (nI 0)).toNatClampNeg (nI 1)) (B + 23) (((((nI 40) * (nI 0)) + (nI 14)) + ((nI 6) * (nI 0))) + (nI 2)).toNatClampNeg (nI 2000)) B 50 (nI 0)) B 64 (nI 0)), g, fR)))) ∧ (¬ (nI 4) ≤ a1 → inb (((nI 4) * (f B 13)) + a1) 8 ∧ inb a1 4 ∧ LpX12_begin_73 l G d Q sh fR B (up2 f (B + 29) a1.toNatClampNeg (f (B + 7) (((nI 4) * (f B 13)) + a1).toNatClampNeg)) g (a1 + nI 1)))) :
    LpX12_begin_73 l G d Q sh fR B f g a1 := by
  refine S_iload_n (pc := 73) dX12_begin_73 rfl rfl ?_
  refine S_iconst (pc := 74) dX12_begin_74 ic4 ?_
  refine S_icmp_ge (pc := 75) (tgt := 103) dX12_begin_75 rfl (fun hc8 => ?_) (fun hc8 => ?_)
  · replace H := H.1 hc8
    refine S_aload_n (pc := 103) dX12_begin_103 rfl rfl ?_
    refine S_getR (pc := 104) dX12_begin_104 flX12_66 (sM_0 hs) rfl (rM_18 hs) ?_
    refine S_aload_n (pc := 107) dX12_begin_107 rfl rfl ?_
    refine S_get (pc := 108) (v := .int (f B 13)) dX12_begin_108 flX12_51 (sM_0 hs) rfl ?_
    obtain ⟨hb9, H⟩ := H
    refine S_iald (pc := 111) dX12_begin_111 (sM_6 hs) hb9 ?_
    refine S_if_le (pc := 112) (tgt := 121) dX12_begin_112 rfl (fun hc10 => ?_) (fun hc10 => ?_)
    · replace H := H.1 hc10
      refine S_aload_n (pc := 121) dX12_begin_121 rfl rfl ?_
      refine S_iconst (pc := 122) dX12_begin_122 ic0 ?_
      refine S_putI (pc := 123) dX12_begin_123 flX12_167 (sM_0 hs) hs.2.2 (nf_12_50) rfl rfl (fun _ => rfl) ?_
      refine S_aload_n (pc := 126) dX12_begin_126 rfl rfl ?_
      refine S_iconst (pc := 127) dX12_begin_127 ic0 ?_
      refine S_putI (pc := 128) dX12_begin_128 flX12_209 (sM_0 hs) hs.2.2 (nf_12_64) rfl rfl (fun _ => rfl) ?_
      exact S_vreturn dX12_begin_131 rfl H
    · replace H := H.2 hc10
      refine S_aload_n (pc := 115) dX12_begin_115 rfl rfl ?_
      refine S_iconst (pc := 116) dX12_begin_116 ic0 ?_
      refine S_iconst (pc := 117) dX12_begin_117 ic0 ?_
      refine S_callV (As := [.int (nI 0), .int (nI 0)]) (mc := 0) (ms := 0) (pc := 118) dX12_begin_118 miX12_enters mvX12_enters mlX12_409 rfl (sM_0 hs) rfl rfl rfl (RmOK.of rfl) (Q := fun r h => WP _ _ _ _ _ _ _ 121 [some (.ref B), some (.int a1)] (r.toList ++ []) h) (Cl.of miX12_enters rfl rfl ?_) (fun _ _ q => q)
      refine S_aload_n (pc := 0) dX12_enters_0 rfl rfl ?_
      refine S_iload_n (pc := 1) dX12_enters_1 rfl rfl ?_
      refine S_iload_n (pc := 2) dX12_enters_2 rfl rfl ?_
      refine S_iconst (pc := 3) dX12_enters_3 ic0 ?_
      refine S_iconst (pc := 4) dX12_enters_4 ic1 ?_
      refine S_callV (As := [.int (nI 0), .int (nI 0), .int (nI 0), .int (nI 1)]) (mc := 0) (ms := 0) (pc := 5) dX12_enters_5 miX12_setsPath mvX12_setsPath mlX12_412 rfl (sM_0 hs) rfl rfl rfl (RmOK.of rfl) (Q := fun r h => WP _ _ _ _ _ _ _ 8 [some (.ref B), some (.int (nI 0)), some (.int (nI 0))] (r.toList ++ []) h) (Cl.of miX12_setsPath rfl rfl ?_) (fun _ _ q => q)
      refine S_aload_n (pc := 0) dX12_setsPath_0 rfl rfl ?_
      refine S_getR (pc := 1) dX12_setsPath_1 flX12_144 (sM_0 hs) rfl (rM_43 hs) ?_
      refine S_bipush (pc := 4) dX12_setsPath_4 bp40 ?_
      refine S_iload_n (pc := 6) dX12_setsPath_6 rfl rfl ?_
      refine S_imul (pc := 7) dX12_setsPath_7 ?_
      refine S_bipush (pc := 8) dX12_setsPath_8 bp14 ?_
      refine S_iadd (pc := 10) dX12_setsPath_10 ?_
      refine S_bipush (pc := 11) dX12_setsPath_11 bp6 ?_
      refine S_iload_n (pc := 13) dX12_setsPath_13 rfl rfl ?_
      refine S_imul (pc := 14) dX12_setsPath_14 ?_
      refine S_iadd (pc := 15) dX12_setsPath_15 ?_
      refine S_iload_n (pc := 16) dX12_setsPath_16 rfl rfl ?_
      refine S_iadd (pc := 17) dX12_setsPath_17 ?_
      refine S_iload (pc := 18) dX12_setsPath_18 rfl ?_
      obtain ⟨hb11, H⟩ := H
      refine S_iast (pc := 20) dX12_setsPath_20 (sM_23 hs) (Nat.succ_pos _) hb11 ?_
      refine S_vreturn dX12_setsPath_21 rfl ?_
      show WP _ _ _ _ _ _ _ 8 [some (.ref B), some (.int (nI 0)), some (.int (nI 0))] [] (sh, (up2 f (B + 23) (((((nI 40) * (nI 0)) + (nI 14)) + ((nI 6) * (nI 0))) + (nI 0)).toNatClampNeg (nI 1)), g, fR)
      refine S_aload_n (pc := 8) dX12_enters_8 rfl rfl ?_
      refine S_iload_n (pc := 9) dX12_enters_9 rfl rfl ?_
      refine S_iload_n (pc := 10) dX12_enters_10 rfl rfl ?_
      refine S_iconst (pc := 11) dX12_enters_11 ic2 ?_
      refine S_sipush (pc := 12) dX12_enters_12 sp2000 ?_
      refine S_callV (As := [.int (nI 0), .int (nI 0), .int (nI 2), .int (nI 2000)]) (mc := 0) (ms := 0) (pc := 15) dX12_enters_15 miX12_setsPath mvX12_setsPath mlX12_412 rfl (sM_0 hs) rfl rfl rfl (RmOK.of rfl) (Q := fun r h => WP _ _ _ _ _ _ _ 18 [some (.ref B), some (.int (nI 0)), some (.int (nI 0))] (r.toList ++ []) h) (Cl.of miX12_setsPath rfl rfl ?_) (fun _ _ q => q)
      refine S_aload_n (pc := 0) dX12_setsPath_0 rfl rfl ?_
      refine S_getR (pc := 1) dX12_setsPath_1 flX12_144 (sM_0 hs) rfl (rM_43 hs) ?_
      refine S_bipush (pc := 4) dX12_setsPath_4 bp40 ?_
      refine S_iload_n (pc := 6) dX12_setsPath_6 rfl rfl ?_
      refine S_imul (pc := 7) dX12_setsPath_7 ?_
      refine S_bipush (pc := 8) dX12_setsPath_8 bp14 ?_
      refine S_iadd (pc := 10) dX12_setsPath_10 ?_
      refine S_bipush (pc := 11) dX12_setsPath_11 bp6 ?_
      refine S_iload_n (pc := 13) dX12_setsPath_13 rfl rfl ?_
      refine S_imul (pc := 14) dX12_setsPath_14 ?_
      refine S_iadd (pc := 15) dX12_setsPath_15 ?_
      refine S_iload_n (pc := 16) dX12_setsPath_16 rfl rfl ?_
      refine S_iadd (pc := 17) dX12_setsPath_17 ?_
      refine S_iload (pc := 18) dX12_setsPath_18 rfl ?_
      obtain ⟨hb12, H⟩ := H
      refine S_iast (pc := 20) dX12_setsPath_20 (sM_23 hs) (Nat.succ_pos _) hb12 ?_
      refine S_vreturn dX12_setsPath_21 rfl ?_
      show WP _ _ _ _ _ _ _ 18 [some (.ref B), some (.int (nI 0)), some (.int (nI 0))] [] (sh, (up2 (up2 f (B + 23) (((((nI 40) * (nI 0)) + (nI 14)) + ((nI 6) * (nI 0))) + (nI 0)).toNatClampNeg (nI 1)) (B + 23) (((((nI 40) * (nI 0)) + (nI 14)) + ((nI 6) * (nI 0))) + (nI 2)).toNatClampNeg (nI 2000)), g, fR)
      refine S_vreturn dX12_enters_18 rfl ?_
      show WP _ _ _ _ _ _ _ 121 [some (.ref B), some (.int a1)] [] (sh, (up2 (up2 f (B + 23) (((((nI 40) * (nI 0)) + (nI 14)) + ((nI 6) * (nI 0))) + (nI 0)).toNatClampNeg (nI 1)) (B + 23) (((((nI 40) * (nI 0)) + (nI 14)) + ((nI 6) * (nI 0))) + (nI 2)).toNatClampNeg (nI 2000)), g, fR)
      refine S_aload_n (pc := 121) dX12_begin_121 rfl rfl ?_
      refine S_iconst (pc := 122) dX12_begin_122 ic0 ?_
      refine S_putI (pc := 123) dX12_begin_123 flX12_167 (sM_0 hs) hs.2.2 (nf_12_50) rfl rfl (fun _ => rfl) ?_
      refine S_aload_n (pc := 126) dX12_begin_126 rfl rfl ?_
      refine S_iconst (pc := 127) dX12_begin_127 ic0 ?_
      refine S_putI (pc := 128) dX12_begin_128 flX12_209 (sM_0 hs) hs.2.2 (nf_12_64) rfl rfl (fun _ => rfl) ?_
      exact S_vreturn dX12_begin_131 rfl H
  · replace H := H.2 hc8
    refine S_aload_n (pc := 78) dX12_begin_78 rfl rfl ?_
    refine S_getR (pc := 79) dX12_begin_79 flX12_176 (sM_0 hs) rfl (rM_53 hs) ?_
    refine S_iload_n (pc := 82) dX12_begin_82 rfl rfl ?_
    refine S_aload_n (pc := 83) dX12_begin_83 rfl rfl ?_
    refine S_getR (pc := 84) dX12_begin_84 flX12_69 (sM_0 hs) rfl (rM_19 hs) ?_
    refine S_iconst (pc := 87) dX12_begin_87 ic4 ?_
    refine S_aload_n (pc := 88) dX12_begin_88 rfl rfl ?_
    refine S_get (pc := 89) (v := .int (f B 13)) dX12_begin_89 flX12_51 (sM_0 hs) rfl ?_
    refine S_imul (pc := 92) dX12_begin_92 ?_
    refine S_iload_n (pc := 93) dX12_begin_93 rfl rfl ?_
    refine S_iadd (pc := 94) dX12_begin_94 ?_
    obtain ⟨hb13, H⟩ := H
    refine S_iald (pc := 95) dX12_begin_95 (sM_7 hs) hb13 ?_
    obtain ⟨hb14, H⟩ := H
    refine S_iast (pc := 96) dX12_begin_96 (sM_29 hs) (Nat.succ_pos _) hb14 ?_
    refine S_iinc (pc := 97) (v := nI 1) (L' := [some (.ref B), some (.int (a1 + nI 1))]) dX12_begin_97 rfl ic1 rfl ?_
    refine S_goto (pc := 100) (tgt := 73) dX12_begin_100 rfl ?_
    exact H
abbrev LpX12_keeps_32 (l : Launch) (G : Gx) (d : Nat) (Q : Option Value → Hp → Prop) (sh : Sh) (fR : FRt) (B : Nat) (f : FI) (g : FL)  : Prop := WP l G (Zq G 0 0 Q) mX12_keeps (rmd (d + 2) 0 0) 0 0 32 [some (.ref B)] [] (sh, f, g, fR)
set_option maxHeartbeats 2000000 in
set_option maxRecDepth 4000 in
theorem VX12_keeps {l : Launch} {G : Gx} {d : Nat} {Q : Option Value → Hp → Prop} {sh : Sh} {fR : FRt} {B : Nat} {f : FI} {g : FL}  (hs : StM sh fR B)
    (H : ((¬ (f B 50) = (nI 20) → LpX12_keeps_32 l G d Q sh fR B f g) ∧ ((f B 50) = (nI 20) → LpX12_keeps_32 l G d Q sh fR B (up2 (up2 f B 49 (((f B 49) + (nI 1)) - ((f B 49) + (nI 1)) / (nI 20) * (nI 20))) B 50 ((f B 50) - (nI 1))) g))) :
    Cl l G (d + 2) 0 0 mX12_keeps [.ref B] (sh, f, g, fR) Q := by
  refine Cl.of (L0 := [some (.ref B)]) miX12_keeps rfl rfl ?_
  refine S_aload_n (pc := 0) dX12_keeps_0 rfl rfl ?_
  refine S_get (pc := 1) (v := .int (f B 50)) dX12_keeps_1 flX12_167 (sM_0 hs) rfl ?_
  refine S_bipush (pc := 4) dX12_keeps_4 bp20 ?_
  refine S_icmp_ne (pc := 6) (tgt := 32) dX12_keeps_6 rfl (fun hc1 => ?_) (fun hc1 => ?_)
  · replace H := H.1 hc1
    exact H
  · replace H := H.2 hc1
    refine S_aload_n (pc := 9) dX12_keeps_9 rfl rfl ?_
    refine S_aload_n (pc := 10) dX12_keeps_10 rfl rfl ?_
    refine S_get (pc := 11) (v := .int (f B 49)) dX12_keeps_11 flX12_164 (sM_0 hs) rfl ?_
    refine S_iconst (pc := 14) dX12_keeps_14 ic1 ?_
    refine S_iadd (pc := 15) dX12_keeps_15 ?_
    refine S_bipush (pc := 16) dX12_keeps_16 bp20 ?_
    refine S_irem (pc := 18) dX12_keeps_18 (by decide) ?_
    refine S_putI (pc := 19) dX12_keeps_19 flX12_164 (sM_0 hs) hs.2.2 (nf_12_49) rfl rfl (fun _ => rfl) ?_
    refine S_aload_n (pc := 22) dX12_keeps_22 rfl rfl ?_
    refine S_dup (pc := 23) dX12_keeps_23 rfl ?_
    refine S_get (pc := 24) (v := .int ((up2 f B 49 (((f B 49) + (nI 1)) - ((f B 49) + (nI 1)) / (nI 20) * (nI 20))) B 50)) dX12_keeps_24 flX12_167 (sM_0 hs) rfl ?_
    refine S_eqi (x := f B 50) ((up2_k (by decide)).trans rfl) ?_
    refine S_iconst (pc := 27) dX12_keeps_27 ic1 ?_
    refine S_isub (pc := 28) dX12_keeps_28 ?_
    refine S_putI (pc := 29) dX12_keeps_29 flX12_167 (sM_0 hs) hs.2.2 (nf_12_50) rfl rfl (fun _ => rfl) ?_
    exact H
set_option maxHeartbeats 2000000 in
set_option maxRecDepth 4000 in
theorem VX12_keeps_32 {l : Launch} {G : Gx} {d : Nat} {Q : Option Value → Hp → Prop} {sh : Sh} {fR : FRt} {B : Nat} {f : FI} {g : FL}  (hs : StM sh fR B)
    (H : Cl l G (d + 1) 0 0 mX12_copies [.ref B, .int ((nI 2) + (((f B 49) + (f B 50)) - ((f B 49) + (f B 50)) / (nI 20) * (nI 20))), .int (nI 0)] (sh, f, g, fR) (qv sh fR fun f2 g3 => Q none (sh, (up2 f2 B 50 ((f2 B 50) + (nI 1))), g3, fR))) :
    LpX12_keeps_32 l G d Q sh fR B f g  := by
  refine S_aload_n (pc := 32) dX12_keeps_32 rfl rfl ?_
  refine S_aload_n (pc := 33) dX12_keeps_33 rfl rfl ?_
  refine S_aload_n (pc := 34) dX12_keeps_34 rfl rfl ?_
  refine S_get (pc := 35) (v := .int (f B 50)) dX12_keeps_35 flX12_167 (sM_0 hs) rfl ?_
  refine S_callV (As := [.int (f B 50)]) (mc := 0) (ms := 0) (pc := 38) dX12_keeps_38 miX12_slot mvX12_slot mlX12_416 rfl (sM_0 hs) rfl rfl rfl (RmOK.of rfl) (Q := fun r h => WP _ _ _ _ _ _ _ 41 [some (.ref B)] (r.toList ++ [.ref B]) h) (Cl.of miX12_slot rfl rfl ?_) (fun _ _ q => q)
  refine S_iconst (pc := 0) dX12_slot_0 ic2 ?_
  refine S_aload_n (pc := 1) dX12_slot_1 rfl rfl ?_
  refine S_get (pc := 2) (v := .int (f B 49)) dX12_slot_2 flX12_164 (sM_0 hs) rfl ?_
  refine S_iload_n (pc := 5) dX12_slot_5 rfl rfl ?_
  refine S_iadd (pc := 6) dX12_slot_6 ?_
  refine S_bipush (pc := 7) dX12_slot_7 bp20 ?_
  refine S_irem (pc := 9) dX12_slot_9 (by decide) ?_
  refine S_iadd (pc := 10) dX12_slot_10 ?_
  refine S_ireturn dX12_slot_11 rfl ?_
  show WP _ _ _ _ _ _ _ 41 [some (.ref B)] [.int ((nI 2) + (((f B 49) + (f B 50)) - ((f B 49) + (f B 50)) / (nI 20) * (nI 20))), .ref B] (sh, f, g, fR)
  refine S_iconst (pc := 41) dX12_keeps_41 ic0 ?_
  refine S_callV (As := [.int ((nI 2) + (((f B 49) + (f B 50)) - ((f B 49) + (f B 50)) / (nI 20) * (nI 20))), .int (nI 0)]) (mc := 0) (ms := 0) (pc := 42) dX12_keeps_42 miX12_copies mvX12_copies mlX12_419 rfl (sM_0 hs) rfl rfl rfl (RmOK.of rfl) H ?_
  rintro _ _ ⟨f2, g3, rfl, rfl, H⟩
  show WP _ _ _ _ _ _ _ 45 [some (.ref B)] [] (sh, f2, g3, fR)
  refine S_aload_n (pc := 45) dX12_keeps_45 rfl rfl ?_
  refine S_dup (pc := 46) dX12_keeps_46 rfl ?_
  refine S_get (pc := 47) (v := .int (f2 B 50)) dX12_keeps_47 flX12_167 (sM_0 hs) rfl ?_
  refine S_iconst (pc := 50) dX12_keeps_50 ic1 ?_
  refine S_iadd (pc := 51) dX12_keeps_51 ?_
  refine S_putI (pc := 52) dX12_keeps_52 flX12_167 (sM_0 hs) hs.2.2 (nf_12_50) rfl rfl (fun _ => rfl) ?_
  exact S_vreturn dX12_keeps_55 rfl H
set_option maxHeartbeats 2000000 in
set_option maxRecDepth 4000 in
theorem VX12_undo {l : Launch} {G : Gx} {d : Nat} {Q : Option Value → Hp → Prop} {sh : Sh} {fR : FRt} {B : Nat} {f : FI} {g : FL}  (hs : StM sh fR B)
    (H : ((¬ (f B 50) = 0 → Cl l G (d + 1) 0 0 mX12_copies [.ref B, .int (nI 0), .int ((nI 2) + (((f B 49) + ((f B 50) - (nI 1))) - ((f B 49) + ((f B 50) - (nI 1))) / (nI 20) * (nI 20)))] (sh, (up2 f B 50 ((f B 50) - (nI 1))), g, fR) (qv sh fR fun f2 g3 => Q (some (.int (nI 1))) (sh, f2, g3, fR))) ∧ ((f B 50) = 0 → Q (some (.int (nI 0))) (sh, (up2 f (B + 22) 4 ((f (B + 22) 4) + (nI 1))), g, fR)))) :
    Cl l G (d + 2) 0 0 mX12_undo [.ref B] (sh, f, g, fR) Q := by
  refine Cl.of (L0 := [some (.ref B)]) miX12_undo rfl rfl ?_
  refine S_aload_n (pc := 0) dX12_undo_0 rfl rfl ?_
  refine S_get (pc := 1) (v := .int (f B 50)) dX12_undo_1 flX12_167 (sM_0 hs) rfl ?_
  refine S_if_ne (pc := 4) (tgt := 21) dX12_undo_4 rfl (fun hc1 => ?_) (fun hc1 => ?_)
  · replace H := H.1 hc1
    refine S_aload_n (pc := 21) dX12_undo_21 rfl rfl ?_
    refine S_dup (pc := 22) dX12_undo_22 rfl ?_
    refine S_get (pc := 23) (v := .int (f B 50)) dX12_undo_23 flX12_167 (sM_0 hs) rfl ?_
    refine S_iconst (pc := 26) dX12_undo_26 ic1 ?_
    refine S_isub (pc := 27) dX12_undo_27 ?_
    refine S_putI (pc := 28) dX12_undo_28 flX12_167 (sM_0 hs) hs.2.2 (nf_12_50) rfl rfl (fun _ => rfl) ?_
    refine S_aload_n (pc := 31) dX12_undo_31 rfl rfl ?_
    refine S_iconst (pc := 32) dX12_undo_32 ic0 ?_
    refine S_aload_n (pc := 33) dX12_undo_33 rfl rfl ?_
    refine S_aload_n (pc := 34) dX12_undo_34 rfl rfl ?_
    refine S_get (pc := 35) (v := .int ((up2 f B 50 ((f B 50) - (nI 1))) B 50)) dX12_undo_35 flX12_167 (sM_0 hs) rfl ?_
    refine S_eqi (x := (f B 50) - (nI 1)) up2_eq ?_
    refine S_callV (As := [.int ((f B 50) - (nI 1))]) (mc := 0) (ms := 0) (pc := 38) dX12_undo_38 miX12_slot mvX12_slot mlX12_416 rfl (sM_0 hs) rfl rfl rfl (RmOK.of rfl) (Q := fun r h => WP _ _ _ _ _ _ _ 41 [some (.ref B)] (r.toList ++ [.int (nI 0), .ref B]) h) (Cl.of miX12_slot rfl rfl ?_) (fun _ _ q => q)
    refine S_iconst (pc := 0) dX12_slot_0 ic2 ?_
    refine S_aload_n (pc := 1) dX12_slot_1 rfl rfl ?_
    refine S_get (pc := 2) (v := .int ((up2 f B 50 ((f B 50) - (nI 1))) B 49)) dX12_slot_2 flX12_164 (sM_0 hs) rfl ?_
    refine S_eqi (x := f B 49) ((up2_k (by decide)).trans rfl) ?_
    refine S_iload_n (pc := 5) dX12_slot_5 rfl rfl ?_
    refine S_iadd (pc := 6) dX12_slot_6 ?_
    refine S_bipush (pc := 7) dX12_slot_7 bp20 ?_
    refine S_irem (pc := 9) dX12_slot_9 (by decide) ?_
    refine S_iadd (pc := 10) dX12_slot_10 ?_
    refine S_ireturn dX12_slot_11 rfl ?_
    show WP _ _ _ _ _ _ _ 41 [some (.ref B)] [.int ((nI 2) + (((f B 49) + ((f B 50) - (nI 1))) - ((f B 49) + ((f B 50) - (nI 1))) / (nI 20) * (nI 20))), .int (nI 0), .ref B] (sh, (up2 f B 50 ((f B 50) - (nI 1))), g, fR)
    refine S_callV (As := [.int (nI 0), .int ((nI 2) + (((f B 49) + ((f B 50) - (nI 1))) - ((f B 49) + ((f B 50) - (nI 1))) / (nI 20) * (nI 20)))]) (mc := 0) (ms := 0) (pc := 41) dX12_undo_41 miX12_copies mvX12_copies mlX12_419 rfl (sM_0 hs) rfl rfl rfl (RmOK.of rfl) H ?_
    rintro _ _ ⟨f2, g3, rfl, rfl, H⟩
    show WP _ _ _ _ _ _ _ 44 [some (.ref B)] [] (sh, f2, g3, fR)
    refine S_iconst (pc := 44) dX12_undo_44 ic1 ?_
    exact S_zreturn dX12_undo_45 rfl (Or.inr rfl) H
  · replace H := H.2 hc1
    refine S_aload_n (pc := 7) dX12_undo_7 rfl rfl ?_
    refine S_iconst (pc := 8) dX12_undo_8 ic4 ?_
    refine S_callV (As := [.int (nI 4)]) (mc := 0) (ms := 0) (pc := 9) dX12_undo_9 miX12_refuses mvX12_refuses mlX12_224 rfl (sM_0 hs) rfl rfl rfl (RmOK.of rfl) (Q := fun r h => WP _ _ _ _ _ _ _ 12 [some (.ref B)] (r.toList ++ []) h) (Cl.of miX12_refuses rfl rfl ?_) (fun _ _ q => q)
    refine S_aload_n (pc := 0) dX12_refuses_0 rfl rfl ?_
    refine S_getR (pc := 1) dX12_refuses_1 flX12_141 (sM_0 hs) rfl (rM_42 hs) ?_
    refine S_iload_n (pc := 4) dX12_refuses_4 rfl rfl ?_
    refine S_dup2 (pc := 5) dX12_refuses_5 rfl rfl ?_
    refine S_iald (pc := 6) dX12_refuses_6 (sM_22 hs) (vp_in_nI (by decide) (by decide)) ?_
    show WP _ _ _ _ _ _ _ 7 _ (.int (f (B + 22) 4) :: _) _
    refine S_iconst (pc := 7) dX12_refuses_7 ic1 ?_
    refine S_iadd (pc := 8) dX12_refuses_8 ?_
    refine S_iast (pc := 9) dX12_refuses_9 (sM_22 hs) (Nat.succ_pos _) (vp_in_nI (by decide) (by decide)) ?_
    show WP _ _ _ _ _ _ _ 10 _ _ (sh, (up2 f (B + 22) 4 ((f (B + 22) 4) + (nI 1))), g, fR)
    refine S_iconst (pc := 10) dX12_refuses_10 icm1 ?_
    refine S_ireturn dX12_refuses_11 rfl ?_
    show WP _ _ _ _ _ _ _ 12 [some (.ref B)] [.int (-1)] (sh, (up2 f (B + 22) 4 ((f (B + 22) 4) + (nI 1))), g, fR)
    refine S_if_lt (pc := 12) (tgt := 19) dX12_undo_12 rfl (fun _ => ?_) (fun hc4 => by first | exact absurd (by decide) hc4 | exact absurd hc4 (by decide))
    refine S_iconst (pc := 19) dX12_undo_19 ic0 ?_
    exact S_zreturn dX12_undo_20 rfl (Or.inl rfl) H
set_option maxHeartbeats 2000000 in
set_option maxRecDepth 4000 in
theorem VX12_within {l : Launch} {G : Gx} {d : Nat} {Q : Option Value → Hp → Prop} {sh : Sh} {fR : FRt} {B : Nat} {f : FI} {g : FL} {b0 : Int64} (hs : StM sh fR B)
    (H : ((b0 ≤ (lN 1000000) → (((-1000000) ≤ b0 → Q (some (.long b0)) (sh, f, g, fR)) ∧ (¬ (-1000000) ≤ b0 → Q (some (.long (-1000000))) (sh, f, g, fR)))) ∧ (¬ b0 ≤ (lN 1000000) → Q (some (.long (lN 1000000))) (sh, f, g, fR)))) :
    Cl l G d 0 0 mX12_within [.long b0] (sh, f, g, fR) Q := by
  refine Cl.of (L0 := [some (.long b0), none]) miX12_within rfl rfl ?_
  refine S_lload_n (pc := 0) dX12_within_0 rfl rfl ?_
  refine S_ldc2 (pc := 1) (v := lN 1000000) dX12_within_1 (gw 1673 rfl rfl) ?_
  refine S_lcmp_le (pc := 4) (tgt := 14) dX12_within_4 dX12_within_5 rfl (fun hc1 => ?_) (fun hc1 => ?_)
  · replace H := H.1 hc1
    refine S_lload_n (pc := 14) dX12_within_14 rfl rfl ?_
    refine S_ldc2 (pc := 15) (v := (-1000000)) dX12_within_15 (gw 1674 rfl rfl) ?_
    refine S_lcmp_ge (pc := 18) (tgt := 28) dX12_within_18 dX12_within_19 rfl (fun hc2 => ?_) (fun hc2 => ?_)
    · replace H := H.1 hc2
      refine S_lload_n (pc := 28) dX12_within_28 rfl rfl ?_
      exact S_lreturn dX12_within_29 rfl H
    · replace H := H.2 hc2
      refine S_ldc2 (pc := 22) (v := (-1000000)) dX12_within_22 (gw 1674 rfl rfl) ?_
      refine S_goto (pc := 25) (tgt := 29) dX12_within_25 rfl ?_
      exact S_lreturn dX12_within_29 rfl H
  · replace H := H.2 hc1
    refine S_ldc2 (pc := 8) (v := lN 1000000) dX12_within_8 (gw 1673 rfl rfl) ?_
    refine S_goto (pc := 11) (tgt := 29) dX12_within_11 rfl ?_
    exact S_lreturn dX12_within_29 rfl H
set_option maxHeartbeats 2000000 in
set_option maxRecDepth 4000 in
theorem VX12_floor {l : Launch} {G : Gx} {d : Nat} {Q : Option Value → Hp → Prop} {sh : Sh} {fR : FRt} {B : Nat} {f : FI} {g : FL} {b0 : Int64} {b2 : Int64} (hs : StM sh fR B)
    (H : ((¬ b2 = (lN 0) → ¬ b2 = 0 ∧ (∀ z3 : Int64, z3 = b0 / b2 → ¬ b2 = 0 ∧ (((b0 - b0 / b2 * b2) = (lN 0) → Q (some (.long z3)) (sh, f, g, fR)) ∧ (¬ (b0 - b0 / b2 * b2) = (lN 0) → (((lN 0) ≤ b0 → (((lN 0) ≤ b2 → Q (some (.long z3)) (sh, f, g, fR)) ∧ (¬ (lN 0) ≤ b2 → Q (some (.long (z3 - (lN 1)))) (sh, f, g, fR)))) ∧ (¬ (lN 0) ≤ b0 → (((lN 0) ≤ b2 → Q (some (.long (z3 - (lN 1)))) (sh, f, g, fR)) ∧ (¬ (lN 0) ≤ b2 → Q (some (.long z3)) (sh, f, g, fR))))))))) ∧ (b2 = (lN 0) → Q (some (.long (lN 0))) (sh, f, g, fR)))) :
    Cl l G d 0 0 mX12_floor [.long b0, .long b2] (sh, f, g, fR) Q := by
  refine Cl.of (L0 := [some (.long b0), none, some (.long b2), none, none, none]) miX12_floor rfl rfl ?_
  refine S_lload_n (pc := 0) dX12_floor_0 rfl rfl ?_
  refine S_lconst (pc := 1) dX12_floor_1 lc0 ?_
  refine S_lcmp_ne (pc := 2) (tgt := 8) dX12_floor_2 dX12_floor_3 rfl (fun hc1 => ?_) (fun hc1 => ?_)
  · replace H := H.1 hc1
    refine S_lload_n (pc := 8) dX12_floor_8 rfl rfl ?_
    refine S_lload_n (pc := 9) dX12_floor_9 rfl rfl ?_
    obtain ⟨hc2, H⟩ := H
    refine S_ldiv (pc := 10) dX12_floor_10 hc2 ?_
    refine S_namel (fun z3 e4 => ?_)
    replace H := H z3 e4
    refine S_lstore (pc := 11) (L' := [some (.long b0), none, some (.long b2), none, some (.long z3), none]) dX12_floor_11 (by decide) rfl ?_
    refine S_lload_n (pc := 13) dX12_floor_13 rfl rfl ?_
    refine S_lload_n (pc := 14) dX12_floor_14 rfl rfl ?_
    obtain ⟨hc5, H⟩ := H
    refine S_lrem (pc := 15) dX12_floor_15 hc5 ?_
    refine S_lconst (pc := 16) dX12_floor_16 lc0 ?_
    refine S_lcmp_eq (pc := 17) (tgt := 53) dX12_floor_17 dX12_floor_18 rfl (fun hc6 => ?_) (fun hc6 => ?_)
    · replace H := H.1 hc6
      refine S_lload (pc := 53) dX12_floor_53 rfl ?_
      exact S_lreturn dX12_floor_55 rfl H
    · replace H := H.2 hc6
      refine S_lload_n (pc := 21) dX12_floor_21 rfl rfl ?_
      refine S_lconst (pc := 22) dX12_floor_22 lc0 ?_
      refine S_lcmp_ge (pc := 23) (tgt := 31) dX12_floor_23 dX12_floor_24 rfl (fun hc7 => ?_) (fun hc7 => ?_)
      · replace H := H.1 hc7
        refine S_iconst (pc := 31) dX12_floor_31 ic0 ?_
        refine S_lload_n (pc := 32) dX12_floor_32 rfl rfl ?_
        refine S_lconst (pc := 33) dX12_floor_33 lc0 ?_
        refine S_lcmp_ge (pc := 34) (tgt := 42) dX12_floor_34 dX12_floor_35 rfl (fun hc8 => ?_) (fun hc8 => ?_)
        · replace H := H.1 hc8
          refine S_iconst (pc := 42) dX12_floor_42 ic0 ?_
          refine S_icmp_eq (pc := 43) (tgt := 53) dX12_floor_43 rfl (fun _ => ?_) (fun hc9 => by first | exact absurd (by decide) hc9 | exact absurd hc9 (by decide))
          refine S_lload (pc := 53) dX12_floor_53 rfl ?_
          exact S_lreturn dX12_floor_55 rfl H
        · replace H := H.2 hc8
          refine S_iconst (pc := 38) dX12_floor_38 ic1 ?_
          refine S_goto (pc := 39) (tgt := 43) dX12_floor_39 rfl ?_
          refine S_icmp_eq (pc := 43) (tgt := 53) dX12_floor_43 rfl (fun hc10 => by first | exact absurd hc10 (by decide) | exact absurd (by decide) hc10) (fun _ => ?_)
          refine S_lload (pc := 46) dX12_floor_46 rfl ?_
          refine S_lconst (pc := 48) dX12_floor_48 lc1 ?_
          refine S_lsub (pc := 49) dX12_floor_49 ?_
          refine S_goto (pc := 50) (tgt := 55) dX12_floor_50 rfl ?_
          exact S_lreturn dX12_floor_55 rfl H
      · replace H := H.2 hc7
        refine S_iconst (pc := 27) dX12_floor_27 ic1 ?_
        refine S_goto (pc := 28) (tgt := 32) dX12_floor_28 rfl ?_
        refine S_lload_n (pc := 32) dX12_floor_32 rfl rfl ?_
        refine S_lconst (pc := 33) dX12_floor_33 lc0 ?_
        refine S_lcmp_ge (pc := 34) (tgt := 42) dX12_floor_34 dX12_floor_35 rfl (fun hc11 => ?_) (fun hc11 => ?_)
        · replace H := H.1 hc11
          refine S_iconst (pc := 42) dX12_floor_42 ic0 ?_
          refine S_icmp_eq (pc := 43) (tgt := 53) dX12_floor_43 rfl (fun hc12 => by first | exact absurd hc12 (by decide) | exact absurd (by decide) hc12) (fun _ => ?_)
          refine S_lload (pc := 46) dX12_floor_46 rfl ?_
          refine S_lconst (pc := 48) dX12_floor_48 lc1 ?_
          refine S_lsub (pc := 49) dX12_floor_49 ?_
          refine S_goto (pc := 50) (tgt := 55) dX12_floor_50 rfl ?_
          exact S_lreturn dX12_floor_55 rfl H
        · replace H := H.2 hc11
          refine S_iconst (pc := 38) dX12_floor_38 ic1 ?_
          refine S_goto (pc := 39) (tgt := 43) dX12_floor_39 rfl ?_
          refine S_icmp_eq (pc := 43) (tgt := 53) dX12_floor_43 rfl (fun _ => ?_) (fun hc13 => by first | exact absurd (by decide) hc13 | exact absurd hc13 (by decide))
          refine S_lload (pc := 53) dX12_floor_53 rfl ?_
          exact S_lreturn dX12_floor_55 rfl H
  · replace H := H.2 hc1
    refine S_lconst (pc := 6) dX12_floor_6 lc0 ?_
    exact S_lreturn dX12_floor_7 rfl H
set_option maxHeartbeats 2000000 in
set_option maxRecDepth 4000 in
theorem VX12_two {l : Launch} {G : Gx} {d : Nat} {Q : Option Value → Hp → Prop} {sh : Sh} {fR : FRt} {B : Nat} {f : FI} {g : FL} {a0 : Int32} {b1 : Int64} {b3 : Int64} (hs : StM sh fR B)
    (H : ((a0 = nI 31 → Cl l G d 0 0 mX12_within [.long (b1 + b3)] (sh, f, g, fR) (ql sh fR fun y4 f2 g3 => Q (some (.long y4)) (sh, f2, g3, fR))) ∧ (a0 = nI 32 → Cl l G d 0 0 mX12_within [.long (b1 - b3)] (sh, f, g, fR) (ql sh fR fun y8 f6 g7 => Q (some (.long y8)) (sh, f6, g7, fR))) ∧ (a0 = nI 33 → Cl l G d 0 0 mX12_within [.long (b1 * b3)] (sh, f, g, fR) (ql sh fR fun y12 f10 g11 => Q (some (.long y12)) (sh, f10, g11, fR))) ∧ (a0 = nI 34 → Cl l G d 0 0 mX12_floor [.long b1, .long b3] (sh, f, g, fR) (ql sh fR fun y16 f14 g15 => Cl l G d 0 0 mX12_within [.long y16] (sh, f14, g15, fR) (ql sh fR fun y19 f17 g18 => Q (some (.long y19)) (sh, f17, g18, fR)))) ∧ (a0 = nI 35 → ((¬ b3 = (lN 0) → Cl l G d 0 0 mX12_floor [.long b1, .long b3] (sh, f, g, fR) (ql sh fR fun y24 f22 g23 => Cl l G d 0 0 mX12_within [.long (b1 - (b3 * y24))] (sh, f22, g23, fR) (ql sh fR fun y27 f25 g26 => Q (some (.long y27)) (sh, f25, g26, fR)))) ∧ (b3 = (lN 0) → Q (some (.long (lN 0))) (sh, f, g, fR)))) ∧ (a0 = nI 36 → ((b3 ≤ b1 → Q (some (.long b3)) (sh, f, g, fR)) ∧ (¬ b3 ≤ b1 → Q (some (.long b1)) (sh, f, g, fR)))) ∧ (a0 = nI 37 → ((b1 ≤ b3 → Q (some (.long b3)) (sh, f, g, fR)) ∧ (¬ b1 ≤ b3 → Q (some (.long b1)) (sh, f, g, fR)))) ∧ (a0 = nI 38 → ((b3 ≤ b1 → Q (some (.long (lN 0))) (sh, f, g, fR)) ∧ (¬ b3 ≤ b1 → Q (some (.long (lN 1))) (sh, f, g, fR)))) ∧ (a0 = nI 39 → ((b1 ≤ b3 → Q (some (.long (lN 0))) (sh, f, g, fR)) ∧ (¬ b1 ≤ b3 → Q (some (.long (lN 1))) (sh, f, g, fR)))) ∧ (a0 = nI 40 → ((¬ b1 = b3 → Q (some (.long (lN 0))) (sh, f, g, fR)) ∧ (b1 = b3 → Q (some (.long (lN 1))) (sh, f, g, fR)))) ∧ (a0 = nI 41 → Q (some (.long (b1 &&& b3))) (sh, f, g, fR)) ∧ ((¬ a0 = nI 31 ∧ ¬ a0 = nI 32 ∧ ¬ a0 = nI 33 ∧ ¬ a0 = nI 34 ∧ ¬ a0 = nI 35 ∧ ¬ a0 = nI 36 ∧ ¬ a0 = nI 37 ∧ ¬ a0 = nI 38 ∧ ¬ a0 = nI 39 ∧ ¬ a0 = nI 40 ∧ ¬ a0 = nI 41) → Q (some (.long (b1 ||| b3))) (sh, f, g, fR)))) :
    Cl l G (d + 1) 0 0 mX12_two [.int a0, .long b1, .long b3] (sh, f, g, fR) Q := by
  refine Cl.of (L0 := [some (.int a0), some (.long b1), none, some (.long b3), none]) miX12_two rfl rfl ?_
  refine S_iload_n (pc := 0) dX12_two_0 rfl rfl ?_
  by_cases hc1 : a0 = nI 31
  · replace H := H.1 hc1
    refine S_tsw (pc := 1) (tgt := 60) dX12_two_1 (Or.inr ⟨by rw [hc1]; decide, by rw [hc1]; decide, _, by rw [hc1]; rfl, rfl⟩) ?_
    refine S_lload_n (pc := 60) dX12_two_60 rfl rfl ?_
    refine S_lload_n (pc := 61) dX12_two_61 rfl rfl ?_
    refine S_ladd (pc := 62) dX12_two_62 ?_
    refine S_callS (As := [.long (b1 + b3)]) (mc := 0) (ms := 0) (pc := 63) dX12_two_63 miX12_within mvX12_within mlX12_426 rfl rfl (RmOK.of rfl) H ?_
    rintro _ _ ⟨y4, f2, g3, rfl, rfl, H⟩
    show WP _ _ _ _ _ _ _ 66 [some (.int a0), some (.long b1), none, some (.long b3), none] [.long y4] (sh, f2, g3, fR)
    exact S_lreturn dX12_two_66 rfl H
  · by_cases hc5 : a0 = nI 32
    · replace H := H.2.1 hc5
      refine S_tsw (pc := 1) (tgt := 67) dX12_two_1 (Or.inr ⟨by rw [hc5]; decide, by rw [hc5]; decide, _, by rw [hc5]; rfl, rfl⟩) ?_
      refine S_lload_n (pc := 67) dX12_two_67 rfl rfl ?_
      refine S_lload_n (pc := 68) dX12_two_68 rfl rfl ?_
      refine S_lsub (pc := 69) dX12_two_69 ?_
      refine S_callS (As := [.long (b1 - b3)]) (mc := 0) (ms := 0) (pc := 70) dX12_two_70 miX12_within mvX12_within mlX12_426 rfl rfl (RmOK.of rfl) H ?_
      rintro _ _ ⟨y8, f6, g7, rfl, rfl, H⟩
      show WP _ _ _ _ _ _ _ 73 [some (.int a0), some (.long b1), none, some (.long b3), none] [.long y8] (sh, f6, g7, fR)
      exact S_lreturn dX12_two_73 rfl H
    · by_cases hc9 : a0 = nI 33
      · replace H := H.2.2.1 hc9
        refine S_tsw (pc := 1) (tgt := 74) dX12_two_1 (Or.inr ⟨by rw [hc9]; decide, by rw [hc9]; decide, _, by rw [hc9]; rfl, rfl⟩) ?_
        refine S_lload_n (pc := 74) dX12_two_74 rfl rfl ?_
        refine S_lload_n (pc := 75) dX12_two_75 rfl rfl ?_
        refine S_lmul (pc := 76) dX12_two_76 ?_
        refine S_callS (As := [.long (b1 * b3)]) (mc := 0) (ms := 0) (pc := 77) dX12_two_77 miX12_within mvX12_within mlX12_426 rfl rfl (RmOK.of rfl) H ?_
        rintro _ _ ⟨y12, f10, g11, rfl, rfl, H⟩
        show WP _ _ _ _ _ _ _ 80 [some (.int a0), some (.long b1), none, some (.long b3), none] [.long y12] (sh, f10, g11, fR)
        exact S_lreturn dX12_two_80 rfl H
      · by_cases hc13 : a0 = nI 34
        · replace H := H.2.2.2.1 hc13
          refine S_tsw (pc := 1) (tgt := 81) dX12_two_1 (Or.inr ⟨by rw [hc13]; decide, by rw [hc13]; decide, _, by rw [hc13]; rfl, rfl⟩) ?_
          refine S_lload_n (pc := 81) dX12_two_81 rfl rfl ?_
          refine S_lload_n (pc := 82) dX12_two_82 rfl rfl ?_
          refine S_callS (As := [.long b1, .long b3]) (mc := 0) (ms := 0) (pc := 83) dX12_two_83 miX12_floor mvX12_floor mlX12_430 rfl rfl (RmOK.of rfl) H ?_
          rintro _ _ ⟨y16, f14, g15, rfl, rfl, H⟩
          show WP _ _ _ _ _ _ _ 86 [some (.int a0), some (.long b1), none, some (.long b3), none] [.long y16] (sh, f14, g15, fR)
          refine S_callS (As := [.long y16]) (mc := 0) (ms := 0) (pc := 86) dX12_two_86 miX12_within mvX12_within mlX12_426 rfl rfl (RmOK.of rfl) H ?_
          rintro _ _ ⟨y19, f17, g18, rfl, rfl, H⟩
          show WP _ _ _ _ _ _ _ 89 [some (.int a0), some (.long b1), none, some (.long b3), none] [.long y19] (sh, f17, g18, fR)
          exact S_lreturn dX12_two_89 rfl H
        · by_cases hc20 : a0 = nI 35
          · replace H := H.2.2.2.2.1 hc20
            refine S_tsw (pc := 1) (tgt := 90) dX12_two_1 (Or.inr ⟨by rw [hc20]; decide, by rw [hc20]; decide, _, by rw [hc20]; rfl, rfl⟩) ?_
            refine S_lload_n (pc := 90) dX12_two_90 rfl rfl ?_
            refine S_lconst (pc := 91) dX12_two_91 lc0 ?_
            refine S_lcmp_ne (pc := 92) (tgt := 100) dX12_two_92 dX12_two_93 rfl (fun hc21 => ?_) (fun hc21 => ?_)
            · replace H := H.1 hc21
              refine S_lload_n (pc := 100) dX12_two_100 rfl rfl ?_
              refine S_lload_n (pc := 101) dX12_two_101 rfl rfl ?_
              refine S_lload_n (pc := 102) dX12_two_102 rfl rfl ?_
              refine S_lload_n (pc := 103) dX12_two_103 rfl rfl ?_
              refine S_callS (As := [.long b1, .long b3]) (mc := 0) (ms := 0) (pc := 104) dX12_two_104 miX12_floor mvX12_floor mlX12_430 rfl rfl (RmOK.of rfl) H ?_
              rintro _ _ ⟨y24, f22, g23, rfl, rfl, H⟩
              show WP _ _ _ _ _ _ _ 107 [some (.int a0), some (.long b1), none, some (.long b3), none] [.long y24, .long b3, .long b1] (sh, f22, g23, fR)
              refine S_lmul (pc := 107) dX12_two_107 ?_
              refine S_lsub (pc := 108) dX12_two_108 ?_
              refine S_callS (As := [.long (b1 - (b3 * y24))]) (mc := 0) (ms := 0) (pc := 109) dX12_two_109 miX12_within mvX12_within mlX12_426 rfl rfl (RmOK.of rfl) H ?_
              rintro _ _ ⟨y27, f25, g26, rfl, rfl, H⟩
              show WP _ _ _ _ _ _ _ 112 [some (.int a0), some (.long b1), none, some (.long b3), none] [.long y27] (sh, f25, g26, fR)
              exact S_lreturn dX12_two_112 rfl H
            · replace H := H.2 hc21
              refine S_lconst (pc := 96) dX12_two_96 lc0 ?_
              refine S_goto (pc := 97) (tgt := 112) dX12_two_97 rfl ?_
              exact S_lreturn dX12_two_112 rfl H
          · by_cases hc28 : a0 = nI 36
            · replace H := H.2.2.2.2.2.1 hc28
              refine S_tsw (pc := 1) (tgt := 113) dX12_two_1 (Or.inr ⟨by rw [hc28]; decide, by rw [hc28]; decide, _, by rw [hc28]; rfl, rfl⟩) ?_
              refine S_lload_n (pc := 113) dX12_two_113 rfl rfl ?_
              refine S_lload_n (pc := 114) dX12_two_114 rfl rfl ?_
              refine S_lcmp_ge (pc := 115) (tgt := 123) dX12_two_115 dX12_two_116 rfl (fun hc29 => ?_) (fun hc29 => ?_)
              · replace H := H.1 hc29
                refine S_lload_n (pc := 123) dX12_two_123 rfl rfl ?_
                exact S_lreturn dX12_two_124 rfl H
              · replace H := H.2 hc29
                refine S_lload_n (pc := 119) dX12_two_119 rfl rfl ?_
                refine S_goto (pc := 120) (tgt := 124) dX12_two_120 rfl ?_
                exact S_lreturn dX12_two_124 rfl H
            · by_cases hc30 : a0 = nI 37
              · replace H := H.2.2.2.2.2.2.1 hc30
                refine S_tsw (pc := 1) (tgt := 125) dX12_two_1 (Or.inr ⟨by rw [hc30]; decide, by rw [hc30]; decide, _, by rw [hc30]; rfl, rfl⟩) ?_
                refine S_lload_n (pc := 125) dX12_two_125 rfl rfl ?_
                refine S_lload_n (pc := 126) dX12_two_126 rfl rfl ?_
                refine S_lcmp_le (pc := 127) (tgt := 135) dX12_two_127 dX12_two_128 rfl (fun hc31 => ?_) (fun hc31 => ?_)
                · replace H := H.1 hc31
                  refine S_lload_n (pc := 135) dX12_two_135 rfl rfl ?_
                  exact S_lreturn dX12_two_136 rfl H
                · replace H := H.2 hc31
                  refine S_lload_n (pc := 131) dX12_two_131 rfl rfl ?_
                  refine S_goto (pc := 132) (tgt := 136) dX12_two_132 rfl ?_
                  exact S_lreturn dX12_two_136 rfl H
              · by_cases hc32 : a0 = nI 38
                · replace H := H.2.2.2.2.2.2.2.1 hc32
                  refine S_tsw (pc := 1) (tgt := 137) dX12_two_1 (Or.inr ⟨by rw [hc32]; decide, by rw [hc32]; decide, _, by rw [hc32]; rfl, rfl⟩) ?_
                  refine S_lload_n (pc := 137) dX12_two_137 rfl rfl ?_
                  refine S_lload_n (pc := 138) dX12_two_138 rfl rfl ?_
                  refine S_lcmp_ge (pc := 139) (tgt := 147) dX12_two_139 dX12_two_140 rfl (fun hc33 => ?_) (fun hc33 => ?_)
                  · replace H := H.1 hc33
                    refine S_lconst (pc := 147) dX12_two_147 lc0 ?_
                    exact S_lreturn dX12_two_148 rfl H
                  · replace H := H.2 hc33
                    refine S_lconst (pc := 143) dX12_two_143 lc1 ?_
                    refine S_goto (pc := 144) (tgt := 148) dX12_two_144 rfl ?_
                    exact S_lreturn dX12_two_148 rfl H
                · by_cases hc34 : a0 = nI 39
                  · replace H := H.2.2.2.2.2.2.2.2.1 hc34
                    refine S_tsw (pc := 1) (tgt := 149) dX12_two_1 (Or.inr ⟨by rw [hc34]; decide, by rw [hc34]; decide, _, by rw [hc34]; rfl, rfl⟩) ?_
                    refine S_lload_n (pc := 149) dX12_two_149 rfl rfl ?_
                    refine S_lload_n (pc := 150) dX12_two_150 rfl rfl ?_
                    refine S_lcmp_le (pc := 151) (tgt := 159) dX12_two_151 dX12_two_152 rfl (fun hc35 => ?_) (fun hc35 => ?_)
                    · replace H := H.1 hc35
                      refine S_lconst (pc := 159) dX12_two_159 lc0 ?_
                      exact S_lreturn dX12_two_160 rfl H
                    · replace H := H.2 hc35
                      refine S_lconst (pc := 155) dX12_two_155 lc1 ?_
                      refine S_goto (pc := 156) (tgt := 160) dX12_two_156 rfl ?_
                      exact S_lreturn dX12_two_160 rfl H
                  · by_cases hc36 : a0 = nI 40
                    · replace H := H.2.2.2.2.2.2.2.2.2.1 hc36
                      refine S_tsw (pc := 1) (tgt := 161) dX12_two_1 (Or.inr ⟨by rw [hc36]; decide, by rw [hc36]; decide, _, by rw [hc36]; rfl, rfl⟩) ?_
                      refine S_lload_n (pc := 161) dX12_two_161 rfl rfl ?_
                      refine S_lload_n (pc := 162) dX12_two_162 rfl rfl ?_
                      refine S_lcmp_ne (pc := 163) (tgt := 171) dX12_two_163 dX12_two_164 rfl (fun hc37 => ?_) (fun hc37 => ?_)
                      · replace H := H.1 hc37
                        refine S_lconst (pc := 171) dX12_two_171 lc0 ?_
                        exact S_lreturn dX12_two_172 rfl H
                      · replace H := H.2 hc37
                        refine S_lconst (pc := 167) dX12_two_167 lc1 ?_
                        refine S_goto (pc := 168) (tgt := 172) dX12_two_168 rfl ?_
                        exact S_lreturn dX12_two_172 rfl H
                    · by_cases hc38 : a0 = nI 41
                      · replace H := H.2.2.2.2.2.2.2.2.2.2.1 hc38
                        refine S_tsw (pc := 1) (tgt := 173) dX12_two_1 (Or.inr ⟨by rw [hc38]; decide, by rw [hc38]; decide, _, by rw [hc38]; rfl, rfl⟩) ?_
                        refine S_lload_n (pc := 173) dX12_two_173 rfl rfl ?_
                        refine S_lload_n (pc := 174) dX12_two_174 rfl rfl ?_
                        refine S_land (pc := 175) dX12_two_175 ?_
                        exact S_lreturn dX12_two_176 rfl H
                      · replace H := H.2.2.2.2.2.2.2.2.2.2.2 ⟨hc1, hc5, hc9, hc13, hc20, hc28, hc30, hc32, hc34, hc36, hc38⟩
                        refine S_tsw (pc := 1) (tgt := 177) dX12_two_1 (Or.inl ⟨tsw_out (lo := 31) (hi := 41) (fun j h1 h2 => by rcases (show j = 31 ∨ j = 32 ∨ j = 33 ∨ j = 34 ∨ j = 35 ∨ j = 36 ∨ j = 37 ∨ j = 38 ∨ j = 39 ∨ j = 40 ∨ j = 41 by omega) with rfl | rfl | rfl | rfl | rfl | rfl | rfl | rfl | rfl | rfl | rfl <;> assumption), rfl⟩) ?_
                        refine S_lload_n (pc := 177) dX12_two_177 rfl rfl ?_
                        refine S_lload_n (pc := 178) dX12_two_178 rfl rfl ?_
                        refine S_lor (pc := 179) dX12_two_179 ?_
                        exact S_lreturn dX12_two_180 rfl H
abbrev LpX12_reckons_25 (l : Launch) (G : Gx) (d : Nat) (Q : Option Value → Hp → Prop) (sh : Sh) (fR : FRt) (B : Nat) (f : FI) (g : FL) (a1 : Int32) (a2 : Int32) (a3 : Int32) : Prop := WP l G (Zq G 0 0 Q) mX12_reckons (rmd (d + 2) 0 0) 0 0 25 [some (.ref B), some (.int a1), some (.int a2), some (.int a3), none] [] (sh, f, g, fR)
abbrev LpX12_reckons_221 (l : Launch) (G : Gx) (d : Nat) (Q : Option Value → Hp → Prop) (sh : Sh) (fR : FRt) (B : Nat) (f : FI) (g : FL) (a1 : Int32) (a2 : Int32) (a3 : Int32) : Prop := WP l G (Zq G 0 0 Q) mX12_reckons (rmd (d + 2) 0 0) 0 0 221 [some (.ref B), some (.int a1), some (.int a2), some (.int a3), none] [] (sh, f, g, fR)
set_option maxHeartbeats 2000000 in
set_option maxRecDepth 4000 in
theorem VX12_reckons {l : Launch} {G : Gx} {d : Nat} {Q : Option Value → Hp → Prop} {sh : Sh} {fR : FRt} {B : Nat} {f : FI} {g : FL} {a1 : Int32} (hs : StM sh fR B)
    (H : inb (((nI 4) * (f B 13)) + a1) 8 ∧ (∀ w2 : Int32, w2 = ((nI 1600) * (f B 13)) + (f (B + 11) (((nI 4) * (f B 13)) + a1).toNatClampNeg) → LpX12_reckons_25 l G d Q sh fR B f g a1 (nI 0) w2)) :
    Cl l G (d + 2) 0 0 mX12_reckons [.ref B, .int a1] (sh, f, g, fR) Q := by
  refine Cl.of (L0 := [some (.ref B), some (.int a1), none, none, none]) miX12_reckons rfl rfl ?_
  refine S_iconst (pc := 0) dX12_reckons_0 ic0 ?_
  refine S_istore_n (pc := 1) (L' := [some (.ref B), some (.int a1), some (.int (nI 0)), none, none]) dX12_reckons_1 rfl (by decide) rfl ?_
  refine S_sipush (pc := 2) dX12_reckons_2 sp1600 ?_
  refine S_aload_n (pc := 5) dX12_reckons_5 rfl rfl ?_
  refine S_get (pc := 6) (v := .int (f B 13)) dX12_reckons_6 flX12_51 (sM_0 hs) rfl ?_
  refine S_imul (pc := 9) dX12_reckons_9 ?_
  refine S_aload_n (pc := 10) dX12_reckons_10 rfl rfl ?_
  refine S_getR (pc := 11) dX12_reckons_11 flX12_81 (sM_0 hs) rfl (rM_23 hs) ?_
  refine S_iconst (pc := 14) dX12_reckons_14 ic4 ?_
  refine S_aload_n (pc := 15) dX12_reckons_15 rfl rfl ?_
  refine S_get (pc := 16) (v := .int (f B 13)) dX12_reckons_16 flX12_51 (sM_0 hs) rfl ?_
  refine S_imul (pc := 19) dX12_reckons_19 ?_
  refine S_iload_n (pc := 20) dX12_reckons_20 rfl rfl ?_
  refine S_iadd (pc := 21) dX12_reckons_21 ?_
  obtain ⟨hb1, H⟩ := H
  refine S_iald (pc := 22) dX12_reckons_22 (sM_11 hs) hb1 ?_
  refine S_iadd (pc := 23) dX12_reckons_23 ?_
  refine S_namei (fun w2 e3 => ?_)
  replace H := H w2 e3
  refine S_istore_n (pc := 24) (L' := [some (.ref B), some (.int a1), some (.int (nI 0)), some (.int w2), none]) dX12_reckons_24 rfl (by decide) rfl ?_
  exact H
set_option maxHeartbeats 2000000 in
set_option maxRecDepth 4000 in
theorem VX12_reckons_25 {l : Launch} {G : Gx} {d : Nat} {Q : Option Value → Hp → Prop} {sh : Sh} {fR : FRt} {B : Nat} {f : FI} {g : FL} {a1 : Int32} {a2 : Int32} {a3 : Int32} (hs : StM sh fR B)
    (H : inb (((nI 4) * (f B 13)) + a1) 8 ∧ (((((nI 1600) * (f B 13)) + (f (B + 12) (((nI 4) * (f B 13)) + a1).toNatClampNeg)) ≤ a3 → Q (some (.long (g (B + 30) 0))) (sh, f, g, fR)) ∧ (¬ (((nI 1600) * (f B 13)) + (f (B + 12) (((nI 4) * (f B 13)) + a1).toNatClampNeg)) ≤ a3 → inb a3 3200 ∧ (∀ w7 : Int32, w7 = f (B + 13) a3.toNatClampNeg → (((nI 30) < w7 → ((¬ w7 = (nI 43) → ((¬ w7 = (nI 44) → inb ((a2 + (-1)) - (nI 1)) 500 ∧ inb (a2 + (-1)) 500 ∧ Cl l G (d + 1) 0 0 mX12_two [.int w7, .long (g (B + 30) ((a2 + (-1)) - (nI 1)).toNatClampNeg), .long (g (B + 30) (a2 + (-1)).toNatClampNeg)] (sh, f, g, fR) (ql sh fR fun y16 f14 g15 => inb ((a2 + (-1)) - (nI 1)) 500 ∧ LpX12_reckons_221 l G d Q sh fR B f14 (up2 g15 (B + 30) ((a2 + (-1)) - (nI 1)).toNatClampNeg y16) a1 (a2 + (-1)) a3)) ∧ (w7 = (nI 44) → inb ((a2 + (-2)) - (nI 1)) 500 ∧ ((¬ (g (B + 30) ((a2 + (-2)) - (nI 1)).toNatClampNeg) = (lN 1) → inb ((a2 + (-2)) + (nI 1)) 500 ∧ inb ((a2 + (-2)) - (nI 1)) 500 ∧ LpX12_reckons_221 l G d Q sh fR B f (up2 g (B + 30) ((a2 + (-2)) - (nI 1)).toNatClampNeg (g (B + 30) ((a2 + (-2)) + (nI 1)).toNatClampNeg)) a1 (a2 + (-2)) a3) ∧ ((g (B + 30) ((a2 + (-2)) - (nI 1)).toNatClampNeg) = (lN 1) → inb (a2 + (-2)) 500 ∧ inb ((a2 + (-2)) - (nI 1)) 500 ∧ LpX12_reckons_221 l G d Q sh fR B f (up2 g (B + 30) ((a2 + (-2)) - (nI 1)).toNatClampNeg (g (B + 30) (a2 + (-2)).toNatClampNeg)) a1 (a2 + (-2)) a3))))) ∧ (w7 = (nI 43) → inb (a2 - (nI 1)) 500 ∧ inb (a2 - (nI 1)) 500 ∧ LpX12_reckons_221 l G d Q sh fR B f (up2 g (B + 30) (a2 - (nI 1)).toNatClampNeg ((lN 1) - (g (B + 30) (a2 - (nI 1)).toNatClampNeg))) a1 a2 a3))) ∧ (¬ (nI 30) < w7 → ((¬ w7 = 0 → ((¬ w7 = (nI 30) → inb w7 12 ∧ inb a2 500 ∧ LpX12_reckons_221 l G d Q sh fR B f (up2 g (B + 30) a2.toNatClampNeg ((f (B + 31) w7.toNatClampNeg).toInt64)) a1 (a2 + nI 1) a3) ∧ (w7 = (nI 30) → inb a2 500 ∧ LpX12_reckons_221 l G d Q sh fR B f (up2 g (B + 30) a2.toNatClampNeg (lN 1)) a1 (a2 + nI 1) a3))) ∧ (w7 = 0 → inb a3 3200 ∧ inb a2 500 ∧ LpX12_reckons_221 l G d Q sh fR B f (up2 g (B + 30) a2.toNatClampNeg ((f (B + 14) a3.toNatClampNeg).toInt64)) a1 (a2 + nI 1) a3)))))))) :
    LpX12_reckons_25 l G d Q sh fR B f g a1 a2 a3 := by
  refine S_iload_n (pc := 25) dX12_reckons_25 rfl rfl ?_
  refine S_sipush (pc := 26) dX12_reckons_26 sp1600 ?_
  refine S_aload_n (pc := 29) dX12_reckons_29 rfl rfl ?_
  refine S_get (pc := 30) (v := .int (f B 13)) dX12_reckons_30 flX12_51 (sM_0 hs) rfl ?_
  refine S_imul (pc := 33) dX12_reckons_33 ?_
  refine S_aload_n (pc := 34) dX12_reckons_34 rfl rfl ?_
  refine S_getR (pc := 35) dX12_reckons_35 flX12_84 (sM_0 hs) rfl (rM_24 hs) ?_
  refine S_iconst (pc := 38) dX12_reckons_38 ic4 ?_
  refine S_aload_n (pc := 39) dX12_reckons_39 rfl rfl ?_
  refine S_get (pc := 40) (v := .int (f B 13)) dX12_reckons_40 flX12_51 (sM_0 hs) rfl ?_
  refine S_imul (pc := 43) dX12_reckons_43 ?_
  refine S_iload_n (pc := 44) dX12_reckons_44 rfl rfl ?_
  refine S_iadd (pc := 45) dX12_reckons_45 ?_
  obtain ⟨hb4, H⟩ := H
  refine S_iald (pc := 46) dX12_reckons_46 (sM_12 hs) hb4 ?_
  refine S_iadd (pc := 47) dX12_reckons_47 ?_
  refine S_icmp_ge (pc := 48) (tgt := 227) dX12_reckons_48 rfl (fun hc5 => ?_) (fun hc5 => ?_)
  · replace H := H.1 hc5
    refine S_aload_n (pc := 227) dX12_reckons_227 rfl rfl ?_
    refine S_getR (pc := 228) dX12_reckons_228 flX12_179 (sM_0 hs) rfl (rM_54 hs) ?_
    refine S_iconst (pc := 231) dX12_reckons_231 ic0 ?_
    refine S_lald (pc := 232) dX12_reckons_232 (sM_30 hs) (vp_in_nI (by decide) (by decide)) ?_
    show WP _ _ _ _ _ _ _ 233 _ (.long (g (B + 30) 0) :: _) _
    exact S_lreturn dX12_reckons_233 rfl H
  · replace H := H.2 hc5
    refine S_aload_n (pc := 51) dX12_reckons_51 rfl rfl ?_
    refine S_getR (pc := 52) dX12_reckons_52 flX12_87 (sM_0 hs) rfl (rM_25 hs) ?_
    refine S_iload_n (pc := 55) dX12_reckons_55 rfl rfl ?_
    obtain ⟨hb6, H⟩ := H
    refine S_iald (pc := 56) dX12_reckons_56 (sM_13 hs) hb6 ?_
    refine S_namei (fun w7 e8 => ?_)
    replace H := H w7 e8
    refine S_istore (pc := 57) (L' := [some (.ref B), some (.int a1), some (.int a2), some (.int a3), some (.int w7)]) dX12_reckons_57 (by decide) rfl ?_
    refine S_iload (pc := 59) dX12_reckons_59 rfl ?_
    refine S_bipush (pc := 61) dX12_reckons_61 bp30 ?_
    refine S_icmp_gt (pc := 63) (tgt := 112) dX12_reckons_63 rfl (fun hc9 => ?_) (fun hc9 => ?_)
    · replace H := H.1 hc9
      refine S_iload (pc := 112) dX12_reckons_112 rfl ?_
      refine S_bipush (pc := 114) dX12_reckons_114 bp43 ?_
      refine S_icmp_ne (pc := 116) (tgt := 140) dX12_reckons_116 rfl (fun hc10 => ?_) (fun hc10 => ?_)
      · replace H := H.1 hc10
        refine S_iload (pc := 140) dX12_reckons_140 rfl ?_
        refine S_bipush (pc := 142) dX12_reckons_142 bp44 ?_
        refine S_icmp_ne (pc := 144) (tgt := 191) dX12_reckons_144 rfl (fun hc11 => ?_) (fun hc11 => ?_)
        · replace H := H.1 hc11
          refine S_iinc (pc := 191) (v := (-1)) (L' := [some (.ref B), some (.int a1), some (.int (a2 + (-1))), some (.int a3), some (.int w7)]) dX12_reckons_191 rfl icm1 rfl ?_
          refine S_aload_n (pc := 194) dX12_reckons_194 rfl rfl ?_
          refine S_getR (pc := 195) dX12_reckons_195 flX12_179 (sM_0 hs) rfl (rM_54 hs) ?_
          refine S_iload_n (pc := 198) dX12_reckons_198 rfl rfl ?_
          refine S_iconst (pc := 199) dX12_reckons_199 ic1 ?_
          refine S_isub (pc := 200) dX12_reckons_200 ?_
          refine S_iload (pc := 201) dX12_reckons_201 rfl ?_
          refine S_aload_n (pc := 203) dX12_reckons_203 rfl rfl ?_
          refine S_getR (pc := 204) dX12_reckons_204 flX12_179 (sM_0 hs) rfl (rM_54 hs) ?_
          refine S_iload_n (pc := 207) dX12_reckons_207 rfl rfl ?_
          refine S_iconst (pc := 208) dX12_reckons_208 ic1 ?_
          refine S_isub (pc := 209) dX12_reckons_209 ?_
          obtain ⟨hb12, H⟩ := H
          refine S_lald (pc := 210) dX12_reckons_210 (sM_30 hs) hb12 ?_
          refine S_aload_n (pc := 211) dX12_reckons_211 rfl rfl ?_
          refine S_getR (pc := 212) dX12_reckons_212 flX12_179 (sM_0 hs) rfl (rM_54 hs) ?_
          refine S_iload_n (pc := 215) dX12_reckons_215 rfl rfl ?_
          obtain ⟨hb13, H⟩ := H
          refine S_lald (pc := 216) dX12_reckons_216 (sM_30 hs) hb13 ?_
          refine S_callS (As := [.int w7, .long (g (B + 30) ((a2 + (-1)) - (nI 1)).toNatClampNeg), .long (g (B + 30) (a2 + (-1)).toNatClampNeg)]) (mc := 0) (ms := 0) (pc := 217) dX12_reckons_217 miX12_two mvX12_two mlX12_434 rfl rfl (RmOK.of rfl) H ?_
          rintro _ _ ⟨y16, f14, g15, rfl, rfl, H⟩
          show WP _ _ _ _ _ _ _ 220 [some (.ref B), some (.int a1), some (.int (a2 + (-1))), some (.int a3), some (.int w7)] [.long y16, .int ((a2 + (-1)) - (nI 1)), .ref (B + 30)] (sh, f14, g15, fR)
          obtain ⟨hb17, H⟩ := H
          refine S_last (pc := 220) dX12_reckons_220 (sM_30 hs) (Nat.succ_pos _) hb17 ?_
          exact S_weak (L' := [some (.ref B), some (.int a1), some (.int (a2 + (-1))), some (.int a3), none]) (ls_e (ls_e (ls_e (ls_e (ls_n ls_0))))) H
        · replace H := H.2 hc11
          refine S_iinc (pc := 147) (v := (-2)) (L' := [some (.ref B), some (.int a1), some (.int (a2 + (-2))), some (.int a3), some (.int w7)]) dX12_reckons_147 rfl icm2 rfl ?_
          refine S_aload_n (pc := 150) dX12_reckons_150 rfl rfl ?_
          refine S_getR (pc := 151) dX12_reckons_151 flX12_179 (sM_0 hs) rfl (rM_54 hs) ?_
          refine S_iload_n (pc := 154) dX12_reckons_154 rfl rfl ?_
          refine S_iconst (pc := 155) dX12_reckons_155 ic1 ?_
          refine S_isub (pc := 156) dX12_reckons_156 ?_
          refine S_aload_n (pc := 157) dX12_reckons_157 rfl rfl ?_
          refine S_getR (pc := 158) dX12_reckons_158 flX12_179 (sM_0 hs) rfl (rM_54 hs) ?_
          refine S_iload_n (pc := 161) dX12_reckons_161 rfl rfl ?_
          refine S_iconst (pc := 162) dX12_reckons_162 ic1 ?_
          refine S_isub (pc := 163) dX12_reckons_163 ?_
          obtain ⟨hb18, H⟩ := H
          refine S_lald (pc := 164) dX12_reckons_164 (sM_30 hs) hb18 ?_
          refine S_lconst (pc := 165) dX12_reckons_165 lc1 ?_
          refine S_lcmp_ne (pc := 166) (tgt := 179) dX12_reckons_166 dX12_reckons_167 rfl (fun hc19 => ?_) (fun hc19 => ?_)
          · replace H := H.1 hc19
            refine S_aload_n (pc := 179) dX12_reckons_179 rfl rfl ?_
            refine S_getR (pc := 180) dX12_reckons_180 flX12_179 (sM_0 hs) rfl (rM_54 hs) ?_
            refine S_iload_n (pc := 183) dX12_reckons_183 rfl rfl ?_
            refine S_iconst (pc := 184) dX12_reckons_184 ic1 ?_
            refine S_iadd (pc := 185) dX12_reckons_185 ?_
            obtain ⟨hb20, H⟩ := H
            refine S_lald (pc := 186) dX12_reckons_186 (sM_30 hs) hb20 ?_
            obtain ⟨hb21, H⟩ := H
            refine S_last (pc := 187) dX12_reckons_187 (sM_30 hs) (Nat.succ_pos _) hb21 ?_
            refine S_goto (pc := 188) (tgt := 221) dX12_reckons_188 rfl ?_
            exact S_weak (L' := [some (.ref B), some (.int a1), some (.int (a2 + (-2))), some (.int a3), none]) (ls_e (ls_e (ls_e (ls_e (ls_n ls_0))))) H
          · replace H := H.2 hc19
            refine S_aload_n (pc := 170) dX12_reckons_170 rfl rfl ?_
            refine S_getR (pc := 171) dX12_reckons_171 flX12_179 (sM_0 hs) rfl (rM_54 hs) ?_
            refine S_iload_n (pc := 174) dX12_reckons_174 rfl rfl ?_
            obtain ⟨hb22, H⟩ := H
            refine S_lald (pc := 175) dX12_reckons_175 (sM_30 hs) hb22 ?_
            refine S_goto (pc := 176) (tgt := 187) dX12_reckons_176 rfl ?_
            obtain ⟨hb23, H⟩ := H
            refine S_last (pc := 187) dX12_reckons_187 (sM_30 hs) (Nat.succ_pos _) hb23 ?_
            refine S_goto (pc := 188) (tgt := 221) dX12_reckons_188 rfl ?_
            exact S_weak (L' := [some (.ref B), some (.int a1), some (.int (a2 + (-2))), some (.int a3), none]) (ls_e (ls_e (ls_e (ls_e (ls_n ls_0))))) H
      · replace H := H.2 hc10
        refine S_aload_n (pc := 119) dX12_reckons_119 rfl rfl ?_
        refine S_getR (pc := 120) dX12_reckons_120 flX12_179 (sM_0 hs) rfl (rM_54 hs) ?_
        refine S_iload_n (pc := 123) dX12_reckons_123 rfl rfl ?_
        refine S_iconst (pc := 124) dX12_reckons_124 ic1 ?_
        refine S_isub (pc := 125) dX12_reckons_125 ?_
        refine S_lconst (pc := 126) dX12_reckons_126 lc1 ?_
        refine S_aload_n (pc := 127) dX12_reckons_127 rfl rfl ?_
        refine S_getR (pc := 128) dX12_reckons_128 flX12_179 (sM_0 hs) rfl (rM_54 hs) ?_
        refine S_iload_n (pc := 131) dX12_reckons_131 rfl rfl ?_
        refine S_iconst (pc := 132) dX12_reckons_132 ic1 ?_
        refine S_isub (pc := 133) dX12_reckons_133 ?_
        obtain ⟨hb24, H⟩ := H
        refine S_lald (pc := 134) dX12_reckons_134 (sM_30 hs) hb24 ?_
        refine S_lsub (pc := 135) dX12_reckons_135 ?_
        obtain ⟨hb25, H⟩ := H
        refine S_last (pc := 136) dX12_reckons_136 (sM_30 hs) (Nat.succ_pos _) hb25 ?_
        refine S_goto (pc := 137) (tgt := 221) dX12_reckons_137 rfl ?_
        exact S_weak (L' := [some (.ref B), some (.int a1), some (.int a2), some (.int a3), none]) (ls_e (ls_e (ls_e (ls_e (ls_n ls_0))))) H
    · replace H := H.2 hc9
      refine S_aload_n (pc := 66) dX12_reckons_66 rfl rfl ?_
      refine S_getR (pc := 67) dX12_reckons_67 flX12_179 (sM_0 hs) rfl (rM_54 hs) ?_
      refine S_iload_n (pc := 70) dX12_reckons_70 rfl rfl ?_
      refine S_iload (pc := 71) dX12_reckons_71 rfl ?_
      refine S_if_ne (pc := 73) (tgt := 86) dX12_reckons_73 rfl (fun hc26 => ?_) (fun hc26 => ?_)
      · replace H := H.1 hc26
        refine S_iload (pc := 86) dX12_reckons_86 rfl ?_
        refine S_bipush (pc := 88) dX12_reckons_88 bp30 ?_
        refine S_icmp_ne (pc := 90) (tgt := 97) dX12_reckons_90 rfl (fun hc27 => ?_) (fun hc27 => ?_)
        · replace H := H.1 hc27
          refine S_aload_n (pc := 97) dX12_reckons_97 rfl rfl ?_
          refine S_getR (pc := 98) dX12_reckons_98 flX12_182 (sM_0 hs) rfl (rM_55 hs) ?_
          refine S_iload (pc := 101) dX12_reckons_101 rfl ?_
          obtain ⟨hb28, H⟩ := H
          refine S_iald (pc := 103) dX12_reckons_103 (sM_31 hs) hb28 ?_
          refine S_i2l (pc := 104) dX12_reckons_104 ?_
          obtain ⟨hb29, H⟩ := H
          refine S_last (pc := 105) dX12_reckons_105 (sM_30 hs) (Nat.succ_pos _) hb29 ?_
          refine S_iinc (pc := 106) (v := nI 1) (L' := [some (.ref B), some (.int a1), some (.int (a2 + nI 1)), some (.int a3), some (.int w7)]) dX12_reckons_106 rfl ic1 rfl ?_
          refine S_goto (pc := 109) (tgt := 221) dX12_reckons_109 rfl ?_
          exact S_weak (L' := [some (.ref B), some (.int a1), some (.int (a2 + nI 1)), some (.int a3), none]) (ls_e (ls_e (ls_e (ls_e (ls_n ls_0))))) H
        · replace H := H.2 hc27
          refine S_lconst (pc := 93) dX12_reckons_93 lc1 ?_
          refine S_goto (pc := 94) (tgt := 105) dX12_reckons_94 rfl ?_
          obtain ⟨hb30, H⟩ := H
          refine S_last (pc := 105) dX12_reckons_105 (sM_30 hs) (Nat.succ_pos _) hb30 ?_
          refine S_iinc (pc := 106) (v := nI 1) (L' := [some (.ref B), some (.int a1), some (.int (a2 + nI 1)), some (.int a3), some (.int w7)]) dX12_reckons_106 rfl ic1 rfl ?_
          refine S_goto (pc := 109) (tgt := 221) dX12_reckons_109 rfl ?_
          exact S_weak (L' := [some (.ref B), some (.int a1), some (.int (a2 + nI 1)), some (.int a3), none]) (ls_e (ls_e (ls_e (ls_e (ls_n ls_0))))) H
      · replace H := H.2 hc26
        refine S_aload_n (pc := 76) dX12_reckons_76 rfl rfl ?_
        refine S_getR (pc := 77) dX12_reckons_77 flX12_90 (sM_0 hs) rfl (rM_26 hs) ?_
        refine S_iload_n (pc := 80) dX12_reckons_80 rfl rfl ?_
        obtain ⟨hb31, H⟩ := H
        refine S_iald (pc := 81) dX12_reckons_81 (sM_14 hs) hb31 ?_
        refine S_i2l (pc := 82) dX12_reckons_82 ?_
        refine S_goto (pc := 83) (tgt := 105) dX12_reckons_83 rfl ?_
        obtain ⟨hb32, H⟩ := H
        refine S_last (pc := 105) dX12_reckons_105 (sM_30 hs) (Nat.succ_pos _) hb32 ?_
        refine S_iinc (pc := 106) (v := nI 1) (L' := [some (.ref B), some (.int a1), some (.int (a2 + nI 1)), some (.int a3), some (.int w7)]) dX12_reckons_106 rfl ic1 rfl ?_
        refine S_goto (pc := 109) (tgt := 221) dX12_reckons_109 rfl ?_
        exact S_weak (L' := [some (.ref B), some (.int a1), some (.int (a2 + nI 1)), some (.int a3), none]) (ls_e (ls_e (ls_e (ls_e (ls_n ls_0))))) H
set_option maxHeartbeats 2000000 in
set_option maxRecDepth 4000 in
theorem VX12_reckons_221 {l : Launch} {G : Gx} {d : Nat} {Q : Option Value → Hp → Prop} {sh : Sh} {fR : FRt} {B : Nat} {f : FI} {g : FL} {a1 : Int32} {a2 : Int32} {a3 : Int32} (hs : StM sh fR B)
    (H : LpX12_reckons_25 l G d Q sh fR B f g a1 a2 (a3 + nI 1)) :
    LpX12_reckons_221 l G d Q sh fR B f g a1 a2 a3 := by
  refine S_iinc (pc := 221) (v := nI 1) (L' := [some (.ref B), some (.int a1), some (.int a2), some (.int (a3 + nI 1)), none]) dX12_reckons_221 rfl ic1 rfl ?_
  refine S_goto (pc := 224) (tgt := 25) dX12_reckons_224 rfl ?_
  exact H
set_option maxHeartbeats 2000000 in
set_option maxRecDepth 4000 in
theorem VX12_isTold {l : Launch} {G : Gx} {d : Nat} {Q : Option Value → Hp → Prop} {sh : Sh} {fR : FRt} {B : Nat} {f : FI} {g : FL} {a1 : Int32} (hs : StM sh fR B)
    (H : inb (((nI 4) * (f B 13)) + a1) 8 ∧ (((f (B + 11) (((nI 4) * (f B 13)) + a1).toNatClampNeg) = (-1) → Q (some (.int (nI 0))) (sh, f, g, fR)) ∧ (¬ (f (B + 11) (((nI 4) * (f B 13)) + a1).toNatClampNeg) = (-1) → Q (some (.int (nI 1))) (sh, f, g, fR)))) :
    Cl l G d 0 0 mX12_isTold [.ref B, .int a1] (sh, f, g, fR) Q := by
  refine Cl.of (L0 := [some (.ref B), some (.int a1)]) miX12_isTold rfl rfl ?_
  refine S_aload_n (pc := 0) dX12_isTold_0 rfl rfl ?_
  refine S_getR (pc := 1) dX12_isTold_1 flX12_81 (sM_0 hs) rfl (rM_23 hs) ?_
  refine S_iconst (pc := 4) dX12_isTold_4 ic4 ?_
  refine S_aload_n (pc := 5) dX12_isTold_5 rfl rfl ?_
  refine S_get (pc := 6) (v := .int (f B 13)) dX12_isTold_6 flX12_51 (sM_0 hs) rfl ?_
  refine S_imul (pc := 9) dX12_isTold_9 ?_
  refine S_iload_n (pc := 10) dX12_isTold_10 rfl rfl ?_
  refine S_iadd (pc := 11) dX12_isTold_11 ?_
  obtain ⟨hb1, H⟩ := H
  refine S_iald (pc := 12) dX12_isTold_12 (sM_11 hs) hb1 ?_
  refine S_iconst (pc := 13) dX12_isTold_13 icm1 ?_
  refine S_icmp_eq (pc := 14) (tgt := 21) dX12_isTold_14 rfl (fun hc2 => ?_) (fun hc2 => ?_)
  · replace H := H.1 hc2
    refine S_iconst (pc := 21) dX12_isTold_21 ic0 ?_
    exact S_zreturn dX12_isTold_22 rfl (Or.inl rfl) H
  · replace H := H.2 hc2
    refine S_iconst (pc := 17) dX12_isTold_17 ic1 ?_
    refine S_goto (pc := 18) (tgt := 22) dX12_isTold_18 rfl ?_
    exact S_zreturn dX12_isTold_22 rfl (Or.inr rfl) H
set_option maxHeartbeats 2000000 in
set_option maxRecDepth 4000 in
theorem VX12_lays {l : Launch} {G : Gx} {d : Nat} {Q : Option Value → Hp → Prop} {sh : Sh} {fR : FRt} {B : Nat} {f : FI} {g : FL} {a1 : Int32} {a2 : Int32} (hs : StM sh fR B)
    (H : inb (((nI 40) * a1) + (nI 0)) 880 ∧ inb a2 4 ∧ inb (((((nI 40) * a1) + (nI 14)) + ((nI 6) * a2)) + (nI 2)) 880 ∧ Cl l G (d + 1) 0 0 mX12_flyingOn [.ref B, .int a1, .int a2] (sh, (up2 (up2 (up2 (up2 f (B + 31) 1 (f (B + 23) (((nI 40) * a1) + (nI 0)).toNatClampNeg)) (B + 31) 2 a2) (B + 31) 5 (f (B + 29) a2.toNatClampNeg)) (B + 31) 6 (f (B + 23) (((((nI 40) * a1) + (nI 14)) + ((nI 6) * a2)) + (nI 2)).toNatClampNeg)), g, fR) (qi sh fR fun x6 f4 g5 => inb (((((nI 40) * a1) + (nI 14)) + ((nI 6) * a2)) + (nI 3)) 880 ∧ Q none (sh, (up2 (up2 f4 (B + 31) 7 x6) (B + 31) 8 (f4 (B + 23) (((((nI 40) * a1) + (nI 14)) + ((nI 6) * a2)) + (nI 3)).toNatClampNeg)), g5, fR))) :
    Cl l G (d + 2) 0 0 mX12_lays [.ref B, .int a1, .int a2] (sh, f, g, fR) Q := by
  refine Cl.of (L0 := [some (.ref B), some (.int a1), some (.int a2)]) miX12_lays rfl rfl ?_
  refine S_aload_n (pc := 0) dX12_lays_0 rfl rfl ?_
  refine S_getR (pc := 1) dX12_lays_1 flX12_182 (sM_0 hs) rfl (rM_55 hs) ?_
  refine S_iconst (pc := 4) dX12_lays_4 ic1 ?_
  refine S_aload_n (pc := 5) dX12_lays_5 rfl rfl ?_
  refine S_iload_n (pc := 6) dX12_lays_6 rfl rfl ?_
  refine S_iconst (pc := 7) dX12_lays_7 ic0 ?_
  refine S_callV (As := [.int a1, .int (nI 0)]) (mc := 0) (ms := 0) (pc := 8) dX12_lays_8 miX12_n mvX12_n mlX12_402 rfl (sM_0 hs) rfl rfl rfl (RmOK.of rfl) (Q := fun r h => WP _ _ _ _ _ _ _ 11 [some (.ref B), some (.int a1), some (.int a2)] (r.toList ++ [.int (nI 1), .ref (B + 31)]) h) (Cl.of miX12_n rfl rfl ?_) (fun _ _ q => q)
  refine S_aload_n (pc := 0) dX12_n_0 rfl rfl ?_
  refine S_getR (pc := 1) dX12_n_1 flX12_144 (sM_0 hs) rfl (rM_43 hs) ?_
  refine S_bipush (pc := 4) dX12_n_4 bp40 ?_
  refine S_iload_n (pc := 6) dX12_n_6 rfl rfl ?_
  refine S_imul (pc := 7) dX12_n_7 ?_
  refine S_iload_n (pc := 8) dX12_n_8 rfl rfl ?_
  refine S_iadd (pc := 9) dX12_n_9 ?_
  obtain ⟨hb1, H⟩ := H
  refine S_iald (pc := 10) dX12_n_10 (sM_23 hs) hb1 ?_
  refine S_ireturn dX12_n_11 rfl ?_
  show WP _ _ _ _ _ _ _ 11 [some (.ref B), some (.int a1), some (.int a2)] [.int (f (B + 23) (((nI 40) * a1) + (nI 0)).toNatClampNeg), .int (nI 1), .ref (B + 31)] (sh, f, g, fR)
  refine S_iast (pc := 11) dX12_lays_11 (sM_31 hs) (Nat.succ_pos _) (vp_in_nI (by decide) (by decide)) ?_
  show WP _ _ _ _ _ _ _ 12 _ _ (sh, (up2 f (B + 31) 1 (f (B + 23) (((nI 40) * a1) + (nI 0)).toNatClampNeg)), g, fR)
  refine S_aload_n (pc := 12) dX12_lays_12 rfl rfl ?_
  refine S_getR (pc := 13) dX12_lays_13 flX12_182 (sM_0 hs) rfl (rM_55 hs) ?_
  refine S_iconst (pc := 16) dX12_lays_16 ic2 ?_
  refine S_iload_n (pc := 17) dX12_lays_17 rfl rfl ?_
  refine S_iast (pc := 18) dX12_lays_18 (sM_31 hs) (Nat.succ_pos _) (vp_in_nI (by decide) (by decide)) ?_
  show WP _ _ _ _ _ _ _ 19 _ _ (sh, (up2 (up2 f (B + 31) 1 (f (B + 23) (((nI 40) * a1) + (nI 0)).toNatClampNeg)) (B + 31) 2 a2), g, fR)
  refine S_aload_n (pc := 19) dX12_lays_19 rfl rfl ?_
  refine S_getR (pc := 20) dX12_lays_20 flX12_182 (sM_0 hs) rfl (rM_55 hs) ?_
  refine S_iconst (pc := 23) dX12_lays_23 ic5 ?_
  refine S_aload_n (pc := 24) dX12_lays_24 rfl rfl ?_
  refine S_getR (pc := 25) dX12_lays_25 flX12_176 (sM_0 hs) rfl (rM_53 hs) ?_
  refine S_iload_n (pc := 28) dX12_lays_28 rfl rfl ?_
  obtain ⟨hb2, H⟩ := H
  refine S_iald (pc := 29) dX12_lays_29 (sM_29 hs) hb2 ?_
  refine S_eqi (x := f (B + 29) a2.toNatClampNeg) ((up2_r (by omega)).trans ((up2_r (by omega)).trans rfl)) ?_
  refine S_iast (pc := 30) dX12_lays_30 (sM_31 hs) (Nat.succ_pos _) (vp_in_nI (by decide) (by decide)) ?_
  show WP _ _ _ _ _ _ _ 31 _ _ (sh, (up2 (up2 (up2 f (B + 31) 1 (f (B + 23) (((nI 40) * a1) + (nI 0)).toNatClampNeg)) (B + 31) 2 a2) (B + 31) 5 (f (B + 29) a2.toNatClampNeg)), g, fR)
  refine S_aload_n (pc := 31) dX12_lays_31 rfl rfl ?_
  refine S_getR (pc := 32) dX12_lays_32 flX12_182 (sM_0 hs) rfl (rM_55 hs) ?_
  refine S_bipush (pc := 35) dX12_lays_35 bp6 ?_
  refine S_aload_n (pc := 37) dX12_lays_37 rfl rfl ?_
  refine S_iload_n (pc := 38) dX12_lays_38 rfl rfl ?_
  refine S_iload_n (pc := 39) dX12_lays_39 rfl rfl ?_
  refine S_iconst (pc := 40) dX12_lays_40 ic2 ?_
  refine S_callV (As := [.int a1, .int a2, .int (nI 2)]) (mc := 0) (ms := 0) (pc := 41) dX12_lays_41 miX12_p mvX12_p mlX12_438 rfl (sM_0 hs) rfl rfl rfl (RmOK.of rfl) (Q := fun r h => WP _ _ _ _ _ _ _ 44 [some (.ref B), some (.int a1), some (.int a2)] (r.toList ++ [.int (nI 6), .ref (B + 31)]) h) (Cl.of miX12_p rfl rfl ?_) (fun _ _ q => q)
  refine S_aload_n (pc := 0) dX12_p_0 rfl rfl ?_
  refine S_getR (pc := 1) dX12_p_1 flX12_144 (sM_0 hs) rfl (rM_43 hs) ?_
  refine S_bipush (pc := 4) dX12_p_4 bp40 ?_
  refine S_iload_n (pc := 6) dX12_p_6 rfl rfl ?_
  refine S_imul (pc := 7) dX12_p_7 ?_
  refine S_bipush (pc := 8) dX12_p_8 bp14 ?_
  refine S_iadd (pc := 10) dX12_p_10 ?_
  refine S_bipush (pc := 11) dX12_p_11 bp6 ?_
  refine S_iload_n (pc := 13) dX12_p_13 rfl rfl ?_
  refine S_imul (pc := 14) dX12_p_14 ?_
  refine S_iadd (pc := 15) dX12_p_15 ?_
  refine S_iload_n (pc := 16) dX12_p_16 rfl rfl ?_
  refine S_iadd (pc := 17) dX12_p_17 ?_
  obtain ⟨hb3, H⟩ := H
  refine S_iald (pc := 18) dX12_p_18 (sM_23 hs) hb3 ?_
  refine S_eqi (x := f (B + 23) (((((nI 40) * a1) + (nI 14)) + ((nI 6) * a2)) + (nI 2)).toNatClampNeg) ((up2_r (by omega)).trans ((up2_r (by omega)).trans ((up2_r (by omega)).trans rfl))) ?_
  refine S_ireturn dX12_p_19 rfl ?_
  show WP _ _ _ _ _ _ _ 44 [some (.ref B), some (.int a1), some (.int a2)] [.int (f (B + 23) (((((nI 40) * a1) + (nI 14)) + ((nI 6) * a2)) + (nI 2)).toNatClampNeg), .int (nI 6), .ref (B + 31)] (sh, (up2 (up2 (up2 f (B + 31) 1 (f (B + 23) (((nI 40) * a1) + (nI 0)).toNatClampNeg)) (B + 31) 2 a2) (B + 31) 5 (f (B + 29) a2.toNatClampNeg)), g, fR)
  refine S_iast (pc := 44) dX12_lays_44 (sM_31 hs) (Nat.succ_pos _) (vp_in_nI (by decide) (by decide)) ?_
  show WP _ _ _ _ _ _ _ 45 _ _ (sh, (up2 (up2 (up2 (up2 f (B + 31) 1 (f (B + 23) (((nI 40) * a1) + (nI 0)).toNatClampNeg)) (B + 31) 2 a2) (B + 31) 5 (f (B + 29) a2.toNatClampNeg)) (B + 31) 6 (f (B + 23) (((((nI 40) * a1) + (nI 14)) + ((nI 6) * a2)) + (nI 2)).toNatClampNeg)), g, fR)
  refine S_aload_n (pc := 45) dX12_lays_45 rfl rfl ?_
  refine S_getR (pc := 46) dX12_lays_46 flX12_182 (sM_0 hs) rfl (rM_55 hs) ?_
  refine S_bipush (pc := 49) dX12_lays_49 bp7 ?_
  refine S_aload_n (pc := 51) dX12_lays_51 rfl rfl ?_
  refine S_iload_n (pc := 52) dX12_lays_52 rfl rfl ?_
  refine S_iload_n (pc := 53) dX12_lays_53 rfl rfl ?_
  refine S_callV (As := [.int a1, .int a2]) (mc := 0) (ms := 0) (pc := 54) dX12_lays_54 miX12_flyingOn mvX12_flyingOn mlX12_442 rfl (sM_0 hs) rfl rfl rfl (RmOK.of rfl) H ?_
  rintro _ _ ⟨x6, f4, g5, rfl, rfl, H⟩
  show WP _ _ _ _ _ _ _ 57 [some (.ref B), some (.int a1), some (.int a2)] [.int x6, .int (nI 7), .ref (B + 31)] (sh, f4, g5, fR)
  refine S_iast (pc := 57) dX12_lays_57 (sM_31 hs) (Nat.succ_pos _) (vp_in_nI (by decide) (by decide)) ?_
  show WP _ _ _ _ _ _ _ 58 _ _ (sh, (up2 f4 (B + 31) 7 x6), g5, fR)
  refine S_aload_n (pc := 58) dX12_lays_58 rfl rfl ?_
  refine S_getR (pc := 59) dX12_lays_59 flX12_182 (sM_0 hs) rfl (rM_55 hs) ?_
  refine S_bipush (pc := 62) dX12_lays_62 bp8 ?_
  refine S_aload_n (pc := 64) dX12_lays_64 rfl rfl ?_
  refine S_iload_n (pc := 65) dX12_lays_65 rfl rfl ?_
  refine S_iload_n (pc := 66) dX12_lays_66 rfl rfl ?_
  refine S_iconst (pc := 67) dX12_lays_67 ic3 ?_
  refine S_callV (As := [.int a1, .int a2, .int (nI 3)]) (mc := 0) (ms := 0) (pc := 68) dX12_lays_68 miX12_p mvX12_p mlX12_438 rfl (sM_0 hs) rfl rfl rfl (RmOK.of rfl) (Q := fun r h => WP _ _ _ _ _ _ _ 71 [some (.ref B), some (.int a1), some (.int a2)] (r.toList ++ [.int (nI 8), .ref (B + 31)]) h) (Cl.of miX12_p rfl rfl ?_) (fun _ _ q => q)
  refine S_aload_n (pc := 0) dX12_p_0 rfl rfl ?_
  refine S_getR (pc := 1) dX12_p_1 flX12_144 (sM_0 hs) rfl (rM_43 hs) ?_
  refine S_bipush (pc := 4) dX12_p_4 bp40 ?_
  refine S_iload_n (pc := 6) dX12_p_6 rfl rfl ?_
  refine S_imul (pc := 7) dX12_p_7 ?_
  refine S_bipush (pc := 8) dX12_p_8 bp14 ?_
  refine S_iadd (pc := 10) dX12_p_10 ?_
  refine S_bipush (pc := 11) dX12_p_11 bp6 ?_
  refine S_iload_n (pc := 13) dX12_p_13 rfl rfl ?_
  refine S_imul (pc := 14) dX12_p_14 ?_
  refine S_iadd (pc := 15) dX12_p_15 ?_
  refine S_iload_n (pc := 16) dX12_p_16 rfl rfl ?_
  refine S_iadd (pc := 17) dX12_p_17 ?_
  obtain ⟨hb7, H⟩ := H
  refine S_iald (pc := 18) dX12_p_18 (sM_23 hs) hb7 ?_
  refine S_eqi (x := f4 (B + 23) (((((nI 40) * a1) + (nI 14)) + ((nI 6) * a2)) + (nI 3)).toNatClampNeg) ((up2_r (by omega)).trans rfl) ?_
  refine S_ireturn dX12_p_19 rfl ?_
  show WP _ _ _ _ _ _ _ 71 [some (.ref B), some (.int a1), some (.int a2)] [.int (f4 (B + 23) (((((nI 40) * a1) + (nI 14)) + ((nI 6) * a2)) + (nI 3)).toNatClampNeg), .int (nI 8), .ref (B + 31)] (sh, (up2 f4 (B + 31) 7 x6), g5, fR)
  refine S_iast (pc := 71) dX12_lays_71 (sM_31 hs) (Nat.succ_pos _) (vp_in_nI (by decide) (by decide)) ?_
  show WP _ _ _ _ _ _ _ 72 _ _ (sh, (up2 (up2 f4 (B + 31) 7 x6) (B + 31) 8 (f4 (B + 23) (((((nI 40) * a1) + (nI 14)) + ((nI 6) * a2)) + (nI 3)).toNatClampNeg)), g5, fR)
  exact S_vreturn dX12_lays_72 rfl H
set_option maxHeartbeats 2000000 in
set_option maxRecDepth 4000 in
theorem VX12_isFree {l : Launch} {G : Gx} {d : Nat} {Q : Option Value → Hp → Prop} {sh : Sh} {fR : FRt} {B : Nat} {f : FI} {g : FL} {a1 : Int32} {a2 : Int32} (hs : StM sh fR B)
    (H : inb (((((nI 40) * a1) + (nI 14)) + ((nI 6) * a2)) + (nI 0)) 880 ∧ ((¬ (f (B + 23) (((((nI 40) * a1) + (nI 14)) + ((nI 6) * a2)) + (nI 0)).toNatClampNeg) = (nI 1) → Q (some (.int (nI 0))) (sh, f, g, fR)) ∧ ((f (B + 23) (((((nI 40) * a1) + (nI 14)) + ((nI 6) * a2)) + (nI 0)).toNatClampNeg) = (nI 1) → inb (((((nI 40) * a1) + (nI 14)) + ((nI 6) * a2)) + (nI 1)) 880 ∧ ((¬ (f (B + 23) (((((nI 40) * a1) + (nI 14)) + ((nI 6) * a2)) + (nI 1)).toNatClampNeg) = 0 → Q (some (.int (nI 0))) (sh, f, g, fR)) ∧ ((f (B + 23) (((((nI 40) * a1) + (nI 14)) + ((nI 6) * a2)) + (nI 1)).toNatClampNeg) = 0 → Q (some (.int (nI 1))) (sh, f, g, fR)))))) :
    Cl l G (d + 1) 0 0 mX12_isFree [.ref B, .int a1, .int a2] (sh, f, g, fR) Q := by
  refine Cl.of (L0 := [some (.ref B), some (.int a1), some (.int a2)]) miX12_isFree rfl rfl ?_
  refine S_aload_n (pc := 0) dX12_isFree_0 rfl rfl ?_
  refine S_iload_n (pc := 1) dX12_isFree_1 rfl rfl ?_
  refine S_iload_n (pc := 2) dX12_isFree_2 rfl rfl ?_
  refine S_iconst (pc := 3) dX12_isFree_3 ic0 ?_
  refine S_callV (As := [.int a1, .int a2, .int (nI 0)]) (mc := 0) (ms := 0) (pc := 4) dX12_isFree_4 miX12_p mvX12_p mlX12_438 rfl (sM_0 hs) rfl rfl rfl (RmOK.of rfl) (Q := fun r h => WP _ _ _ _ _ _ _ 7 [some (.ref B), some (.int a1), some (.int a2)] (r.toList ++ []) h) (Cl.of miX12_p rfl rfl ?_) (fun _ _ q => q)
  refine S_aload_n (pc := 0) dX12_p_0 rfl rfl ?_
  refine S_getR (pc := 1) dX12_p_1 flX12_144 (sM_0 hs) rfl (rM_43 hs) ?_
  refine S_bipush (pc := 4) dX12_p_4 bp40 ?_
  refine S_iload_n (pc := 6) dX12_p_6 rfl rfl ?_
  refine S_imul (pc := 7) dX12_p_7 ?_
  refine S_bipush (pc := 8) dX12_p_8 bp14 ?_
  refine S_iadd (pc := 10) dX12_p_10 ?_
  refine S_bipush (pc := 11) dX12_p_11 bp6 ?_
  refine S_iload_n (pc := 13) dX12_p_13 rfl rfl ?_
  refine S_imul (pc := 14) dX12_p_14 ?_
  refine S_iadd (pc := 15) dX12_p_15 ?_
  refine S_iload_n (pc := 16) dX12_p_16 rfl rfl ?_
  refine S_iadd (pc := 17) dX12_p_17 ?_
  obtain ⟨hb1, H⟩ := H
  refine S_iald (pc := 18) dX12_p_18 (sM_23 hs) hb1 ?_
  refine S_ireturn dX12_p_19 rfl ?_
  show WP _ _ _ _ _ _ _ 7 [some (.ref B), some (.int a1), some (.int a2)] [.int (f (B + 23) (((((nI 40) * a1) + (nI 14)) + ((nI 6) * a2)) + (nI 0)).toNatClampNeg)] (sh, f, g, fR)
  refine S_iconst (pc := 7) dX12_isFree_7 ic1 ?_
  refine S_icmp_ne (pc := 8) (tgt := 25) dX12_isFree_8 rfl (fun hc2 => ?_) (fun hc2 => ?_)
  · replace H := H.1 hc2
    refine S_iconst (pc := 25) dX12_isFree_25 ic0 ?_
    exact S_zreturn dX12_isFree_26 rfl (Or.inl rfl) H
  · replace H := H.2 hc2
    refine S_aload_n (pc := 11) dX12_isFree_11 rfl rfl ?_
    refine S_iload_n (pc := 12) dX12_isFree_12 rfl rfl ?_
    refine S_iload_n (pc := 13) dX12_isFree_13 rfl rfl ?_
    refine S_iconst (pc := 14) dX12_isFree_14 ic1 ?_
    refine S_callV (As := [.int a1, .int a2, .int (nI 1)]) (mc := 0) (ms := 0) (pc := 15) dX12_isFree_15 miX12_p mvX12_p mlX12_438 rfl (sM_0 hs) rfl rfl rfl (RmOK.of rfl) (Q := fun r h => WP _ _ _ _ _ _ _ 18 [some (.ref B), some (.int a1), some (.int a2)] (r.toList ++ []) h) (Cl.of miX12_p rfl rfl ?_) (fun _ _ q => q)
    refine S_aload_n (pc := 0) dX12_p_0 rfl rfl ?_
    refine S_getR (pc := 1) dX12_p_1 flX12_144 (sM_0 hs) rfl (rM_43 hs) ?_
    refine S_bipush (pc := 4) dX12_p_4 bp40 ?_
    refine S_iload_n (pc := 6) dX12_p_6 rfl rfl ?_
    refine S_imul (pc := 7) dX12_p_7 ?_
    refine S_bipush (pc := 8) dX12_p_8 bp14 ?_
    refine S_iadd (pc := 10) dX12_p_10 ?_
    refine S_bipush (pc := 11) dX12_p_11 bp6 ?_
    refine S_iload_n (pc := 13) dX12_p_13 rfl rfl ?_
    refine S_imul (pc := 14) dX12_p_14 ?_
    refine S_iadd (pc := 15) dX12_p_15 ?_
    refine S_iload_n (pc := 16) dX12_p_16 rfl rfl ?_
    refine S_iadd (pc := 17) dX12_p_17 ?_
    obtain ⟨hb3, H⟩ := H
    refine S_iald (pc := 18) dX12_p_18 (sM_23 hs) hb3 ?_
    refine S_ireturn dX12_p_19 rfl ?_
    show WP _ _ _ _ _ _ _ 18 [some (.ref B), some (.int a1), some (.int a2)] [.int (f (B + 23) (((((nI 40) * a1) + (nI 14)) + ((nI 6) * a2)) + (nI 1)).toNatClampNeg)] (sh, f, g, fR)
    refine S_if_ne (pc := 18) (tgt := 25) dX12_isFree_18 rfl (fun hc4 => ?_) (fun hc4 => ?_)
    · replace H := H.1 hc4
      refine S_iconst (pc := 25) dX12_isFree_25 ic0 ?_
      exact S_zreturn dX12_isFree_26 rfl (Or.inl rfl) H
    · replace H := H.2 hc4
      refine S_iconst (pc := 21) dX12_isFree_21 ic1 ?_
      refine S_goto (pc := 22) (tgt := 26) dX12_isFree_22 rfl ?_
      exact S_zreturn dX12_isFree_26 rfl (Or.inr rfl) H
abbrev LpX12_flyingOn_5 (l : Launch) (G : Gx) (d : Nat) (Q : Option Value → Hp → Prop) (sh : Sh) (fR : FRt) (B : Nat) (f : FI) (g : FL) (a1 : Int32) (a2 : Int32) (a3 : Int32) (a4 : Int32) : Prop := WP l G (Zq G 0 0 Q) mX12_flyingOn (rmd (d + 1) 0 0) 0 0 5 [some (.ref B), some (.int a1), some (.int a2), some (.int a3), some (.int a4)] [] (sh, f, g, fR)
set_option maxHeartbeats 2000000 in
set_option maxRecDepth 4000 in
theorem VX12_flyingOn {l : Launch} {G : Gx} {d : Nat} {Q : Option Value → Hp → Prop} {sh : Sh} {fR : FRt} {B : Nat} {f : FI} {g : FL} {a1 : Int32} {a2 : Int32} (hs : StM sh fR B)
    (H : LpX12_flyingOn_5 l G d Q sh fR B f g a1 a2 (nI 0) (nI 0)) :
    Cl l G (d + 1) 0 0 mX12_flyingOn [.ref B, .int a1, .int a2] (sh, f, g, fR) Q := by
  refine Cl.of (L0 := [some (.ref B), some (.int a1), some (.int a2), none, none]) miX12_flyingOn rfl rfl ?_
  refine S_iconst (pc := 0) dX12_flyingOn_0 ic0 ?_
  refine S_istore_n (pc := 1) (L' := [some (.ref B), some (.int a1), some (.int a2), some (.int (nI 0)), none]) dX12_flyingOn_1 rfl (by decide) rfl ?_
  refine S_iconst (pc := 2) dX12_flyingOn_2 ic0 ?_
  refine S_istore (pc := 3) (L' := [some (.ref B), some (.int a1), some (.int a2), some (.int (nI 0)), some (.int (nI 0))]) dX12_flyingOn_3 (by decide) rfl ?_
  exact H
set_option maxHeartbeats 2000000 in
set_option maxRecDepth 4000 in
theorem VX12_flyingOn_5 {l : Launch} {G : Gx} {d : Nat} {Q : Option Value → Hp → Prop} {sh : Sh} {fR : FRt} {B : Nat} {f : FI} {g : FL} {a1 : Int32} {a2 : Int32} {a3 : Int32} {a4 : Int32} (hs : StM sh fR B)
    (H : inb (((nI 40) * a1) + (nI 6)) 880 ∧ (((f (B + 23) (((nI 40) * a1) + (nI 6)).toNatClampNeg) ≤ a4 → Q (some (.int a3)) (sh, f, g, fR)) ∧ (¬ (f (B + 23) (((nI 40) * a1) + (nI 6)).toNatClampNeg) ≤ a4 → inb (((nI 8) * (((nI 480) * a1) + a4)) + (nI 6)) 84480 ∧ ((¬ (f (B + 24) (((nI 8) * (((nI 480) * a1) + a4)) + (nI 6)).toNatClampNeg) = (nI 1) → (∀ w5 : Int32, w5 = a3 + (nI 0) → LpX12_flyingOn_5 l G d Q sh fR B f g a1 a2 w5 (a4 + nI 1))) ∧ ((f (B + 24) (((nI 8) * (((nI 480) * a1) + a4)) + (nI 6)).toNatClampNeg) = (nI 1) → inb (((nI 8) * (((nI 480) * a1) + a4)) + (nI 0)) 84480 ∧ ((¬ (f (B + 24) (((nI 8) * (((nI 480) * a1) + a4)) + (nI 0)).toNatClampNeg) = a2 → (∀ w9 : Int32, w9 = a3 + (nI 0) → LpX12_flyingOn_5 l G d Q sh fR B f g a1 a2 w9 (a4 + nI 1))) ∧ ((f (B + 24) (((nI 8) * (((nI 480) * a1) + a4)) + (nI 0)).toNatClampNeg) = a2 → (∀ w11 : Int32, w11 = a3 + (nI 1) → LpX12_flyingOn_5 l G d Q sh fR B f g a1 a2 w11 (a4 + nI 1))))))))) :
    LpX12_flyingOn_5 l G d Q sh fR B f g a1 a2 a3 a4 := by
  refine S_iload (pc := 5) dX12_flyingOn_5 rfl ?_
  refine S_aload_n (pc := 7) dX12_flyingOn_7 rfl rfl ?_
  refine S_iload_n (pc := 8) dX12_flyingOn_8 rfl rfl ?_
  refine S_bipush (pc := 9) dX12_flyingOn_9 bp6 ?_
  refine S_callV (As := [.int a1, .int (nI 6)]) (mc := 0) (ms := 0) (pc := 11) dX12_flyingOn_11 miX12_n mvX12_n mlX12_402 rfl (sM_0 hs) rfl rfl rfl (RmOK.of rfl) (Q := fun r h => WP _ _ _ _ _ _ _ 14 [some (.ref B), some (.int a1), some (.int a2), some (.int a3), some (.int a4)] (r.toList ++ [.int a4]) h) (Cl.of miX12_n rfl rfl ?_) (fun _ _ q => q)
  refine S_aload_n (pc := 0) dX12_n_0 rfl rfl ?_
  refine S_getR (pc := 1) dX12_n_1 flX12_144 (sM_0 hs) rfl (rM_43 hs) ?_
  refine S_bipush (pc := 4) dX12_n_4 bp40 ?_
  refine S_iload_n (pc := 6) dX12_n_6 rfl rfl ?_
  refine S_imul (pc := 7) dX12_n_7 ?_
  refine S_iload_n (pc := 8) dX12_n_8 rfl rfl ?_
  refine S_iadd (pc := 9) dX12_n_9 ?_
  obtain ⟨hb1, H⟩ := H
  refine S_iald (pc := 10) dX12_n_10 (sM_23 hs) hb1 ?_
  refine S_ireturn dX12_n_11 rfl ?_
  show WP _ _ _ _ _ _ _ 14 [some (.ref B), some (.int a1), some (.int a2), some (.int a3), some (.int a4)] [.int (f (B + 23) (((nI 40) * a1) + (nI 6)).toNatClampNeg), .int a4] (sh, f, g, fR)
  refine S_icmp_ge (pc := 14) (tgt := 56) dX12_flyingOn_14 rfl (fun hc2 => ?_) (fun hc2 => ?_)
  · replace H := H.1 hc2
    refine S_iload_n (pc := 56) dX12_flyingOn_56 rfl rfl ?_
    exact S_ireturn dX12_flyingOn_57 rfl H
  · replace H := H.2 hc2
    refine S_iload_n (pc := 17) dX12_flyingOn_17 rfl rfl ?_
    refine S_aload_n (pc := 18) dX12_flyingOn_18 rfl rfl ?_
    refine S_iload_n (pc := 19) dX12_flyingOn_19 rfl rfl ?_
    refine S_iload (pc := 20) dX12_flyingOn_20 rfl ?_
    refine S_bipush (pc := 22) dX12_flyingOn_22 bp6 ?_
    refine S_callV (As := [.int a1, .int a4, .int (nI 6)]) (mc := 0) (ms := 0) (pc := 24) dX12_flyingOn_24 miX12_s mvX12_s mlX12_445 rfl (sM_0 hs) rfl rfl rfl (RmOK.of rfl) (Q := fun r h => WP _ _ _ _ _ _ _ 27 [some (.ref B), some (.int a1), some (.int a2), some (.int a3), some (.int a4)] (r.toList ++ [.int a3]) h) (Cl.of miX12_s rfl rfl ?_) (fun _ _ q => q)
    refine S_aload_n (pc := 0) dX12_s_0 rfl rfl ?_
    refine S_getR (pc := 1) dX12_s_1 flX12_148 (sM_0 hs) rfl (rM_44 hs) ?_
    refine S_bipush (pc := 4) dX12_s_4 bp8 ?_
    refine S_sipush (pc := 6) dX12_s_6 sp480 ?_
    refine S_iload_n (pc := 9) dX12_s_9 rfl rfl ?_
    refine S_imul (pc := 10) dX12_s_10 ?_
    refine S_iload_n (pc := 11) dX12_s_11 rfl rfl ?_
    refine S_iadd (pc := 12) dX12_s_12 ?_
    refine S_imul (pc := 13) dX12_s_13 ?_
    refine S_iload_n (pc := 14) dX12_s_14 rfl rfl ?_
    refine S_iadd (pc := 15) dX12_s_15 ?_
    obtain ⟨hb3, H⟩ := H
    refine S_iald (pc := 16) dX12_s_16 (sM_24 hs) hb3 ?_
    refine S_ireturn dX12_s_17 rfl ?_
    show WP _ _ _ _ _ _ _ 27 [some (.ref B), some (.int a1), some (.int a2), some (.int a3), some (.int a4)] [.int (f (B + 24) (((nI 8) * (((nI 480) * a1) + a4)) + (nI 6)).toNatClampNeg), .int a3] (sh, f, g, fR)
    refine S_iconst (pc := 27) dX12_flyingOn_27 ic1 ?_
    refine S_icmp_ne (pc := 28) (tgt := 47) dX12_flyingOn_28 rfl (fun hc4 => ?_) (fun hc4 => ?_)
    · replace H := H.1 hc4
      refine S_iconst (pc := 47) dX12_flyingOn_47 ic0 ?_
      refine S_iadd (pc := 48) dX12_flyingOn_48 ?_
      refine S_namei (fun w5 e6 => ?_)
      replace H := H w5 e6
      refine S_istore_n (pc := 49) (L' := [some (.ref B), some (.int a1), some (.int a2), some (.int w5), some (.int a4)]) dX12_flyingOn_49 rfl (by decide) rfl ?_
      refine S_iinc (pc := 50) (v := nI 1) (L' := [some (.ref B), some (.int a1), some (.int a2), some (.int w5), some (.int (a4 + nI 1))]) dX12_flyingOn_50 rfl ic1 rfl ?_
      refine S_goto (pc := 53) (tgt := 5) dX12_flyingOn_53 rfl ?_
      exact H
    · replace H := H.2 hc4
      refine S_aload_n (pc := 31) dX12_flyingOn_31 rfl rfl ?_
      refine S_iload_n (pc := 32) dX12_flyingOn_32 rfl rfl ?_
      refine S_iload (pc := 33) dX12_flyingOn_33 rfl ?_
      refine S_iconst (pc := 35) dX12_flyingOn_35 ic0 ?_
      refine S_callV (As := [.int a1, .int a4, .int (nI 0)]) (mc := 0) (ms := 0) (pc := 36) dX12_flyingOn_36 miX12_s mvX12_s mlX12_445 rfl (sM_0 hs) rfl rfl rfl (RmOK.of rfl) (Q := fun r h => WP _ _ _ _ _ _ _ 39 [some (.ref B), some (.int a1), some (.int a2), some (.int a3), some (.int a4)] (r.toList ++ [.int a3]) h) (Cl.of miX12_s rfl rfl ?_) (fun _ _ q => q)
      refine S_aload_n (pc := 0) dX12_s_0 rfl rfl ?_
      refine S_getR (pc := 1) dX12_s_1 flX12_148 (sM_0 hs) rfl (rM_44 hs) ?_
      refine S_bipush (pc := 4) dX12_s_4 bp8 ?_
      refine S_sipush (pc := 6) dX12_s_6 sp480 ?_
      refine S_iload_n (pc := 9) dX12_s_9 rfl rfl ?_
      refine S_imul (pc := 10) dX12_s_10 ?_
      refine S_iload_n (pc := 11) dX12_s_11 rfl rfl ?_
      refine S_iadd (pc := 12) dX12_s_12 ?_
      refine S_imul (pc := 13) dX12_s_13 ?_
      refine S_iload_n (pc := 14) dX12_s_14 rfl rfl ?_
      refine S_iadd (pc := 15) dX12_s_15 ?_
      obtain ⟨hb7, H⟩ := H
      refine S_iald (pc := 16) dX12_s_16 (sM_24 hs) hb7 ?_
      refine S_ireturn dX12_s_17 rfl ?_
      show WP _ _ _ _ _ _ _ 39 [some (.ref B), some (.int a1), some (.int a2), some (.int a3), some (.int a4)] [.int (f (B + 24) (((nI 8) * (((nI 480) * a1) + a4)) + (nI 0)).toNatClampNeg), .int a3] (sh, f, g, fR)
      refine S_iload_n (pc := 39) dX12_flyingOn_39 rfl rfl ?_
      refine S_icmp_ne (pc := 40) (tgt := 47) dX12_flyingOn_40 rfl (fun hc8 => ?_) (fun hc8 => ?_)
      · replace H := H.1 hc8
        refine S_iconst (pc := 47) dX12_flyingOn_47 ic0 ?_
        refine S_iadd (pc := 48) dX12_flyingOn_48 ?_
        refine S_namei (fun w9 e10 => ?_)
        replace H := H w9 e10
        refine S_istore_n (pc := 49) (L' := [some (.ref B), some (.int a1), some (.int a2), some (.int w9), some (.int a4)]) dX12_flyingOn_49 rfl (by decide) rfl ?_
        refine S_iinc (pc := 50) (v := nI 1) (L' := [some (.ref B), some (.int a1), some (.int a2), some (.int w9), some (.int (a4 + nI 1))]) dX12_flyingOn_50 rfl ic1 rfl ?_
        refine S_goto (pc := 53) (tgt := 5) dX12_flyingOn_53 rfl ?_
        exact H
      · replace H := H.2 hc8
        refine S_iconst (pc := 43) dX12_flyingOn_43 ic1 ?_
        refine S_goto (pc := 44) (tgt := 48) dX12_flyingOn_44 rfl ?_
        refine S_iadd (pc := 48) dX12_flyingOn_48 ?_
        refine S_namei (fun w11 e12 => ?_)
        replace H := H w11 e12
        refine S_istore_n (pc := 49) (L' := [some (.ref B), some (.int a1), some (.int a2), some (.int w11), some (.int a4)]) dX12_flyingOn_49 rfl (by decide) rfl ?_
        refine S_iinc (pc := 50) (v := nI 1) (L' := [some (.ref B), some (.int a1), some (.int a2), some (.int w11), some (.int (a4 + nI 1))]) dX12_flyingOn_50 rfl ic1 rfl ?_
        refine S_goto (pc := 53) (tgt := 5) dX12_flyingOn_53 rfl ?_
        exact H
abbrev LpX12_waitOf_36 (l : Launch) (G : Gx) (d : Nat) (Q : Option Value → Hp → Prop) (sh : Sh) (fR : FRt) (B : Nat) (f : FI) (g : FL) (b3 : Int64) : Prop := WP l G (Zq G 0 0 Q) mX12_waitOf (rmd (d + 3) 0 0) 0 0 36 [none, none, none, some (.long b3), none] [] (sh, f, g, fR)
set_option maxHeartbeats 2000000 in
set_option maxRecDepth 4000 in
theorem VX12_waitOf {l : Launch} {G : Gx} {d : Nat} {Q : Option Value → Hp → Prop} {sh : Sh} {fR : FRt} {B : Nat} {f : FI} {g : FL} {a1 : Int32} {a2 : Int32} (hs : StM sh fR B)
    (H : inb a2 4 ∧ (∀ z2 : Int64, z2 = ((lN 4) * ((f (B + 29) a2.toNatClampNeg).toInt64)) + (lN 2) → Cl l G (d + 2) 0 0 mX12_isTold [.ref B, .int (nI 3)] (sh, f, g, fR) (qi sh fR fun x6 f4 g5 => ((x6 = 0 → LpX12_waitOf_36 l G d Q sh fR B f4 g5 z2) ∧ (¬ x6 = 0 → Cl l G (d + 2) 0 0 mX12_lays [.ref B, .int a1, .int a2] (sh, f4, g5, fR) (qv sh fR fun f8 g9 => Cl l G (d + 2) 0 0 mX12_reckons [.ref B, .int (nI 3)] (sh, f8, g9, fR) (ql sh fR fun y12 f10 g11 => LpX12_waitOf_36 l G d Q sh fR B f10 g11 y12))))))) :
    Cl l G (d + 3) 0 0 mX12_waitOf [.ref B, .int a1, .int a2] (sh, f, g, fR) Q := by
  refine Cl.of (L0 := [some (.ref B), some (.int a1), some (.int a2), none, none]) miX12_waitOf rfl rfl ?_
  refine S_ldc2 (pc := 0) (v := lN 4) dX12_waitOf_0 (gw 1653 rfl rfl) ?_
  refine S_aload_n (pc := 3) dX12_waitOf_3 rfl rfl ?_
  refine S_getR (pc := 4) dX12_waitOf_4 flX12_176 (sM_0 hs) rfl (rM_53 hs) ?_
  refine S_iload_n (pc := 7) dX12_waitOf_7 rfl rfl ?_
  obtain ⟨hb1, H⟩ := H
  refine S_iald (pc := 8) dX12_waitOf_8 (sM_29 hs) hb1 ?_
  refine S_i2l (pc := 9) dX12_waitOf_9 ?_
  refine S_lmul (pc := 10) dX12_waitOf_10 ?_
  refine S_ldc2 (pc := 11) (v := lN 2) dX12_waitOf_11 (gw 1654 rfl rfl) ?_
  refine S_ladd (pc := 14) dX12_waitOf_14 ?_
  refine S_namel (fun z2 e3 => ?_)
  replace H := H z2 e3
  refine S_lstore_n (pc := 15) (L' := [some (.ref B), some (.int a1), some (.int a2), some (.long z2), none]) dX12_waitOf_15 rfl (by decide) rfl ?_
  refine S_aload_n (pc := 16) dX12_waitOf_16 rfl rfl ?_
  refine S_iconst (pc := 17) dX12_waitOf_17 ic3 ?_
  refine S_callV (As := [.int (nI 3)]) (mc := 0) (ms := 0) (pc := 18) dX12_waitOf_18 miX12_isTold mvX12_isTold mlX12_452 rfl (sM_0 hs) rfl rfl rfl (RmOK.of rfl) H ?_
  rintro _ _ ⟨x6, f4, g5, rfl, rfl, H⟩
  show WP _ _ _ _ _ _ _ 21 [some (.ref B), some (.int a1), some (.int a2), some (.long z2), none] [.int x6] (sh, f4, g5, fR)
  refine S_if_eq (pc := 21) (tgt := 36) dX12_waitOf_21 rfl (fun hc7 => ?_) (fun hc7 => ?_)
  · replace H := H.1 hc7
    exact S_weak (L' := [none, none, none, some (.long z2), none]) (ls_n (ls_n (ls_n (ls_e (ls_e ls_0))))) H
  · replace H := H.2 hc7
    refine S_aload_n (pc := 24) dX12_waitOf_24 rfl rfl ?_
    refine S_iload_n (pc := 25) dX12_waitOf_25 rfl rfl ?_
    refine S_iload_n (pc := 26) dX12_waitOf_26 rfl rfl ?_
    refine S_callV (As := [.int a1, .int a2]) (mc := 0) (ms := 0) (pc := 27) dX12_waitOf_27 miX12_lays mvX12_lays mlX12_455 rfl (sM_0 hs) rfl rfl rfl (RmOK.of rfl) H ?_
    rintro _ _ ⟨f8, g9, rfl, rfl, H⟩
    show WP _ _ _ _ _ _ _ 30 [some (.ref B), some (.int a1), some (.int a2), some (.long z2), none] [] (sh, f8, g9, fR)
    refine S_aload_n (pc := 30) dX12_waitOf_30 rfl rfl ?_
    refine S_iconst (pc := 31) dX12_waitOf_31 ic3 ?_
    refine S_callV (As := [.int (nI 3)]) (mc := 0) (ms := 0) (pc := 32) dX12_waitOf_32 miX12_reckons mvX12_reckons mlX12_458 rfl (sM_0 hs) rfl rfl rfl (RmOK.of rfl) H ?_
    rintro _ _ ⟨y12, f10, g11, rfl, rfl, H⟩
    show WP _ _ _ _ _ _ _ 35 [some (.ref B), some (.int a1), some (.int a2), some (.long z2), none] [.long y12] (sh, f10, g11, fR)
    refine S_lstore_n (pc := 35) (L' := [some (.ref B), some (.int a1), some (.int a2), some (.long y12), none]) dX12_waitOf_35 rfl (by decide) rfl ?_
    exact S_weak (L' := [none, none, none, some (.long y12), none]) (ls_n (ls_n (ls_n (ls_e (ls_e ls_0))))) H
set_option maxHeartbeats 2000000 in
set_option maxRecDepth 4000 in
theorem VX12_waitOf_36 {l : Launch} {G : Gx} {d : Nat} {Q : Option Value → Hp → Prop} {sh : Sh} {fR : FRt} {B : Nat} {f : FI} {g : FL} {b3 : Int64} (hs : StM sh fR B)
    (H : (((lN 1) ≤ b3 → ((b3 ≤ (lN 99) → Q (some (.int b3.toInt32)) (sh, f, g, fR)) ∧ (¬ b3 ≤ (lN 99) → Q (some (.int (nI 99))) (sh, f, g, fR)))) ∧ (¬ (lN 1) ≤ b3 → Q (some (.int (nI 1))) (sh, f, g, fR)))) :
    LpX12_waitOf_36 l G d Q sh fR B f g b3 := by
  refine S_lload_n (pc := 36) dX12_waitOf_36 rfl rfl ?_
  refine S_lconst (pc := 37) dX12_waitOf_37 lc1 ?_
  refine S_lcmp_ge (pc := 38) (tgt := 46) dX12_waitOf_38 dX12_waitOf_39 rfl (fun hc13 => ?_) (fun hc13 => ?_)
  · replace H := H.1 hc13
    refine S_lload_n (pc := 46) dX12_waitOf_46 rfl rfl ?_
    refine S_ldc2 (pc := 47) (v := lN 99) dX12_waitOf_47 (gw 1678 rfl rfl) ?_
    refine S_lcmp_le (pc := 50) (tgt := 59) dX12_waitOf_50 dX12_waitOf_51 rfl (fun hc14 => ?_) (fun hc14 => ?_)
    · replace H := H.1 hc14
      refine S_lload_n (pc := 59) dX12_waitOf_59 rfl rfl ?_
      refine S_l2i (pc := 60) dX12_waitOf_60 ?_
      exact S_ireturn dX12_waitOf_61 rfl H
    · replace H := H.2 hc14
      refine S_bipush (pc := 54) dX12_waitOf_54 bp99 ?_
      refine S_goto (pc := 56) (tgt := 61) dX12_waitOf_56 rfl ?_
      exact S_ireturn dX12_waitOf_61 rfl H
  · replace H := H.2 hc13
    refine S_iconst (pc := 42) dX12_waitOf_42 ic1 ?_
    refine S_goto (pc := 43) (tgt := 61) dX12_waitOf_43 rfl ?_
    exact S_ireturn dX12_waitOf_61 rfl H
abbrev LpX12_writesDown_63 (l : Launch) (G : Gx) (d : Nat) (Q : Option Value → Hp → Prop) (sh : Sh) (fR : FRt) (B : Nat) (f : FI) (g : FL) (a1 : Int32) (a2 : Int32) (a3 : Int32) (a4 : Int32) : Prop := WP l G (Zq G 0 0 Q) mX12_writesDown (rmd (d + 1) 0 0) 0 0 63 [some (.ref B), some (.int a1), some (.int a2), some (.int a3), some (.int a4), none] [] (sh, f, g, fR)
abbrev LpX12_writesDown_18 (l : Launch) (G : Gx) (d : Nat) (Q : Option Value → Hp → Prop) (sh : Sh) (fR : FRt) (B : Nat) (f : FI) (g : FL) (a1 : Int32) (a2 : Int32) (a3 : Int32) (a4 : Int32) (a5 : Int32) : Prop := WP l G (Zq G 0 0 Q) mX12_writesDown (rmd (d + 1) 0 0) 0 0 18 [some (.ref B), some (.int a1), some (.int a2), some (.int a3), some (.int a4), some (.int a5)] [] (sh, f, g, fR)
set_option maxHeartbeats 2000000 in
set_option maxRecDepth 4000 in
theorem VX12_writesDown {l : Launch} {G : Gx} {d : Nat} {Q : Option Value → Hp → Prop} {sh : Sh} {fR : FRt} {B : Nat} {f : FI} {g : FL} {a1 : Int32} {a2 : Int32} {a3 : Int32} {a4 : Int32} (hs : StM sh fR B)
    (H : inb (((nI 40) * a1) + (nI 9)) 880 ∧ ((¬ (f (B + 23) (((nI 40) * a1) + (nI 9)).toNatClampNeg) = (nI 40) → LpX12_writesDown_63 l G d Q sh fR B f g a1 a2 a3 a4) ∧ ((f (B + 23) (((nI 40) * a1) + (nI 9)).toNatClampNeg) = (nI 40) → (∀ w3 : Int32, w3 = (nI 120) * a1 → LpX12_writesDown_18 l G d Q sh fR B f g a1 a2 a3 a4 w3)))) :
    Cl l G (d + 1) 0 0 mX12_writesDown [.ref B, .int a1, .int a2, .int a3, .int a4] (sh, f, g, fR) Q := by
  refine Cl.of (L0 := [some (.ref B), some (.int a1), some (.int a2), some (.int a3), some (.int a4), none]) miX12_writesDown rfl rfl ?_
  refine S_aload_n (pc := 0) dX12_writesDown_0 rfl rfl ?_
  refine S_iload_n (pc := 1) dX12_writesDown_1 rfl rfl ?_
  refine S_bipush (pc := 2) dX12_writesDown_2 bp9 ?_
  refine S_callV (As := [.int a1, .int (nI 9)]) (mc := 0) (ms := 0) (pc := 4) dX12_writesDown_4 miX12_n mvX12_n mlX12_402 rfl (sM_0 hs) rfl rfl rfl (RmOK.of rfl) (Q := fun r h => WP _ _ _ _ _ _ _ 7 [some (.ref B), some (.int a1), some (.int a2), some (.int a3), some (.int a4), none] (r.toList ++ []) h) (Cl.of miX12_n rfl rfl ?_) (fun _ _ q => q)
  refine S_aload_n (pc := 0) dX12_n_0 rfl rfl ?_
  refine S_getR (pc := 1) dX12_n_1 flX12_144 (sM_0 hs) rfl (rM_43 hs) ?_
  refine S_bipush (pc := 4) dX12_n_4 bp40 ?_
  refine S_iload_n (pc := 6) dX12_n_6 rfl rfl ?_
  refine S_imul (pc := 7) dX12_n_7 ?_
  refine S_iload_n (pc := 8) dX12_n_8 rfl rfl ?_
  refine S_iadd (pc := 9) dX12_n_9 ?_
  obtain ⟨hb1, H⟩ := H
  refine S_iald (pc := 10) dX12_n_10 (sM_23 hs) hb1 ?_
  refine S_ireturn dX12_n_11 rfl ?_
  show WP _ _ _ _ _ _ _ 7 [some (.ref B), some (.int a1), some (.int a2), some (.int a3), some (.int a4), none] [.int (f (B + 23) (((nI 40) * a1) + (nI 9)).toNatClampNeg)] (sh, f, g, fR)
  refine S_bipush (pc := 7) dX12_writesDown_7 bp40 ?_
  refine S_icmp_ne (pc := 9) (tgt := 63) dX12_writesDown_9 rfl (fun hc2 => ?_) (fun hc2 => ?_)
  · replace H := H.1 hc2
    exact H
  · replace H := H.2 hc2
    refine S_bipush (pc := 12) dX12_writesDown_12 bp120 ?_
    refine S_iload_n (pc := 14) dX12_writesDown_14 rfl rfl ?_
    refine S_imul (pc := 15) dX12_writesDown_15 ?_
    refine S_namei (fun w3 e4 => ?_)
    replace H := H w3 e4
    refine S_istore (pc := 16) (L' := [some (.ref B), some (.int a1), some (.int a2), some (.int a3), some (.int a4), some (.int w3)]) dX12_writesDown_16 (by decide) rfl ?_
    exact H
set_option maxHeartbeats 2000000 in
set_option maxRecDepth 4000 in
theorem VX12_writesDown_63 {l : Launch} {G : Gx} {d : Nat} {Q : Option Value → Hp → Prop} {sh : Sh} {fR : FRt} {B : Nat} {f : FI} {g : FL} {a1 : Int32} {a2 : Int32} {a3 : Int32} {a4 : Int32} (hs : StM sh fR B)
    (H : inb (((nI 40) * a1) + (nI 9)) 880 ∧ (∀ w6 : Int32, w6 = (nI 3) * (((nI 40) * a1) + (f (B + 23) (((nI 40) * a1) + (nI 9)).toNatClampNeg)) → inb w6 2640 ∧ inb (w6 + (nI 1)) 2640 ∧ inb (w6 + (nI 2)) 2640 ∧ inb (((nI 40) * a1) + (nI 9)) 880 ∧ inb (((nI 40) * a1) + (nI 9)) 880 ∧ Q none (sh, (up2 (up2 (up2 (up2 f (B + 28) w6.toNatClampNeg a2) (B + 28) (w6 + (nI 1)).toNatClampNeg a3) (B + 28) (w6 + (nI 2)).toNatClampNeg a4) (B + 23) (((nI 40) * a1) + (nI 9)).toNatClampNeg ((f (B + 23) (((nI 40) * a1) + (nI 9)).toNatClampNeg) + (nI 1))), g, fR))) :
    LpX12_writesDown_63 l G d Q sh fR B f g a1 a2 a3 a4 := by
  refine S_iconst (pc := 63) dX12_writesDown_63 ic3 ?_
  refine S_bipush (pc := 64) dX12_writesDown_64 bp40 ?_
  refine S_iload_n (pc := 66) dX12_writesDown_66 rfl rfl ?_
  refine S_imul (pc := 67) dX12_writesDown_67 ?_
  refine S_aload_n (pc := 68) dX12_writesDown_68 rfl rfl ?_
  refine S_iload_n (pc := 69) dX12_writesDown_69 rfl rfl ?_
  refine S_bipush (pc := 70) dX12_writesDown_70 bp9 ?_
  refine S_callV (As := [.int a1, .int (nI 9)]) (mc := 0) (ms := 0) (pc := 72) dX12_writesDown_72 miX12_n mvX12_n mlX12_402 rfl (sM_0 hs) rfl rfl rfl (RmOK.of rfl) (Q := fun r h => WP _ _ _ _ _ _ _ 75 [some (.ref B), some (.int a1), some (.int a2), some (.int a3), some (.int a4), none] (r.toList ++ [.int ((nI 40) * a1), .int (nI 3)]) h) (Cl.of miX12_n rfl rfl ?_) (fun _ _ q => q)
  refine S_aload_n (pc := 0) dX12_n_0 rfl rfl ?_
  refine S_getR (pc := 1) dX12_n_1 flX12_144 (sM_0 hs) rfl (rM_43 hs) ?_
  refine S_bipush (pc := 4) dX12_n_4 bp40 ?_
  refine S_iload_n (pc := 6) dX12_n_6 rfl rfl ?_
  refine S_imul (pc := 7) dX12_n_7 ?_
  refine S_iload_n (pc := 8) dX12_n_8 rfl rfl ?_
  refine S_iadd (pc := 9) dX12_n_9 ?_
  obtain ⟨hb5, H⟩ := H
  refine S_iald (pc := 10) dX12_n_10 (sM_23 hs) hb5 ?_
  refine S_ireturn dX12_n_11 rfl ?_
  show WP _ _ _ _ _ _ _ 75 [some (.ref B), some (.int a1), some (.int a2), some (.int a3), some (.int a4), none] [.int (f (B + 23) (((nI 40) * a1) + (nI 9)).toNatClampNeg), .int ((nI 40) * a1), .int (nI 3)] (sh, f, g, fR)
  refine S_iadd (pc := 75) dX12_writesDown_75 ?_
  refine S_imul (pc := 76) dX12_writesDown_76 ?_
  refine S_namei (fun w6 e7 => ?_)
  replace H := H w6 e7
  refine S_istore (pc := 77) (L' := [some (.ref B), some (.int a1), some (.int a2), some (.int a3), some (.int a4), some (.int w6)]) dX12_writesDown_77 (by decide) rfl ?_
  refine S_aload_n (pc := 79) dX12_writesDown_79 rfl rfl ?_
  refine S_getR (pc := 80) dX12_writesDown_80 flX12_161 (sM_0 hs) rfl (rM_48 hs) ?_
  refine S_iload (pc := 83) dX12_writesDown_83 rfl ?_
  refine S_iload_n (pc := 85) dX12_writesDown_85 rfl rfl ?_
  obtain ⟨hb8, H⟩ := H
  refine S_iast (pc := 86) dX12_writesDown_86 (sM_28 hs) (Nat.succ_pos _) hb8 ?_
  refine S_aload_n (pc := 87) dX12_writesDown_87 rfl rfl ?_
  refine S_getR (pc := 88) dX12_writesDown_88 flX12_161 (sM_0 hs) rfl (rM_48 hs) ?_
  refine S_iload (pc := 91) dX12_writesDown_91 rfl ?_
  refine S_iconst (pc := 93) dX12_writesDown_93 ic1 ?_
  refine S_iadd (pc := 94) dX12_writesDown_94 ?_
  refine S_iload_n (pc := 95) dX12_writesDown_95 rfl rfl ?_
  obtain ⟨hb9, H⟩ := H
  refine S_iast (pc := 96) dX12_writesDown_96 (sM_28 hs) (Nat.succ_pos _) hb9 ?_
  refine S_aload_n (pc := 97) dX12_writesDown_97 rfl rfl ?_
  refine S_getR (pc := 98) dX12_writesDown_98 flX12_161 (sM_0 hs) rfl (rM_48 hs) ?_
  refine S_iload (pc := 101) dX12_writesDown_101 rfl ?_
  refine S_iconst (pc := 103) dX12_writesDown_103 ic2 ?_
  refine S_iadd (pc := 104) dX12_writesDown_104 ?_
  refine S_iload (pc := 105) dX12_writesDown_105 rfl ?_
  obtain ⟨hb10, H⟩ := H
  refine S_iast (pc := 107) dX12_writesDown_107 (sM_28 hs) (Nat.succ_pos _) hb10 ?_
  refine S_aload_n (pc := 108) dX12_writesDown_108 rfl rfl ?_
  refine S_iload_n (pc := 109) dX12_writesDown_109 rfl rfl ?_
  refine S_bipush (pc := 110) dX12_writesDown_110 bp9 ?_
  refine S_aload_n (pc := 112) dX12_writesDown_112 rfl rfl ?_
  refine S_iload_n (pc := 113) dX12_writesDown_113 rfl rfl ?_
  refine S_bipush (pc := 114) dX12_writesDown_114 bp9 ?_
  refine S_callV (As := [.int a1, .int (nI 9)]) (mc := 0) (ms := 0) (pc := 116) dX12_writesDown_116 miX12_n mvX12_n mlX12_402 rfl (sM_0 hs) rfl rfl rfl (RmOK.of rfl) (Q := fun r h => WP _ _ _ _ _ _ _ 119 [some (.ref B), some (.int a1), some (.int a2), some (.int a3), some (.int a4), some (.int w6)] (r.toList ++ [.int (nI 9), .int a1, .ref B]) h) (Cl.of miX12_n rfl rfl ?_) (fun _ _ q => q)
  refine S_aload_n (pc := 0) dX12_n_0 rfl rfl ?_
  refine S_getR (pc := 1) dX12_n_1 flX12_144 (sM_0 hs) rfl (rM_43 hs) ?_
  refine S_bipush (pc := 4) dX12_n_4 bp40 ?_
  refine S_iload_n (pc := 6) dX12_n_6 rfl rfl ?_
  refine S_imul (pc := 7) dX12_n_7 ?_
  refine S_iload_n (pc := 8) dX12_n_8 rfl rfl ?_
  refine S_iadd (pc := 9) dX12_n_9 ?_
  obtain ⟨hb11, H⟩ := H
  refine S_iald (pc := 10) dX12_n_10 (sM_23 hs) hb11 ?_
  refine S_eqi (x := f (B + 23) (((nI 40) * a1) + (nI 9)).toNatClampNeg) ((up2_r (by omega)).trans ((up2_r (by omega)).trans ((up2_r (by omega)).trans rfl))) ?_
  refine S_ireturn dX12_n_11 rfl ?_
  show WP _ _ _ _ _ _ _ 119 [some (.ref B), some (.int a1), some (.int a2), some (.int a3), some (.int a4), some (.int w6)] [.int (f (B + 23) (((nI 40) * a1) + (nI 9)).toNatClampNeg), .int (nI 9), .int a1, .ref B] (sh, (up2 (up2 (up2 f (B + 28) w6.toNatClampNeg a2) (B + 28) (w6 + (nI 1)).toNatClampNeg a3) (B + 28) (w6 + (nI 2)).toNatClampNeg a4), g, fR)
  refine S_iconst (pc := 119) dX12_writesDown_119 ic1 ?_
  refine S_iadd (pc := 120) dX12_writesDown_120 ?_
  refine S_callV (As := [.int a1, .int (nI 9), .int ((f (B + 23) (((nI 40) * a1) + (nI 9)).toNatClampNeg) + (nI 1))]) (mc := 0) (ms := 0) (pc := 121) dX12_writesDown_121 miX12_sets mvX12_sets mlX12_405 rfl (sM_0 hs) rfl rfl rfl (RmOK.of rfl) (Q := fun r h => WP _ _ _ _ _ _ _ 124 [some (.ref B), some (.int a1), some (.int a2), some (.int a3), some (.int a4), some (.int w6)] (r.toList ++ []) h) (Cl.of miX12_sets rfl rfl ?_) (fun _ _ q => q)
  refine S_aload_n (pc := 0) dX12_sets_0 rfl rfl ?_
  refine S_getR (pc := 1) dX12_sets_1 flX12_144 (sM_0 hs) rfl (rM_43 hs) ?_
  refine S_bipush (pc := 4) dX12_sets_4 bp40 ?_
  refine S_iload_n (pc := 6) dX12_sets_6 rfl rfl ?_
  refine S_imul (pc := 7) dX12_sets_7 ?_
  refine S_iload_n (pc := 8) dX12_sets_8 rfl rfl ?_
  refine S_iadd (pc := 9) dX12_sets_9 ?_
  refine S_iload_n (pc := 10) dX12_sets_10 rfl rfl ?_
  obtain ⟨hb12, H⟩ := H
  refine S_iast (pc := 11) dX12_sets_11 (sM_23 hs) (Nat.succ_pos _) hb12 ?_
  refine S_vreturn dX12_sets_12 rfl ?_
  show WP _ _ _ _ _ _ _ 124 [some (.ref B), some (.int a1), some (.int a2), some (.int a3), some (.int a4), some (.int w6)] [] (sh, (up2 (up2 (up2 (up2 f (B + 28) w6.toNatClampNeg a2) (B + 28) (w6 + (nI 1)).toNatClampNeg a3) (B + 28) (w6 + (nI 2)).toNatClampNeg a4) (B + 23) (((nI 40) * a1) + (nI 9)).toNatClampNeg ((f (B + 23) (((nI 40) * a1) + (nI 9)).toNatClampNeg) + (nI 1))), g, fR)
  exact S_vreturn dX12_writesDown_124 rfl H
set_option maxHeartbeats 2000000 in
set_option maxRecDepth 4000 in
theorem VX12_writesDown_18 {l : Launch} {G : Gx} {d : Nat} {Q : Option Value → Hp → Prop} {sh : Sh} {fR : FRt} {B : Nat} {f : FI} {g : FL} {a1 : Int32} {a2 : Int32} {a3 : Int32} {a4 : Int32} {a5 : Int32} (hs : StM sh fR B)
    (H : ((((((nI 120) * a1) + (nI 120)) - (nI 3)) ≤ a5 → inb (((nI 40) * a1) + (nI 9)) 880 ∧ LpX12_writesDown_63 l G d Q sh fR B (up2 f (B + 23) (((nI 40) * a1) + (nI 9)).toNatClampNeg (nI 39)) g a1 a2 a3 a4) ∧ (¬ ((((nI 120) * a1) + (nI 120)) - (nI 3)) ≤ a5 → inb (a5 + (nI 3)) 2640 ∧ inb a5 2640 ∧ LpX12_writesDown_18 l G d Q sh fR B (up2 f (B + 28) a5.toNatClampNeg (f (B + 28) (a5 + (nI 3)).toNatClampNeg)) g a1 a2 a3 a4 (a5 + nI 1)))) :
    LpX12_writesDown_18 l G d Q sh fR B f g a1 a2 a3 a4 a5 := by
  refine S_iload (pc := 18) dX12_writesDown_18 rfl ?_
  refine S_bipush (pc := 20) dX12_writesDown_20 bp120 ?_
  refine S_iload_n (pc := 22) dX12_writesDown_22 rfl rfl ?_
  refine S_imul (pc := 23) dX12_writesDown_23 ?_
  refine S_bipush (pc := 24) dX12_writesDown_24 bp120 ?_
  refine S_iadd (pc := 26) dX12_writesDown_26 ?_
  refine S_iconst (pc := 27) dX12_writesDown_27 ic3 ?_
  refine S_isub (pc := 28) dX12_writesDown_28 ?_
  refine S_icmp_ge (pc := 29) (tgt := 54) dX12_writesDown_29 rfl (fun hc13 => ?_) (fun hc13 => ?_)
  · replace H := H.1 hc13
    refine S_aload_n (pc := 54) dX12_writesDown_54 rfl rfl ?_
    refine S_iload_n (pc := 55) dX12_writesDown_55 rfl rfl ?_
    refine S_bipush (pc := 56) dX12_writesDown_56 bp9 ?_
    refine S_bipush (pc := 58) dX12_writesDown_58 bp39 ?_
    refine S_callV (As := [.int a1, .int (nI 9), .int (nI 39)]) (mc := 0) (ms := 0) (pc := 60) dX12_writesDown_60 miX12_sets mvX12_sets mlX12_405 rfl (sM_0 hs) rfl rfl rfl (RmOK.of rfl) (Q := fun r h => WP _ _ _ _ _ _ _ 63 [some (.ref B), some (.int a1), some (.int a2), some (.int a3), some (.int a4), some (.int a5)] (r.toList ++ []) h) (Cl.of miX12_sets rfl rfl ?_) (fun _ _ q => q)
    refine S_aload_n (pc := 0) dX12_sets_0 rfl rfl ?_
    refine S_getR (pc := 1) dX12_sets_1 flX12_144 (sM_0 hs) rfl (rM_43 hs) ?_
    refine S_bipush (pc := 4) dX12_sets_4 bp40 ?_
    refine S_iload_n (pc := 6) dX12_sets_6 rfl rfl ?_
    refine S_imul (pc := 7) dX12_sets_7 ?_
    refine S_iload_n (pc := 8) dX12_sets_8 rfl rfl ?_
    refine S_iadd (pc := 9) dX12_sets_9 ?_
    refine S_iload_n (pc := 10) dX12_sets_10 rfl rfl ?_
    obtain ⟨hb14, H⟩ := H
    refine S_iast (pc := 11) dX12_sets_11 (sM_23 hs) (Nat.succ_pos _) hb14 ?_
    refine S_vreturn dX12_sets_12 rfl ?_
    show WP _ _ _ _ _ _ _ 63 [some (.ref B), some (.int a1), some (.int a2), some (.int a3), some (.int a4), some (.int a5)] [] (sh, (up2 f (B + 23) (((nI 40) * a1) + (nI 9)).toNatClampNeg (nI 39)), g, fR)
    exact S_weak (L' := [some (.ref B), some (.int a1), some (.int a2), some (.int a3), some (.int a4), none]) (ls_e (ls_e (ls_e (ls_e (ls_e (ls_n ls_0)))))) H
  · replace H := H.2 hc13
    refine S_aload_n (pc := 32) dX12_writesDown_32 rfl rfl ?_
    refine S_getR (pc := 33) dX12_writesDown_33 flX12_161 (sM_0 hs) rfl (rM_48 hs) ?_
    refine S_iload (pc := 36) dX12_writesDown_36 rfl ?_
    refine S_aload_n (pc := 38) dX12_writesDown_38 rfl rfl ?_
    refine S_getR (pc := 39) dX12_writesDown_39 flX12_161 (sM_0 hs) rfl (rM_48 hs) ?_
    refine S_iload (pc := 42) dX12_writesDown_42 rfl ?_
    refine S_iconst (pc := 44) dX12_writesDown_44 ic3 ?_
    refine S_iadd (pc := 45) dX12_writesDown_45 ?_
    obtain ⟨hb15, H⟩ := H
    refine S_iald (pc := 46) dX12_writesDown_46 (sM_28 hs) hb15 ?_
    obtain ⟨hb16, H⟩ := H
    refine S_iast (pc := 47) dX12_writesDown_47 (sM_28 hs) (Nat.succ_pos _) hb16 ?_
    refine S_iinc (pc := 48) (v := nI 1) (L' := [some (.ref B), some (.int a1), some (.int a2), some (.int a3), some (.int a4), some (.int (a5 + nI 1))]) dX12_writesDown_48 rfl ic1 rfl ?_
    refine S_goto (pc := 51) (tgt := 18) dX12_writesDown_51 rfl ?_
    exact H
set_option maxHeartbeats 2000000 in
set_option maxRecDepth 4000 in
theorem VX12_isJoining {l : Launch} {G : Gx} {d : Nat} {Q : Option Value → Hp → Prop} {sh : Sh} {fR : FRt} {B : Nat} {f : FI} {g : FL} {a1 : Int32} {a2 : Int32} {a3 : Int32} (hs : StM sh fR B)
    (H : inb (((((nI 40) * a1) + (nI 14)) + ((nI 6) * a2)) + (nI 0)) 880 ∧ (((f (B + 23) (((((nI 40) * a1) + (nI 14)) + ((nI 6) * a2)) + (nI 0)).toNatClampNeg) = (nI 1) → inb (((nI 40) * a1) + ((nI 10) + (nI 0))) 880 ∧ inb (((nI 40) * a1) + ((nI 10) + (nI 0))) 880 ∧ Q (some (.int (nI 0))) (sh, (up2 f (B + 23) (((nI 40) * a1) + ((nI 10) + (nI 0))).toNatClampNeg ((f (B + 23) (((nI 40) * a1) + ((nI 10) + (nI 0))).toNatClampNeg) + (nI 1))), g, fR)) ∧ (¬ (f (B + 23) (((((nI 40) * a1) + (nI 14)) + ((nI 6) * a2)) + (nI 0)).toNatClampNeg) = (nI 1) → inb (((((nI 40) * a1) + (nI 14)) + ((nI 6) * a2)) + (nI 1)) 880 ∧ (((f (B + 23) (((((nI 40) * a1) + (nI 14)) + ((nI 6) * a2)) + (nI 1)).toNatClampNeg) = (nI 1) → inb (((nI 40) * a1) + ((nI 10) + (nI 0))) 880 ∧ inb (((nI 40) * a1) + ((nI 10) + (nI 0))) 880 ∧ Q (some (.int (nI 0))) (sh, (up2 f (B + 23) (((nI 40) * a1) + ((nI 10) + (nI 0))).toNatClampNeg ((f (B + 23) (((nI 40) * a1) + ((nI 10) + (nI 0))).toNatClampNeg) + (nI 1))), g, fR)) ∧ (¬ (f (B + 23) (((((nI 40) * a1) + (nI 14)) + ((nI 6) * a2)) + (nI 1)).toNatClampNeg) = (nI 1) → inb (f B 13) 2 ∧ ((a3 = ((((nI 31) * (f (B + 5) (f B 13).toNatClampNeg)) + (nI 17)) - (((nI 31) * (f (B + 5) (f B 13).toNatClampNeg)) + (nI 17)) / (nI 1000) * (nI 1000)) → inb (((((nI 40) * a1) + (nI 14)) + ((nI 6) * a2)) + (nI 0)) 880 ∧ inb (((((nI 40) * a1) + (nI 14)) + ((nI 6) * a2)) + (nI 2)) 880 ∧ Q (some (.int (nI 1))) (sh, (up2 (up2 f (B + 23) (((((nI 40) * a1) + (nI 14)) + ((nI 6) * a2)) + (nI 0)).toNatClampNeg (nI 1)) (B + 23) (((((nI 40) * a1) + (nI 14)) + ((nI 6) * a2)) + (nI 2)).toNatClampNeg (nI 2000)), g, fR)) ∧ (¬ a3 = ((((nI 31) * (f (B + 5) (f B 13).toNatClampNeg)) + (nI 17)) - (((nI 31) * (f (B + 5) (f B 13).toNatClampNeg)) + (nI 17)) / (nI 1000) * (nI 1000)) → inb (((nI 40) * a1) + ((nI 10) + (nI 0))) 880 ∧ inb (((nI 40) * a1) + ((nI 10) + (nI 0))) 880 ∧ Q (some (.int (nI 0))) (sh, (up2 f (B + 23) (((nI 40) * a1) + ((nI 10) + (nI 0))).toNatClampNeg ((f (B + 23) (((nI 40) * a1) + ((nI 10) + (nI 0))).toNatClampNeg) + (nI 1))), g, fR)))))))) :
    Cl l G (d + 2) 0 0 mX12_isJoining [.ref B, .int a1, .int a2, .int a3] (sh, f, g, fR) Q := by
  refine Cl.of (L0 := [some (.ref B), some (.int a1), some (.int a2), some (.int a3)]) miX12_isJoining rfl rfl ?_
  refine S_aload_n (pc := 0) dX12_isJoining_0 rfl rfl ?_
  refine S_iload_n (pc := 1) dX12_isJoining_1 rfl rfl ?_
  refine S_iload_n (pc := 2) dX12_isJoining_2 rfl rfl ?_
  refine S_iconst (pc := 3) dX12_isJoining_3 ic0 ?_
  refine S_callV (As := [.int a1, .int a2, .int (nI 0)]) (mc := 0) (ms := 0) (pc := 4) dX12_isJoining_4 miX12_p mvX12_p mlX12_438 rfl (sM_0 hs) rfl rfl rfl (RmOK.of rfl) (Q := fun r h => WP _ _ _ _ _ _ _ 7 [some (.ref B), some (.int a1), some (.int a2), some (.int a3)] (r.toList ++ []) h) (Cl.of miX12_p rfl rfl ?_) (fun _ _ q => q)
  refine S_aload_n (pc := 0) dX12_p_0 rfl rfl ?_
  refine S_getR (pc := 1) dX12_p_1 flX12_144 (sM_0 hs) rfl (rM_43 hs) ?_
  refine S_bipush (pc := 4) dX12_p_4 bp40 ?_
  refine S_iload_n (pc := 6) dX12_p_6 rfl rfl ?_
  refine S_imul (pc := 7) dX12_p_7 ?_
  refine S_bipush (pc := 8) dX12_p_8 bp14 ?_
  refine S_iadd (pc := 10) dX12_p_10 ?_
  refine S_bipush (pc := 11) dX12_p_11 bp6 ?_
  refine S_iload_n (pc := 13) dX12_p_13 rfl rfl ?_
  refine S_imul (pc := 14) dX12_p_14 ?_
  refine S_iadd (pc := 15) dX12_p_15 ?_
  refine S_iload_n (pc := 16) dX12_p_16 rfl rfl ?_
  refine S_iadd (pc := 17) dX12_p_17 ?_
  obtain ⟨hb1, H⟩ := H
  refine S_iald (pc := 18) dX12_p_18 (sM_23 hs) hb1 ?_
  refine S_ireturn dX12_p_19 rfl ?_
  show WP _ _ _ _ _ _ _ 7 [some (.ref B), some (.int a1), some (.int a2), some (.int a3)] [.int (f (B + 23) (((((nI 40) * a1) + (nI 14)) + ((nI 6) * a2)) + (nI 0)).toNatClampNeg)] (sh, f, g, fR)
  refine S_iconst (pc := 7) dX12_isJoining_7 ic1 ?_
  refine S_icmp_eq (pc := 8) (tgt := 38) dX12_isJoining_8 rfl (fun hc2 => ?_) (fun hc2 => ?_)
  · replace H := H.1 hc2
    refine S_aload_n (pc := 38) dX12_isJoining_38 rfl rfl ?_
    refine S_iload_n (pc := 39) dX12_isJoining_39 rfl rfl ?_
    refine S_iconst (pc := 40) dX12_isJoining_40 ic0 ?_
    refine S_callV (As := [.int a1, .int (nI 0)]) (mc := 0) (ms := 0) (pc := 41) dX12_isJoining_41 miX12_refusesIn mvX12_refusesIn mlX12_467 rfl (sM_0 hs) rfl rfl rfl (RmOK.of rfl) (Q := fun r h => WP _ _ _ _ _ _ _ 44 [some (.ref B), some (.int a1), some (.int a2), some (.int a3)] (r.toList ++ []) h) (Cl.of miX12_refusesIn rfl rfl ?_) (fun _ _ q => q)
    refine S_aload_n (pc := 0) dX12_refusesIn_0 rfl rfl ?_
    refine S_iload_n (pc := 1) dX12_refusesIn_1 rfl rfl ?_
    refine S_bipush (pc := 2) dX12_refusesIn_2 bp10 ?_
    refine S_iload_n (pc := 4) dX12_refusesIn_4 rfl rfl ?_
    refine S_iadd (pc := 5) dX12_refusesIn_5 ?_
    refine S_aload_n (pc := 6) dX12_refusesIn_6 rfl rfl ?_
    refine S_iload_n (pc := 7) dX12_refusesIn_7 rfl rfl ?_
    refine S_bipush (pc := 8) dX12_refusesIn_8 bp10 ?_
    refine S_iload_n (pc := 10) dX12_refusesIn_10 rfl rfl ?_
    refine S_iadd (pc := 11) dX12_refusesIn_11 ?_
    refine S_callV (As := [.int a1, .int ((nI 10) + (nI 0))]) (mc := 0) (ms := 0) (pc := 12) dX12_refusesIn_12 miX12_n mvX12_n mlX12_402 rfl (sM_0 hs) rfl rfl rfl (RmOK.of rfl) (Q := fun r h => WP _ _ _ _ _ _ _ 15 [some (.ref B), some (.int a1), some (.int (nI 0))] (r.toList ++ [.int ((nI 10) + (nI 0)), .int a1, .ref B]) h) (Cl.of miX12_n rfl rfl ?_) (fun _ _ q => q)
    refine S_aload_n (pc := 0) dX12_n_0 rfl rfl ?_
    refine S_getR (pc := 1) dX12_n_1 flX12_144 (sM_0 hs) rfl (rM_43 hs) ?_
    refine S_bipush (pc := 4) dX12_n_4 bp40 ?_
    refine S_iload_n (pc := 6) dX12_n_6 rfl rfl ?_
    refine S_imul (pc := 7) dX12_n_7 ?_
    refine S_iload_n (pc := 8) dX12_n_8 rfl rfl ?_
    refine S_iadd (pc := 9) dX12_n_9 ?_
    obtain ⟨hb3, H⟩ := H
    refine S_iald (pc := 10) dX12_n_10 (sM_23 hs) hb3 ?_
    refine S_ireturn dX12_n_11 rfl ?_
    show WP _ _ _ _ _ _ _ 15 [some (.ref B), some (.int a1), some (.int (nI 0))] [.int (f (B + 23) (((nI 40) * a1) + ((nI 10) + (nI 0))).toNatClampNeg), .int ((nI 10) + (nI 0)), .int a1, .ref B] (sh, f, g, fR)
    refine S_iconst (pc := 15) dX12_refusesIn_15 ic1 ?_
    refine S_iadd (pc := 16) dX12_refusesIn_16 ?_
    refine S_callV (As := [.int a1, .int ((nI 10) + (nI 0)), .int ((f (B + 23) (((nI 40) * a1) + ((nI 10) + (nI 0))).toNatClampNeg) + (nI 1))]) (mc := 0) (ms := 0) (pc := 17) dX12_refusesIn_17 miX12_sets mvX12_sets mlX12_405 rfl (sM_0 hs) rfl rfl rfl (RmOK.of rfl) (Q := fun r h => WP _ _ _ _ _ _ _ 20 [some (.ref B), some (.int a1), some (.int (nI 0))] (r.toList ++ []) h) (Cl.of miX12_sets rfl rfl ?_) (fun _ _ q => q)
    refine S_aload_n (pc := 0) dX12_sets_0 rfl rfl ?_
    refine S_getR (pc := 1) dX12_sets_1 flX12_144 (sM_0 hs) rfl (rM_43 hs) ?_
    refine S_bipush (pc := 4) dX12_sets_4 bp40 ?_
    refine S_iload_n (pc := 6) dX12_sets_6 rfl rfl ?_
    refine S_imul (pc := 7) dX12_sets_7 ?_
    refine S_iload_n (pc := 8) dX12_sets_8 rfl rfl ?_
    refine S_iadd (pc := 9) dX12_sets_9 ?_
    refine S_iload_n (pc := 10) dX12_sets_10 rfl rfl ?_
    obtain ⟨hb4, H⟩ := H
    refine S_iast (pc := 11) dX12_sets_11 (sM_23 hs) (Nat.succ_pos _) hb4 ?_
    refine S_vreturn dX12_sets_12 rfl ?_
    show WP _ _ _ _ _ _ _ 20 [some (.ref B), some (.int a1), some (.int (nI 0))] [] (sh, (up2 f (B + 23) (((nI 40) * a1) + ((nI 10) + (nI 0))).toNatClampNeg ((f (B + 23) (((nI 40) * a1) + ((nI 10) + (nI 0))).toNatClampNeg) + (nI 1))), g, fR)
    refine S_vreturn dX12_refusesIn_20 rfl ?_
    show WP _ _ _ _ _ _ _ 44 [some (.ref B), some (.int a1), some (.int a2), some (.int a3)] [] (sh, (up2 f (B + 23) (((nI 40) * a1) + ((nI 10) + (nI 0))).toNatClampNeg ((f (B + 23) (((nI 40) * a1) + ((nI 10) + (nI 0))).toNatClampNeg) + (nI 1))), g, fR)
    refine S_iconst (pc := 44) dX12_isJoining_44 ic0 ?_
    exact S_zreturn dX12_isJoining_45 rfl (Or.inl rfl) H
  · replace H := H.2 hc2
    refine S_aload_n (pc := 11) dX12_isJoining_11 rfl rfl ?_
    refine S_iload_n (pc := 12) dX12_isJoining_12 rfl rfl ?_
    refine S_iload_n (pc := 13) dX12_isJoining_13 rfl rfl ?_
    refine S_iconst (pc := 14) dX12_isJoining_14 ic1 ?_
    refine S_callV (As := [.int a1, .int a2, .int (nI 1)]) (mc := 0) (ms := 0) (pc := 15) dX12_isJoining_15 miX12_p mvX12_p mlX12_438 rfl (sM_0 hs) rfl rfl rfl (RmOK.of rfl) (Q := fun r h => WP _ _ _ _ _ _ _ 18 [some (.ref B), some (.int a1), some (.int a2), some (.int a3)] (r.toList ++ []) h) (Cl.of miX12_p rfl rfl ?_) (fun _ _ q => q)
    refine S_aload_n (pc := 0) dX12_p_0 rfl rfl ?_
    refine S_getR (pc := 1) dX12_p_1 flX12_144 (sM_0 hs) rfl (rM_43 hs) ?_
    refine S_bipush (pc := 4) dX12_p_4 bp40 ?_
    refine S_iload_n (pc := 6) dX12_p_6 rfl rfl ?_
    refine S_imul (pc := 7) dX12_p_7 ?_
    refine S_bipush (pc := 8) dX12_p_8 bp14 ?_
    refine S_iadd (pc := 10) dX12_p_10 ?_
    refine S_bipush (pc := 11) dX12_p_11 bp6 ?_
    refine S_iload_n (pc := 13) dX12_p_13 rfl rfl ?_
    refine S_imul (pc := 14) dX12_p_14 ?_
    refine S_iadd (pc := 15) dX12_p_15 ?_
    refine S_iload_n (pc := 16) dX12_p_16 rfl rfl ?_
    refine S_iadd (pc := 17) dX12_p_17 ?_
    obtain ⟨hb5, H⟩ := H
    refine S_iald (pc := 18) dX12_p_18 (sM_23 hs) hb5 ?_
    refine S_ireturn dX12_p_19 rfl ?_
    show WP _ _ _ _ _ _ _ 18 [some (.ref B), some (.int a1), some (.int a2), some (.int a3)] [.int (f (B + 23) (((((nI 40) * a1) + (nI 14)) + ((nI 6) * a2)) + (nI 1)).toNatClampNeg)] (sh, f, g, fR)
    refine S_iconst (pc := 18) dX12_isJoining_18 ic1 ?_
    refine S_icmp_eq (pc := 19) (tgt := 38) dX12_isJoining_19 rfl (fun hc6 => ?_) (fun hc6 => ?_)
    · replace H := H.1 hc6
      refine S_aload_n (pc := 38) dX12_isJoining_38 rfl rfl ?_
      refine S_iload_n (pc := 39) dX12_isJoining_39 rfl rfl ?_
      refine S_iconst (pc := 40) dX12_isJoining_40 ic0 ?_
      refine S_callV (As := [.int a1, .int (nI 0)]) (mc := 0) (ms := 0) (pc := 41) dX12_isJoining_41 miX12_refusesIn mvX12_refusesIn mlX12_467 rfl (sM_0 hs) rfl rfl rfl (RmOK.of rfl) (Q := fun r h => WP _ _ _ _ _ _ _ 44 [some (.ref B), some (.int a1), some (.int a2), some (.int a3)] (r.toList ++ []) h) (Cl.of miX12_refusesIn rfl rfl ?_) (fun _ _ q => q)
      refine S_aload_n (pc := 0) dX12_refusesIn_0 rfl rfl ?_
      refine S_iload_n (pc := 1) dX12_refusesIn_1 rfl rfl ?_
      refine S_bipush (pc := 2) dX12_refusesIn_2 bp10 ?_
      refine S_iload_n (pc := 4) dX12_refusesIn_4 rfl rfl ?_
      refine S_iadd (pc := 5) dX12_refusesIn_5 ?_
      refine S_aload_n (pc := 6) dX12_refusesIn_6 rfl rfl ?_
      refine S_iload_n (pc := 7) dX12_refusesIn_7 rfl rfl ?_
      refine S_bipush (pc := 8) dX12_refusesIn_8 bp10 ?_
      refine S_iload_n (pc := 10) dX12_refusesIn_10 rfl rfl ?_
      refine S_iadd (pc := 11) dX12_refusesIn_11 ?_
      refine S_callV (As := [.int a1, .int ((nI 10) + (nI 0))]) (mc := 0) (ms := 0) (pc := 12) dX12_refusesIn_12 miX12_n mvX12_n mlX12_402 rfl (sM_0 hs) rfl rfl rfl (RmOK.of rfl) (Q := fun r h => WP _ _ _ _ _ _ _ 15 [some (.ref B), some (.int a1), some (.int (nI 0))] (r.toList ++ [.int ((nI 10) + (nI 0)), .int a1, .ref B]) h) (Cl.of miX12_n rfl rfl ?_) (fun _ _ q => q)
      refine S_aload_n (pc := 0) dX12_n_0 rfl rfl ?_
      refine S_getR (pc := 1) dX12_n_1 flX12_144 (sM_0 hs) rfl (rM_43 hs) ?_
      refine S_bipush (pc := 4) dX12_n_4 bp40 ?_
      refine S_iload_n (pc := 6) dX12_n_6 rfl rfl ?_
      refine S_imul (pc := 7) dX12_n_7 ?_
      refine S_iload_n (pc := 8) dX12_n_8 rfl rfl ?_
      refine S_iadd (pc := 9) dX12_n_9 ?_
      obtain ⟨hb7, H⟩ := H
      refine S_iald (pc := 10) dX12_n_10 (sM_23 hs) hb7 ?_
      refine S_ireturn dX12_n_11 rfl ?_
      show WP _ _ _ _ _ _ _ 15 [some (.ref B), some (.int a1), some (.int (nI 0))] [.int (f (B + 23) (((nI 40) * a1) + ((nI 10) + (nI 0))).toNatClampNeg), .int ((nI 10) + (nI 0)), .int a1, .ref B] (sh, f, g, fR)
      refine S_iconst (pc := 15) dX12_refusesIn_15 ic1 ?_
      refine S_iadd (pc := 16) dX12_refusesIn_16 ?_
      refine S_callV (As := [.int a1, .int ((nI 10) + (nI 0)), .int ((f (B + 23) (((nI 40) * a1) + ((nI 10) + (nI 0))).toNatClampNeg) + (nI 1))]) (mc := 0) (ms := 0) (pc := 17) dX12_refusesIn_17 miX12_sets mvX12_sets mlX12_405 rfl (sM_0 hs) rfl rfl rfl (RmOK.of rfl) (Q := fun r h => WP _ _ _ _ _ _ _ 20 [some (.ref B), some (.int a1), some (.int (nI 0))] (r.toList ++ []) h) (Cl.of miX12_sets rfl rfl ?_) (fun _ _ q => q)
      refine S_aload_n (pc := 0) dX12_sets_0 rfl rfl ?_
      refine S_getR (pc := 1) dX12_sets_1 flX12_144 (sM_0 hs) rfl (rM_43 hs) ?_
      refine S_bipush (pc := 4) dX12_sets_4 bp40 ?_
      refine S_iload_n (pc := 6) dX12_sets_6 rfl rfl ?_
      refine S_imul (pc := 7) dX12_sets_7 ?_
      refine S_iload_n (pc := 8) dX12_sets_8 rfl rfl ?_
      refine S_iadd (pc := 9) dX12_sets_9 ?_
      refine S_iload_n (pc := 10) dX12_sets_10 rfl rfl ?_
      obtain ⟨hb8, H⟩ := H
      refine S_iast (pc := 11) dX12_sets_11 (sM_23 hs) (Nat.succ_pos _) hb8 ?_
      refine S_vreturn dX12_sets_12 rfl ?_
      show WP _ _ _ _ _ _ _ 20 [some (.ref B), some (.int a1), some (.int (nI 0))] [] (sh, (up2 f (B + 23) (((nI 40) * a1) + ((nI 10) + (nI 0))).toNatClampNeg ((f (B + 23) (((nI 40) * a1) + ((nI 10) + (nI 0))).toNatClampNeg) + (nI 1))), g, fR)
      refine S_vreturn dX12_refusesIn_20 rfl ?_
      show WP _ _ _ _ _ _ _ 44 [some (.ref B), some (.int a1), some (.int a2), some (.int a3)] [] (sh, (up2 f (B + 23) (((nI 40) * a1) + ((nI 10) + (nI 0))).toNatClampNeg ((f (B + 23) (((nI 40) * a1) + ((nI 10) + (nI 0))).toNatClampNeg) + (nI 1))), g, fR)
      refine S_iconst (pc := 44) dX12_isJoining_44 ic0 ?_
      exact S_zreturn dX12_isJoining_45 rfl (Or.inl rfl) H
    · replace H := H.2 hc6
      refine S_iload_n (pc := 22) dX12_isJoining_22 rfl rfl ?_
      refine S_aload_n (pc := 23) dX12_isJoining_23 rfl rfl ?_
      refine S_getR (pc := 24) dX12_isJoining_24 flX12_63 (sM_0 hs) rfl (rM_17 hs) ?_
      refine S_aload_n (pc := 27) dX12_isJoining_27 rfl rfl ?_
      refine S_get (pc := 28) (v := .int (f B 13)) dX12_isJoining_28 flX12_51 (sM_0 hs) rfl ?_
      obtain ⟨hb9, H⟩ := H
      refine S_iald (pc := 31) dX12_isJoining_31 (sM_5 hs) hb9 ?_
      refine S_callS (As := [.int (f (B + 5) (f B 13).toNatClampNeg)]) (mc := 0) (ms := 0) (pc := 32) dX12_isJoining_32 miX12_tokenFor mvX12_tokenFor mlX12_464 rfl rfl (RmOK.of rfl) (Q := fun r h => WP _ _ _ _ _ _ _ 35 [some (.ref B), some (.int a1), some (.int a2), some (.int a3)] (r.toList ++ [.int a3]) h) (Cl.of miX12_tokenFor rfl rfl ?_) (fun _ _ q => q)
      refine S_bipush (pc := 0) dX12_tokenFor_0 bp31 ?_
      refine S_iload_n (pc := 2) dX12_tokenFor_2 rfl rfl ?_
      refine S_imul (pc := 3) dX12_tokenFor_3 ?_
      refine S_bipush (pc := 4) dX12_tokenFor_4 bp17 ?_
      refine S_iadd (pc := 6) dX12_tokenFor_6 ?_
      refine S_sipush (pc := 7) dX12_tokenFor_7 sp1000 ?_
      refine S_irem (pc := 10) dX12_tokenFor_10 (by decide) ?_
      refine S_ireturn dX12_tokenFor_11 rfl ?_
      show WP _ _ _ _ _ _ _ 35 [some (.ref B), some (.int a1), some (.int a2), some (.int a3)] [.int ((((nI 31) * (f (B + 5) (f B 13).toNatClampNeg)) + (nI 17)) - (((nI 31) * (f (B + 5) (f B 13).toNatClampNeg)) + (nI 17)) / (nI 1000) * (nI 1000)), .int a3] (sh, f, g, fR)
      refine S_icmp_eq (pc := 35) (tgt := 46) dX12_isJoining_35 rfl (fun hc10 => ?_) (fun hc10 => ?_)
      · replace H := H.1 hc10
        refine S_aload_n (pc := 46) dX12_isJoining_46 rfl rfl ?_
        refine S_iload_n (pc := 47) dX12_isJoining_47 rfl rfl ?_
        refine S_iload_n (pc := 48) dX12_isJoining_48 rfl rfl ?_
        refine S_callV (As := [.int a1, .int a2]) (mc := 0) (ms := 0) (pc := 49) dX12_isJoining_49 miX12_enters mvX12_enters mlX12_409 rfl (sM_0 hs) rfl rfl rfl (RmOK.of rfl) (Q := fun r h => WP _ _ _ _ _ _ _ 52 [some (.ref B), some (.int a1), some (.int a2), some (.int a3)] (r.toList ++ []) h) (Cl.of miX12_enters rfl rfl ?_) (fun _ _ q => q)
        refine S_aload_n (pc := 0) dX12_enters_0 rfl rfl ?_
        refine S_iload_n (pc := 1) dX12_enters_1 rfl rfl ?_
        refine S_iload_n (pc := 2) dX12_enters_2 rfl rfl ?_
        refine S_iconst (pc := 3) dX12_enters_3 ic0 ?_
        refine S_iconst (pc := 4) dX12_enters_4 ic1 ?_
        refine S_callV (As := [.int a1, .int a2, .int (nI 0), .int (nI 1)]) (mc := 0) (ms := 0) (pc := 5) dX12_enters_5 miX12_setsPath mvX12_setsPath mlX12_412 rfl (sM_0 hs) rfl rfl rfl (RmOK.of rfl) (Q := fun r h => WP _ _ _ _ _ _ _ 8 [some (.ref B), some (.int a1), some (.int a2)] (r.toList ++ []) h) (Cl.of miX12_setsPath rfl rfl ?_) (fun _ _ q => q)
        refine S_aload_n (pc := 0) dX12_setsPath_0 rfl rfl ?_
        refine S_getR (pc := 1) dX12_setsPath_1 flX12_144 (sM_0 hs) rfl (rM_43 hs) ?_
        refine S_bipush (pc := 4) dX12_setsPath_4 bp40 ?_
        refine S_iload_n (pc := 6) dX12_setsPath_6 rfl rfl ?_
        refine S_imul (pc := 7) dX12_setsPath_7 ?_
        refine S_bipush (pc := 8) dX12_setsPath_8 bp14 ?_
        refine S_iadd (pc := 10) dX12_setsPath_10 ?_
        refine S_bipush (pc := 11) dX12_setsPath_11 bp6 ?_
        refine S_iload_n (pc := 13) dX12_setsPath_13 rfl rfl ?_
        refine S_imul (pc := 14) dX12_setsPath_14 ?_
        refine S_iadd (pc := 15) dX12_setsPath_15 ?_
        refine S_iload_n (pc := 16) dX12_setsPath_16 rfl rfl ?_
        refine S_iadd (pc := 17) dX12_setsPath_17 ?_
        refine S_iload (pc := 18) dX12_setsPath_18 rfl ?_
        obtain ⟨hb11, H⟩ := H
        refine S_iast (pc := 20) dX12_setsPath_20 (sM_23 hs) (Nat.succ_pos _) hb11 ?_
        refine S_vreturn dX12_setsPath_21 rfl ?_
        show WP _ _ _ _ _ _ _ 8 [some (.ref B), some (.int a1), some (.int a2)] [] (sh, (up2 f (B + 23) (((((nI 40) * a1) + (nI 14)) + ((nI 6) * a2)) + (nI 0)).toNatClampNeg (nI 1)), g, fR)
        refine S_aload_n (pc := 8) dX12_enters_8 rfl rfl ?_
        refine S_iload_n (pc := 9) dX12_enters_9 rfl rfl ?_
        refine S_iload_n (pc := 10) dX12_enters_10 rfl rfl ?_
        refine S_iconst (pc := 11) dX12_enters_11 ic2 ?_
        refine S_sipush (pc := 12) dX12_enters_12 sp2000 ?_
        refine S_callV (As := [.int a1, .int a2, .int (nI 2), .int (nI 2000)]) (mc := 0) (ms := 0) (pc := 15) dX12_enters_15 miX12_setsPath mvX12_setsPath mlX12_412 rfl (sM_0 hs) rfl rfl rfl (RmOK.of rfl) (Q := fun r h => WP _ _ _ _ _ _ _ 18 [some (.ref B), some (.int a1), some (.int a2)] (r.toList ++ []) h) (Cl.of miX12_setsPath rfl rfl ?_) (fun _ _ q => q)
        refine S_aload_n (pc := 0) dX12_setsPath_0 rfl rfl ?_
        refine S_getR (pc := 1) dX12_setsPath_1 flX12_144 (sM_0 hs) rfl (rM_43 hs) ?_
        refine S_bipush (pc := 4) dX12_setsPath_4 bp40 ?_
        refine S_iload_n (pc := 6) dX12_setsPath_6 rfl rfl ?_
        refine S_imul (pc := 7) dX12_setsPath_7 ?_
        refine S_bipush (pc := 8) dX12_setsPath_8 bp14 ?_
        refine S_iadd (pc := 10) dX12_setsPath_10 ?_
        refine S_bipush (pc := 11) dX12_setsPath_11 bp6 ?_
        refine S_iload_n (pc := 13) dX12_setsPath_13 rfl rfl ?_
        refine S_imul (pc := 14) dX12_setsPath_14 ?_
        refine S_iadd (pc := 15) dX12_setsPath_15 ?_
        refine S_iload_n (pc := 16) dX12_setsPath_16 rfl rfl ?_
        refine S_iadd (pc := 17) dX12_setsPath_17 ?_
        refine S_iload (pc := 18) dX12_setsPath_18 rfl ?_
        obtain ⟨hb12, H⟩ := H
        refine S_iast (pc := 20) dX12_setsPath_20 (sM_23 hs) (Nat.succ_pos _) hb12 ?_
        refine S_vreturn dX12_setsPath_21 rfl ?_
        show WP _ _ _ _ _ _ _ 18 [some (.ref B), some (.int a1), some (.int a2)] [] (sh, (up2 (up2 f (B + 23) (((((nI 40) * a1) + (nI 14)) + ((nI 6) * a2)) + (nI 0)).toNatClampNeg (nI 1)) (B + 23) (((((nI 40) * a1) + (nI 14)) + ((nI 6) * a2)) + (nI 2)).toNatClampNeg (nI 2000)), g, fR)
        refine S_vreturn dX12_enters_18 rfl ?_
        show WP _ _ _ _ _ _ _ 52 [some (.ref B), some (.int a1), some (.int a2), some (.int a3)] [] (sh, (up2 (up2 f (B + 23) (((((nI 40) * a1) + (nI 14)) + ((nI 6) * a2)) + (nI 0)).toNatClampNeg (nI 1)) (B + 23) (((((nI 40) * a1) + (nI 14)) + ((nI 6) * a2)) + (nI 2)).toNatClampNeg (nI 2000)), g, fR)
        refine S_iconst (pc := 52) dX12_isJoining_52 ic1 ?_
        exact S_zreturn dX12_isJoining_53 rfl (Or.inr rfl) H
      · replace H := H.2 hc10
        refine S_aload_n (pc := 38) dX12_isJoining_38 rfl rfl ?_
        refine S_iload_n (pc := 39) dX12_isJoining_39 rfl rfl ?_
        refine S_iconst (pc := 40) dX12_isJoining_40 ic0 ?_
        refine S_callV (As := [.int a1, .int (nI 0)]) (mc := 0) (ms := 0) (pc := 41) dX12_isJoining_41 miX12_refusesIn mvX12_refusesIn mlX12_467 rfl (sM_0 hs) rfl rfl rfl (RmOK.of rfl) (Q := fun r h => WP _ _ _ _ _ _ _ 44 [some (.ref B), some (.int a1), some (.int a2), some (.int a3)] (r.toList ++ []) h) (Cl.of miX12_refusesIn rfl rfl ?_) (fun _ _ q => q)
        refine S_aload_n (pc := 0) dX12_refusesIn_0 rfl rfl ?_
        refine S_iload_n (pc := 1) dX12_refusesIn_1 rfl rfl ?_
        refine S_bipush (pc := 2) dX12_refusesIn_2 bp10 ?_
        refine S_iload_n (pc := 4) dX12_refusesIn_4 rfl rfl ?_
        refine S_iadd (pc := 5) dX12_refusesIn_5 ?_
        refine S_aload_n (pc := 6) dX12_refusesIn_6 rfl rfl ?_
        refine S_iload_n (pc := 7) dX12_refusesIn_7 rfl rfl ?_
        refine S_bipush (pc := 8) dX12_refusesIn_8 bp10 ?_
        refine S_iload_n (pc := 10) dX12_refusesIn_10 rfl rfl ?_
        refine S_iadd (pc := 11) dX12_refusesIn_11 ?_
        refine S_callV (As := [.int a1, .int ((nI 10) + (nI 0))]) (mc := 0) (ms := 0) (pc := 12) dX12_refusesIn_12 miX12_n mvX12_n mlX12_402 rfl (sM_0 hs) rfl rfl rfl (RmOK.of rfl) (Q := fun r h => WP _ _ _ _ _ _ _ 15 [some (.ref B), some (.int a1), some (.int (nI 0))] (r.toList ++ [.int ((nI 10) + (nI 0)), .int a1, .ref B]) h) (Cl.of miX12_n rfl rfl ?_) (fun _ _ q => q)
        refine S_aload_n (pc := 0) dX12_n_0 rfl rfl ?_
        refine S_getR (pc := 1) dX12_n_1 flX12_144 (sM_0 hs) rfl (rM_43 hs) ?_
        refine S_bipush (pc := 4) dX12_n_4 bp40 ?_
        refine S_iload_n (pc := 6) dX12_n_6 rfl rfl ?_
        refine S_imul (pc := 7) dX12_n_7 ?_
        refine S_iload_n (pc := 8) dX12_n_8 rfl rfl ?_
        refine S_iadd (pc := 9) dX12_n_9 ?_
        obtain ⟨hb13, H⟩ := H
        refine S_iald (pc := 10) dX12_n_10 (sM_23 hs) hb13 ?_
        refine S_ireturn dX12_n_11 rfl ?_
        show WP _ _ _ _ _ _ _ 15 [some (.ref B), some (.int a1), some (.int (nI 0))] [.int (f (B + 23) (((nI 40) * a1) + ((nI 10) + (nI 0))).toNatClampNeg), .int ((nI 10) + (nI 0)), .int a1, .ref B] (sh, f, g, fR)
        refine S_iconst (pc := 15) dX12_refusesIn_15 ic1 ?_
        refine S_iadd (pc := 16) dX12_refusesIn_16 ?_
        refine S_callV (As := [.int a1, .int ((nI 10) + (nI 0)), .int ((f (B + 23) (((nI 40) * a1) + ((nI 10) + (nI 0))).toNatClampNeg) + (nI 1))]) (mc := 0) (ms := 0) (pc := 17) dX12_refusesIn_17 miX12_sets mvX12_sets mlX12_405 rfl (sM_0 hs) rfl rfl rfl (RmOK.of rfl) (Q := fun r h => WP _ _ _ _ _ _ _ 20 [some (.ref B), some (.int a1), some (.int (nI 0))] (r.toList ++ []) h) (Cl.of miX12_sets rfl rfl ?_) (fun _ _ q => q)
        refine S_aload_n (pc := 0) dX12_sets_0 rfl rfl ?_
        refine S_getR (pc := 1) dX12_sets_1 flX12_144 (sM_0 hs) rfl (rM_43 hs) ?_
        refine S_bipush (pc := 4) dX12_sets_4 bp40 ?_
        refine S_iload_n (pc := 6) dX12_sets_6 rfl rfl ?_
        refine S_imul (pc := 7) dX12_sets_7 ?_
        refine S_iload_n (pc := 8) dX12_sets_8 rfl rfl ?_
        refine S_iadd (pc := 9) dX12_sets_9 ?_
        refine S_iload_n (pc := 10) dX12_sets_10 rfl rfl ?_
        obtain ⟨hb14, H⟩ := H
        refine S_iast (pc := 11) dX12_sets_11 (sM_23 hs) (Nat.succ_pos _) hb14 ?_
        refine S_vreturn dX12_sets_12 rfl ?_
        show WP _ _ _ _ _ _ _ 20 [some (.ref B), some (.int a1), some (.int (nI 0))] [] (sh, (up2 f (B + 23) (((nI 40) * a1) + ((nI 10) + (nI 0))).toNatClampNeg ((f (B + 23) (((nI 40) * a1) + ((nI 10) + (nI 0))).toNatClampNeg) + (nI 1))), g, fR)
        refine S_vreturn dX12_refusesIn_20 rfl ?_
        show WP _ _ _ _ _ _ _ 44 [some (.ref B), some (.int a1), some (.int a2), some (.int a3)] [] (sh, (up2 f (B + 23) (((nI 40) * a1) + ((nI 10) + (nI 0))).toNatClampNeg ((f (B + 23) (((nI 40) * a1) + ((nI 10) + (nI 0))).toNatClampNeg) + (nI 1))), g, fR)
        refine S_iconst (pc := 44) dX12_isJoining_44 ic0 ?_
        exact S_zreturn dX12_isJoining_45 rfl (Or.inl rfl) H
abbrev LpX12_flyingAt_3 (l : Launch) (G : Gx) (d : Nat) (Q : Option Value → Hp → Prop) (sh : Sh) (fR : FRt) (B : Nat) (f : FI) (g : FL) (a1 : Int32) (a2 : Int32) (a3 : Int32) (a4 : Int32) : Prop := WP l G (Zq G 0 0 Q) mX12_flyingAt (rmd (d + 1) 0 0) 0 0 3 [some (.ref B), some (.int a1), some (.int a2), some (.int a3), some (.int a4)] [] (sh, f, g, fR)
abbrev LpX12_flyingAt_55 (l : Launch) (G : Gx) (d : Nat) (Q : Option Value → Hp → Prop) (sh : Sh) (fR : FRt) (B : Nat) (f : FI) (g : FL) (a1 : Int32) (a2 : Int32) (a3 : Int32) (a4 : Int32) : Prop := WP l G (Zq G 0 0 Q) mX12_flyingAt (rmd (d + 1) 0 0) 0 0 55 [some (.ref B), some (.int a1), some (.int a2), some (.int a3), some (.int a4)] [] (sh, f, g, fR)
set_option maxHeartbeats 2000000 in
set_option maxRecDepth 4000 in
theorem VX12_flyingAt {l : Launch} {G : Gx} {d : Nat} {Q : Option Value → Hp → Prop} {sh : Sh} {fR : FRt} {B : Nat} {f : FI} {g : FL} {a1 : Int32} {a2 : Int32} {a3 : Int32} (hs : StM sh fR B)
    (H : LpX12_flyingAt_3 l G d Q sh fR B f g a1 a2 a3 (nI 0)) :
    Cl l G (d + 1) 0 0 mX12_flyingAt [.ref B, .int a1, .int a2, .int a3] (sh, f, g, fR) Q := by
  refine Cl.of (L0 := [some (.ref B), some (.int a1), some (.int a2), some (.int a3), none]) miX12_flyingAt rfl rfl ?_
  refine S_iconst (pc := 0) dX12_flyingAt_0 ic0 ?_
  refine S_istore (pc := 1) (L' := [some (.ref B), some (.int a1), some (.int a2), some (.int a3), some (.int (nI 0))]) dX12_flyingAt_1 (by decide) rfl ?_
  exact H
set_option maxHeartbeats 2000000 in
set_option maxRecDepth 4000 in
theorem VX12_flyingAt_3 {l : Launch} {G : Gx} {d : Nat} {Q : Option Value → Hp → Prop} {sh : Sh} {fR : FRt} {B : Nat} {f : FI} {g : FL} {a1 : Int32} {a2 : Int32} {a3 : Int32} {a4 : Int32} (hs : StM sh fR B)
    (H : inb (((nI 40) * a1) + (nI 6)) 880 ∧ (((f (B + 23) (((nI 40) * a1) + (nI 6)).toNatClampNeg) ≤ a4 → Q (some (.int (-1))) (sh, f, g, fR)) ∧ (¬ (f (B + 23) (((nI 40) * a1) + (nI 6)).toNatClampNeg) ≤ a4 → inb (((nI 8) * (((nI 480) * a1) + a4)) + (nI 0)) 84480 ∧ ((¬ (f (B + 24) (((nI 8) * (((nI 480) * a1) + a4)) + (nI 0)).toNatClampNeg) = a2 → LpX12_flyingAt_55 l G d Q sh fR B f g a1 a2 a3 a4) ∧ ((f (B + 24) (((nI 8) * (((nI 480) * a1) + a4)) + (nI 0)).toNatClampNeg) = a2 → inb (((nI 8) * (((nI 480) * a1) + a4)) + (nI 1)) 84480 ∧ ((¬ (f (B + 24) (((nI 8) * (((nI 480) * a1) + a4)) + (nI 1)).toNatClampNeg) = a3 → LpX12_flyingAt_55 l G d Q sh fR B f g a1 a2 a3 a4) ∧ ((f (B + 24) (((nI 8) * (((nI 480) * a1) + a4)) + (nI 1)).toNatClampNeg) = a3 → inb (((nI 8) * (((nI 480) * a1) + a4)) + (nI 6)) 84480 ∧ ((¬ (f (B + 24) (((nI 8) * (((nI 480) * a1) + a4)) + (nI 6)).toNatClampNeg) = (nI 1) → LpX12_flyingAt_55 l G d Q sh fR B f g a1 a2 a3 a4) ∧ ((f (B + 24) (((nI 8) * (((nI 480) * a1) + a4)) + (nI 6)).toNatClampNeg) = (nI 1) → Q (some (.int a4)) (sh, f, g, fR)))))))))) :
    LpX12_flyingAt_3 l G d Q sh fR B f g a1 a2 a3 a4 := by
  refine S_iload (pc := 3) dX12_flyingAt_3 rfl ?_
  refine S_aload_n (pc := 5) dX12_flyingAt_5 rfl rfl ?_
  refine S_iload_n (pc := 6) dX12_flyingAt_6 rfl rfl ?_
  refine S_bipush (pc := 7) dX12_flyingAt_7 bp6 ?_
  refine S_callV (As := [.int a1, .int (nI 6)]) (mc := 0) (ms := 0) (pc := 9) dX12_flyingAt_9 miX12_n mvX12_n mlX12_402 rfl (sM_0 hs) rfl rfl rfl (RmOK.of rfl) (Q := fun r h => WP _ _ _ _ _ _ _ 12 [some (.ref B), some (.int a1), some (.int a2), some (.int a3), some (.int a4)] (r.toList ++ [.int a4]) h) (Cl.of miX12_n rfl rfl ?_) (fun _ _ q => q)
  refine S_aload_n (pc := 0) dX12_n_0 rfl rfl ?_
  refine S_getR (pc := 1) dX12_n_1 flX12_144 (sM_0 hs) rfl (rM_43 hs) ?_
  refine S_bipush (pc := 4) dX12_n_4 bp40 ?_
  refine S_iload_n (pc := 6) dX12_n_6 rfl rfl ?_
  refine S_imul (pc := 7) dX12_n_7 ?_
  refine S_iload_n (pc := 8) dX12_n_8 rfl rfl ?_
  refine S_iadd (pc := 9) dX12_n_9 ?_
  obtain ⟨hb1, H⟩ := H
  refine S_iald (pc := 10) dX12_n_10 (sM_23 hs) hb1 ?_
  refine S_ireturn dX12_n_11 rfl ?_
  show WP _ _ _ _ _ _ _ 12 [some (.ref B), some (.int a1), some (.int a2), some (.int a3), some (.int a4)] [.int (f (B + 23) (((nI 40) * a1) + (nI 6)).toNatClampNeg), .int a4] (sh, f, g, fR)
  refine S_icmp_ge (pc := 12) (tgt := 61) dX12_flyingAt_12 rfl (fun hc2 => ?_) (fun hc2 => ?_)
  · replace H := H.1 hc2
    refine S_iconst (pc := 61) dX12_flyingAt_61 icm1 ?_
    exact S_ireturn dX12_flyingAt_62 rfl H
  · replace H := H.2 hc2
    refine S_aload_n (pc := 15) dX12_flyingAt_15 rfl rfl ?_
    refine S_iload_n (pc := 16) dX12_flyingAt_16 rfl rfl ?_
    refine S_iload (pc := 17) dX12_flyingAt_17 rfl ?_
    refine S_iconst (pc := 19) dX12_flyingAt_19 ic0 ?_
    refine S_callV (As := [.int a1, .int a4, .int (nI 0)]) (mc := 0) (ms := 0) (pc := 20) dX12_flyingAt_20 miX12_s mvX12_s mlX12_445 rfl (sM_0 hs) rfl rfl rfl (RmOK.of rfl) (Q := fun r h => WP _ _ _ _ _ _ _ 23 [some (.ref B), some (.int a1), some (.int a2), some (.int a3), some (.int a4)] (r.toList ++ []) h) (Cl.of miX12_s rfl rfl ?_) (fun _ _ q => q)
    refine S_aload_n (pc := 0) dX12_s_0 rfl rfl ?_
    refine S_getR (pc := 1) dX12_s_1 flX12_148 (sM_0 hs) rfl (rM_44 hs) ?_
    refine S_bipush (pc := 4) dX12_s_4 bp8 ?_
    refine S_sipush (pc := 6) dX12_s_6 sp480 ?_
    refine S_iload_n (pc := 9) dX12_s_9 rfl rfl ?_
    refine S_imul (pc := 10) dX12_s_10 ?_
    refine S_iload_n (pc := 11) dX12_s_11 rfl rfl ?_
    refine S_iadd (pc := 12) dX12_s_12 ?_
    refine S_imul (pc := 13) dX12_s_13 ?_
    refine S_iload_n (pc := 14) dX12_s_14 rfl rfl ?_
    refine S_iadd (pc := 15) dX12_s_15 ?_
    obtain ⟨hb3, H⟩ := H
    refine S_iald (pc := 16) dX12_s_16 (sM_24 hs) hb3 ?_
    refine S_ireturn dX12_s_17 rfl ?_
    show WP _ _ _ _ _ _ _ 23 [some (.ref B), some (.int a1), some (.int a2), some (.int a3), some (.int a4)] [.int (f (B + 24) (((nI 8) * (((nI 480) * a1) + a4)) + (nI 0)).toNatClampNeg)] (sh, f, g, fR)
    refine S_iload_n (pc := 23) dX12_flyingAt_23 rfl rfl ?_
    refine S_icmp_ne (pc := 24) (tgt := 55) dX12_flyingAt_24 rfl (fun hc4 => ?_) (fun hc4 => ?_)
    · replace H := H.1 hc4
      exact H
    · replace H := H.2 hc4
      refine S_aload_n (pc := 27) dX12_flyingAt_27 rfl rfl ?_
      refine S_iload_n (pc := 28) dX12_flyingAt_28 rfl rfl ?_
      refine S_iload (pc := 29) dX12_flyingAt_29 rfl ?_
      refine S_iconst (pc := 31) dX12_flyingAt_31 ic1 ?_
      refine S_callV (As := [.int a1, .int a4, .int (nI 1)]) (mc := 0) (ms := 0) (pc := 32) dX12_flyingAt_32 miX12_s mvX12_s mlX12_445 rfl (sM_0 hs) rfl rfl rfl (RmOK.of rfl) (Q := fun r h => WP _ _ _ _ _ _ _ 35 [some (.ref B), some (.int a1), some (.int a2), some (.int a3), some (.int a4)] (r.toList ++ []) h) (Cl.of miX12_s rfl rfl ?_) (fun _ _ q => q)
      refine S_aload_n (pc := 0) dX12_s_0 rfl rfl ?_
      refine S_getR (pc := 1) dX12_s_1 flX12_148 (sM_0 hs) rfl (rM_44 hs) ?_
      refine S_bipush (pc := 4) dX12_s_4 bp8 ?_
      refine S_sipush (pc := 6) dX12_s_6 sp480 ?_
      refine S_iload_n (pc := 9) dX12_s_9 rfl rfl ?_
      refine S_imul (pc := 10) dX12_s_10 ?_
      refine S_iload_n (pc := 11) dX12_s_11 rfl rfl ?_
      refine S_iadd (pc := 12) dX12_s_12 ?_
      refine S_imul (pc := 13) dX12_s_13 ?_
      refine S_iload_n (pc := 14) dX12_s_14 rfl rfl ?_
      refine S_iadd (pc := 15) dX12_s_15 ?_
      obtain ⟨hb5, H⟩ := H
      refine S_iald (pc := 16) dX12_s_16 (sM_24 hs) hb5 ?_
      refine S_ireturn dX12_s_17 rfl ?_
      show WP _ _ _ _ _ _ _ 35 [some (.ref B), some (.int a1), some (.int a2), some (.int a3), some (.int a4)] [.int (f (B + 24) (((nI 8) * (((nI 480) * a1) + a4)) + (nI 1)).toNatClampNeg)] (sh, f, g, fR)
      refine S_iload_n (pc := 35) dX12_flyingAt_35 rfl rfl ?_
      refine S_icmp_ne (pc := 36) (tgt := 55) dX12_flyingAt_36 rfl (fun hc6 => ?_) (fun hc6 => ?_)
      · replace H := H.1 hc6
        exact H
      · replace H := H.2 hc6
        refine S_aload_n (pc := 39) dX12_flyingAt_39 rfl rfl ?_
        refine S_iload_n (pc := 40) dX12_flyingAt_40 rfl rfl ?_
        refine S_iload (pc := 41) dX12_flyingAt_41 rfl ?_
        refine S_bipush (pc := 43) dX12_flyingAt_43 bp6 ?_
        refine S_callV (As := [.int a1, .int a4, .int (nI 6)]) (mc := 0) (ms := 0) (pc := 45) dX12_flyingAt_45 miX12_s mvX12_s mlX12_445 rfl (sM_0 hs) rfl rfl rfl (RmOK.of rfl) (Q := fun r h => WP _ _ _ _ _ _ _ 48 [some (.ref B), some (.int a1), some (.int a2), some (.int a3), some (.int a4)] (r.toList ++ []) h) (Cl.of miX12_s rfl rfl ?_) (fun _ _ q => q)
        refine S_aload_n (pc := 0) dX12_s_0 rfl rfl ?_
        refine S_getR (pc := 1) dX12_s_1 flX12_148 (sM_0 hs) rfl (rM_44 hs) ?_
        refine S_bipush (pc := 4) dX12_s_4 bp8 ?_
        refine S_sipush (pc := 6) dX12_s_6 sp480 ?_
        refine S_iload_n (pc := 9) dX12_s_9 rfl rfl ?_
        refine S_imul (pc := 10) dX12_s_10 ?_
        refine S_iload_n (pc := 11) dX12_s_11 rfl rfl ?_
        refine S_iadd (pc := 12) dX12_s_12 ?_
        refine S_imul (pc := 13) dX12_s_13 ?_
        refine S_iload_n (pc := 14) dX12_s_14 rfl rfl ?_
        refine S_iadd (pc := 15) dX12_s_15 ?_
        obtain ⟨hb7, H⟩ := H
        refine S_iald (pc := 16) dX12_s_16 (sM_24 hs) hb7 ?_
        refine S_ireturn dX12_s_17 rfl ?_
        show WP _ _ _ _ _ _ _ 48 [some (.ref B), some (.int a1), some (.int a2), some (.int a3), some (.int a4)] [.int (f (B + 24) (((nI 8) * (((nI 480) * a1) + a4)) + (nI 6)).toNatClampNeg)] (sh, f, g, fR)
        refine S_iconst (pc := 48) dX12_flyingAt_48 ic1 ?_
        refine S_icmp_ne (pc := 49) (tgt := 55) dX12_flyingAt_49 rfl (fun hc8 => ?_) (fun hc8 => ?_)
        · replace H := H.1 hc8
          exact H
        · replace H := H.2 hc8
          refine S_iload (pc := 52) dX12_flyingAt_52 rfl ?_
          exact S_ireturn dX12_flyingAt_54 rfl H
set_option maxHeartbeats 2000000 in
set_option maxRecDepth 4000 in
theorem VX12_flyingAt_55 {l : Launch} {G : Gx} {d : Nat} {Q : Option Value → Hp → Prop} {sh : Sh} {fR : FRt} {B : Nat} {f : FI} {g : FL} {a1 : Int32} {a2 : Int32} {a3 : Int32} {a4 : Int32} (hs : StM sh fR B)
    (H : LpX12_flyingAt_3 l G d Q sh fR B f g a1 a2 a3 (a4 + nI 1)) :
    LpX12_flyingAt_55 l G d Q sh fR B f g a1 a2 a3 a4 := by
  refine S_iinc (pc := 55) (v := nI 1) (L' := [some (.ref B), some (.int a1), some (.int a2), some (.int a3), some (.int (a4 + nI 1))]) dX12_flyingAt_55 rfl ic1 rfl ?_
  refine S_goto (pc := 58) (tgt := 3) dX12_flyingAt_58 rfl ?_
  exact H
abbrev LpX12_grows_5 (l : Launch) (G : Gx) (d : Nat) (Q : Option Value → Hp → Prop) (sh : Sh) (fR : FRt) (B : Nat) (f : FI) (g : FL) (a1 : Int32) (a2 : Int32) (b3 : Int64) (a5 : Int32) : Prop := WP l G (Zq G 0 0 Q) mX12_grows (rmd (d + 2) 0 0) 0 0 5 [some (.ref B), some (.int a1), some (.int a2), some (.long b3), none, some (.int a5), none] [] (sh, f, g, fR)
set_option maxHeartbeats 2000000 in
set_option maxRecDepth 4000 in
theorem VX12_grows {l : Launch} {G : Gx} {d : Nat} {Q : Option Value → Hp → Prop} {sh : Sh} {fR : FRt} {B : Nat} {f : FI} {g : FL} {a1 : Int32} {a2 : Int32} (hs : StM sh fR B)
    (H : LpX12_grows_5 l G d Q sh fR B f g a1 a2 (lN 0) (nI 0)) :
    Cl l G (d + 2) 0 0 mX12_grows [.ref B, .int a1, .int a2] (sh, f, g, fR) Q := by
  refine Cl.of (L0 := [some (.ref B), some (.int a1), some (.int a2), none, none, none, none]) miX12_grows rfl rfl ?_
  refine S_lconst (pc := 0) dX12_grows_0 lc0 ?_
  refine S_lstore_n (pc := 1) (L' := [some (.ref B), some (.int a1), some (.int a2), some (.long (lN 0)), none, none, none]) dX12_grows_1 rfl (by decide) rfl ?_
  refine S_iconst (pc := 2) dX12_grows_2 ic0 ?_
  refine S_istore (pc := 3) (L' := [some (.ref B), some (.int a1), some (.int a2), some (.long (lN 0)), none, some (.int (nI 0)), none]) dX12_grows_3 (by decide) rfl ?_
  exact H
set_option maxHeartbeats 2000000 in
set_option maxRecDepth 4000 in
theorem VX12_grows_5 {l : Launch} {G : Gx} {d : Nat} {Q : Option Value → Hp → Prop} {sh : Sh} {fR : FRt} {B : Nat} {f : FI} {g : FL} {a1 : Int32} {a2 : Int32} {b3 : Int64} {a5 : Int32} (hs : StM sh fR B)
    (H : inb (f B 13) 2 ∧ (((f (B + 6) (f B 13).toNatClampNeg) ≤ a5 → inb (((((nI 40) * a1) + (nI 14)) + ((nI 6) * a2)) + (nI 2)) 880 ∧ ¬ b3 = 0 ∧ (∀ z5 : Int64, z5 = ((f (B + 23) (((((nI 40) * a1) + (nI 14)) + ((nI 6) * a2)) + (nI 2)).toNatClampNeg).toInt64) + ((lN 1000000) / b3) → ((z5 ≤ (lN 99000) → inb (((((nI 40) * a1) + (nI 14)) + ((nI 6) * a2)) + (nI 2)) 880 ∧ Q none (sh, (up2 f (B + 23) (((((nI 40) * a1) + (nI 14)) + ((nI 6) * a2)) + (nI 2)).toNatClampNeg z5.toInt32), g, fR)) ∧ (¬ z5 ≤ (lN 99000) → inb (((((nI 40) * a1) + (nI 14)) + ((nI 6) * a2)) + (nI 2)) 880 ∧ Q none (sh, (up2 f (B + 23) (((((nI 40) * a1) + (nI 14)) + ((nI 6) * a2)) + (nI 2)).toNatClampNeg (nI 99000)), g, fR))))) ∧ (¬ (f (B + 6) (f B 13).toNatClampNeg) ≤ a5 → Cl l G (d + 1) 0 0 mX12_isFree [.ref B, .int a1, .int a5] (sh, f, g, fR) (qi sh fR fun x12 f10 g11 => ((x12 = 0 → (∀ z14 : Int64, z14 = b3 + (lN 0) → LpX12_grows_5 l G d Q sh fR B f10 g11 a1 a2 z14 (a5 + nI 1))) ∧ (¬ x12 = 0 → inb (((((nI 40) * a1) + (nI 14)) + ((nI 6) * a5)) + (nI 2)) 880 ∧ (∀ z17 : Int64, z17 = b3 + ((f10 (B + 23) (((((nI 40) * a1) + (nI 14)) + ((nI 6) * a5)) + (nI 2)).toNatClampNeg).toInt64) → LpX12_grows_5 l G d Q sh fR B f10 g11 a1 a2 z17 (a5 + nI 1)))))))) :
    LpX12_grows_5 l G d Q sh fR B f g a1 a2 b3 a5 := by
  refine S_iload (pc := 5) dX12_grows_5 rfl ?_
  refine S_aload_n (pc := 7) dX12_grows_7 rfl rfl ?_
  refine S_getR (pc := 8) dX12_grows_8 flX12_66 (sM_0 hs) rfl (rM_18 hs) ?_
  refine S_aload_n (pc := 11) dX12_grows_11 rfl rfl ?_
  refine S_get (pc := 12) (v := .int (f B 13)) dX12_grows_12 flX12_51 (sM_0 hs) rfl ?_
  obtain ⟨hb1, H⟩ := H
  refine S_iald (pc := 15) dX12_grows_15 (sM_6 hs) hb1 ?_
  refine S_icmp_ge (pc := 16) (tgt := 51) dX12_grows_16 rfl (fun hc2 => ?_) (fun hc2 => ?_)
  · replace H := H.1 hc2
    refine S_aload_n (pc := 51) dX12_grows_51 rfl rfl ?_
    refine S_iload_n (pc := 52) dX12_grows_52 rfl rfl ?_
    refine S_iload_n (pc := 53) dX12_grows_53 rfl rfl ?_
    refine S_iconst (pc := 54) dX12_grows_54 ic2 ?_
    refine S_callV (As := [.int a1, .int a2, .int (nI 2)]) (mc := 0) (ms := 0) (pc := 55) dX12_grows_55 miX12_p mvX12_p mlX12_438 rfl (sM_0 hs) rfl rfl rfl (RmOK.of rfl) (Q := fun r h => WP _ _ _ _ _ _ _ 58 [some (.ref B), some (.int a1), some (.int a2), some (.long b3), none, some (.int a5), none] (r.toList ++ []) h) (Cl.of miX12_p rfl rfl ?_) (fun _ _ q => q)
    refine S_aload_n (pc := 0) dX12_p_0 rfl rfl ?_
    refine S_getR (pc := 1) dX12_p_1 flX12_144 (sM_0 hs) rfl (rM_43 hs) ?_
    refine S_bipush (pc := 4) dX12_p_4 bp40 ?_
    refine S_iload_n (pc := 6) dX12_p_6 rfl rfl ?_
    refine S_imul (pc := 7) dX12_p_7 ?_
    refine S_bipush (pc := 8) dX12_p_8 bp14 ?_
    refine S_iadd (pc := 10) dX12_p_10 ?_
    refine S_bipush (pc := 11) dX12_p_11 bp6 ?_
    refine S_iload_n (pc := 13) dX12_p_13 rfl rfl ?_
    refine S_imul (pc := 14) dX12_p_14 ?_
    refine S_iadd (pc := 15) dX12_p_15 ?_
    refine S_iload_n (pc := 16) dX12_p_16 rfl rfl ?_
    refine S_iadd (pc := 17) dX12_p_17 ?_
    obtain ⟨hb3, H⟩ := H
    refine S_iald (pc := 18) dX12_p_18 (sM_23 hs) hb3 ?_
    refine S_ireturn dX12_p_19 rfl ?_
    show WP _ _ _ _ _ _ _ 58 [some (.ref B), some (.int a1), some (.int a2), some (.long b3), none, some (.int a5), none] [.int (f (B + 23) (((((nI 40) * a1) + (nI 14)) + ((nI 6) * a2)) + (nI 2)).toNatClampNeg)] (sh, f, g, fR)
    refine S_i2l (pc := 58) dX12_grows_58 ?_
    refine S_ldc2 (pc := 59) (v := lN 1000000) dX12_grows_59 (gw 1673 rfl rfl) ?_
    refine S_lload_n (pc := 62) dX12_grows_62 rfl rfl ?_
    obtain ⟨hc4, H⟩ := H
    refine S_ldiv (pc := 63) dX12_grows_63 hc4 ?_
    refine S_ladd (pc := 64) dX12_grows_64 ?_
    refine S_namel (fun z5 e6 => ?_)
    replace H := H z5 e6
    refine S_lstore (pc := 65) (L' := [some (.ref B), some (.int a1), some (.int a2), some (.long b3), none, some (.long z5), none]) dX12_grows_65 (by decide) rfl ?_
    refine S_aload_n (pc := 67) dX12_grows_67 rfl rfl ?_
    refine S_iload_n (pc := 68) dX12_grows_68 rfl rfl ?_
    refine S_iload_n (pc := 69) dX12_grows_69 rfl rfl ?_
    refine S_iconst (pc := 70) dX12_grows_70 ic2 ?_
    refine S_lload (pc := 71) dX12_grows_71 rfl ?_
    refine S_ldc2 (pc := 73) (v := lN 99000) dX12_grows_73 (gw 1740 rfl rfl) ?_
    refine S_lcmp_le (pc := 76) (tgt := 86) dX12_grows_76 dX12_grows_77 rfl (fun hc7 => ?_) (fun hc7 => ?_)
    · replace H := H.1 hc7
      refine S_lload (pc := 86) dX12_grows_86 rfl ?_
      refine S_l2i (pc := 88) dX12_grows_88 ?_
      refine S_callV (As := [.int a1, .int a2, .int (nI 2), .int z5.toInt32]) (mc := 0) (ms := 0) (pc := 89) dX12_grows_89 miX12_setsPath mvX12_setsPath mlX12_412 rfl (sM_0 hs) rfl rfl rfl (RmOK.of rfl) (Q := fun r h => WP _ _ _ _ _ _ _ 92 [some (.ref B), some (.int a1), some (.int a2), some (.long b3), none, some (.long z5), none] (r.toList ++ []) h) (Cl.of miX12_setsPath rfl rfl ?_) (fun _ _ q => q)
      refine S_aload_n (pc := 0) dX12_setsPath_0 rfl rfl ?_
      refine S_getR (pc := 1) dX12_setsPath_1 flX12_144 (sM_0 hs) rfl (rM_43 hs) ?_
      refine S_bipush (pc := 4) dX12_setsPath_4 bp40 ?_
      refine S_iload_n (pc := 6) dX12_setsPath_6 rfl rfl ?_
      refine S_imul (pc := 7) dX12_setsPath_7 ?_
      refine S_bipush (pc := 8) dX12_setsPath_8 bp14 ?_
      refine S_iadd (pc := 10) dX12_setsPath_10 ?_
      refine S_bipush (pc := 11) dX12_setsPath_11 bp6 ?_
      refine S_iload_n (pc := 13) dX12_setsPath_13 rfl rfl ?_
      refine S_imul (pc := 14) dX12_setsPath_14 ?_
      refine S_iadd (pc := 15) dX12_setsPath_15 ?_
      refine S_iload_n (pc := 16) dX12_setsPath_16 rfl rfl ?_
      refine S_iadd (pc := 17) dX12_setsPath_17 ?_
      refine S_iload (pc := 18) dX12_setsPath_18 rfl ?_
      obtain ⟨hb8, H⟩ := H
      refine S_iast (pc := 20) dX12_setsPath_20 (sM_23 hs) (Nat.succ_pos _) hb8 ?_
      refine S_vreturn dX12_setsPath_21 rfl ?_
      show WP _ _ _ _ _ _ _ 92 [some (.ref B), some (.int a1), some (.int a2), some (.long b3), none, some (.long z5), none] [] (sh, (up2 f (B + 23) (((((nI 40) * a1) + (nI 14)) + ((nI 6) * a2)) + (nI 2)).toNatClampNeg z5.toInt32), g, fR)
      exact S_vreturn dX12_grows_92 rfl H
    · replace H := H.2 hc7
      refine S_ldcw (pc := 80) (v := nI 99000) dX12_grows_80 (gw 1741 rfl rfl) ?_
      refine S_goto (pc := 83) (tgt := 89) dX12_grows_83 rfl ?_
      refine S_callV (As := [.int a1, .int a2, .int (nI 2), .int (nI 99000)]) (mc := 0) (ms := 0) (pc := 89) dX12_grows_89 miX12_setsPath mvX12_setsPath mlX12_412 rfl (sM_0 hs) rfl rfl rfl (RmOK.of rfl) (Q := fun r h => WP _ _ _ _ _ _ _ 92 [some (.ref B), some (.int a1), some (.int a2), some (.long b3), none, some (.long z5), none] (r.toList ++ []) h) (Cl.of miX12_setsPath rfl rfl ?_) (fun _ _ q => q)
      refine S_aload_n (pc := 0) dX12_setsPath_0 rfl rfl ?_
      refine S_getR (pc := 1) dX12_setsPath_1 flX12_144 (sM_0 hs) rfl (rM_43 hs) ?_
      refine S_bipush (pc := 4) dX12_setsPath_4 bp40 ?_
      refine S_iload_n (pc := 6) dX12_setsPath_6 rfl rfl ?_
      refine S_imul (pc := 7) dX12_setsPath_7 ?_
      refine S_bipush (pc := 8) dX12_setsPath_8 bp14 ?_
      refine S_iadd (pc := 10) dX12_setsPath_10 ?_
      refine S_bipush (pc := 11) dX12_setsPath_11 bp6 ?_
      refine S_iload_n (pc := 13) dX12_setsPath_13 rfl rfl ?_
      refine S_imul (pc := 14) dX12_setsPath_14 ?_
      refine S_iadd (pc := 15) dX12_setsPath_15 ?_
      refine S_iload_n (pc := 16) dX12_setsPath_16 rfl rfl ?_
      refine S_iadd (pc := 17) dX12_setsPath_17 ?_
      refine S_iload (pc := 18) dX12_setsPath_18 rfl ?_
      obtain ⟨hb9, H⟩ := H
      refine S_iast (pc := 20) dX12_setsPath_20 (sM_23 hs) (Nat.succ_pos _) hb9 ?_
      refine S_vreturn dX12_setsPath_21 rfl ?_
      show WP _ _ _ _ _ _ _ 92 [some (.ref B), some (.int a1), some (.int a2), some (.long b3), none, some (.long z5), none] [] (sh, (up2 f (B + 23) (((((nI 40) * a1) + (nI 14)) + ((nI 6) * a2)) + (nI 2)).toNatClampNeg (nI 99000)), g, fR)
      exact S_vreturn dX12_grows_92 rfl H
  · replace H := H.2 hc2
    refine S_lload_n (pc := 19) dX12_grows_19 rfl rfl ?_
    refine S_aload_n (pc := 20) dX12_grows_20 rfl rfl ?_
    refine S_iload_n (pc := 21) dX12_grows_21 rfl rfl ?_
    refine S_iload (pc := 22) dX12_grows_22 rfl ?_
    refine S_callV (As := [.int a1, .int a5]) (mc := 0) (ms := 0) (pc := 24) dX12_grows_24 miX12_isFree mvX12_isFree mlX12_470 rfl (sM_0 hs) rfl rfl rfl (RmOK.of rfl) H ?_
    rintro _ _ ⟨x12, f10, g11, rfl, rfl, H⟩
    show WP _ _ _ _ _ _ _ 27 [some (.ref B), some (.int a1), some (.int a2), some (.long b3), none, some (.int a5), none] [.int x12, .long b3] (sh, f10, g11, fR)
    refine S_if_eq (pc := 27) (tgt := 42) dX12_grows_27 rfl (fun hc13 => ?_) (fun hc13 => ?_)
    · replace H := H.1 hc13
      refine S_lconst (pc := 42) dX12_grows_42 lc0 ?_
      refine S_ladd (pc := 43) dX12_grows_43 ?_
      refine S_namel (fun z14 e15 => ?_)
      replace H := H z14 e15
      refine S_lstore_n (pc := 44) (L' := [some (.ref B), some (.int a1), some (.int a2), some (.long z14), none, some (.int a5), none]) dX12_grows_44 rfl (by decide) rfl ?_
      refine S_iinc (pc := 45) (v := nI 1) (L' := [some (.ref B), some (.int a1), some (.int a2), some (.long z14), none, some (.int (a5 + nI 1)), none]) dX12_grows_45 rfl ic1 rfl ?_
      refine S_goto (pc := 48) (tgt := 5) dX12_grows_48 rfl ?_
      exact H
    · replace H := H.2 hc13
      refine S_aload_n (pc := 30) dX12_grows_30 rfl rfl ?_
      refine S_iload_n (pc := 31) dX12_grows_31 rfl rfl ?_
      refine S_iload (pc := 32) dX12_grows_32 rfl ?_
      refine S_iconst (pc := 34) dX12_grows_34 ic2 ?_
      refine S_callV (As := [.int a1, .int a5, .int (nI 2)]) (mc := 0) (ms := 0) (pc := 35) dX12_grows_35 miX12_p mvX12_p mlX12_438 rfl (sM_0 hs) rfl rfl rfl (RmOK.of rfl) (Q := fun r h => WP _ _ _ _ _ _ _ 38 [some (.ref B), some (.int a1), some (.int a2), some (.long b3), none, some (.int a5), none] (r.toList ++ [.long b3]) h) (Cl.of miX12_p rfl rfl ?_) (fun _ _ q => q)
      refine S_aload_n (pc := 0) dX12_p_0 rfl rfl ?_
      refine S_getR (pc := 1) dX12_p_1 flX12_144 (sM_0 hs) rfl (rM_43 hs) ?_
      refine S_bipush (pc := 4) dX12_p_4 bp40 ?_
      refine S_iload_n (pc := 6) dX12_p_6 rfl rfl ?_
      refine S_imul (pc := 7) dX12_p_7 ?_
      refine S_bipush (pc := 8) dX12_p_8 bp14 ?_
      refine S_iadd (pc := 10) dX12_p_10 ?_
      refine S_bipush (pc := 11) dX12_p_11 bp6 ?_
      refine S_iload_n (pc := 13) dX12_p_13 rfl rfl ?_
      refine S_imul (pc := 14) dX12_p_14 ?_
      refine S_iadd (pc := 15) dX12_p_15 ?_
      refine S_iload_n (pc := 16) dX12_p_16 rfl rfl ?_
      refine S_iadd (pc := 17) dX12_p_17 ?_
      obtain ⟨hb16, H⟩ := H
      refine S_iald (pc := 18) dX12_p_18 (sM_23 hs) hb16 ?_
      refine S_ireturn dX12_p_19 rfl ?_
      show WP _ _ _ _ _ _ _ 38 [some (.ref B), some (.int a1), some (.int a2), some (.long b3), none, some (.int a5), none] [.int (f10 (B + 23) (((((nI 40) * a1) + (nI 14)) + ((nI 6) * a5)) + (nI 2)).toNatClampNeg), .long b3] (sh, f10, g11, fR)
      refine S_i2l (pc := 38) dX12_grows_38 ?_
      refine S_goto (pc := 39) (tgt := 43) dX12_grows_39 rfl ?_
      refine S_ladd (pc := 43) dX12_grows_43 ?_
      refine S_namel (fun z17 e18 => ?_)
      replace H := H z17 e18
      refine S_lstore_n (pc := 44) (L' := [some (.ref B), some (.int a1), some (.int a2), some (.long z17), none, some (.int a5), none]) dX12_grows_44 rfl (by decide) rfl ?_
      refine S_iinc (pc := 45) (v := nI 1) (L' := [some (.ref B), some (.int a1), some (.int a2), some (.long z17), none, some (.int (a5 + nI 1)), none]) dX12_grows_45 rfl ic1 rfl ?_
      refine S_goto (pc := 48) (tgt := 5) dX12_grows_48 rfl ?_
      exact H
abbrev LpX12_hears_4 (l : Launch) (G : Gx) (d : Nat) (Q : Option Value → Hp → Prop) (sh : Sh) (fR : FRt) (B : Nat) (f : FI) (g : FL) (a1 : Int32) (a2 : Int32) (a3 : Int32) : Prop := WP l G (Zq G 0 0 Q) mX12_hears (rmd (d + 3) 0 0) 0 0 4 [some (.ref B), some (.int a1), some (.int a2), some (.int a3), none, none] [] (sh, f, g, fR)
abbrev LpX12_hears_115 (l : Launch) (G : Gx) (d : Nat) (Q : Option Value → Hp → Prop) (sh : Sh) (fR : FRt) (B : Nat) (f : FI) (g : FL) (a1 : Int32) (a2 : Int32) (a3 : Int32) (a4 : Int32) : Prop := WP l G (Zq G 0 0 Q) mX12_hears (rmd (d + 3) 0 0) 0 0 115 [some (.ref B), some (.int a1), some (.int a2), some (.int a3), some (.int a4), none] [] (sh, f, g, fR)
abbrev LpX12_hears_34 (l : Launch) (G : Gx) (d : Nat) (Q : Option Value → Hp → Prop) (sh : Sh) (fR : FRt) (B : Nat) (f : FI) (g : FL) (a1 : Int32) (a2 : Int32) (a3 : Int32) (a4 : Int32) : Prop := WP l G (Zq G 0 0 Q) mX12_hears (rmd (d + 3) 0 0) 0 0 34 [some (.ref B), some (.int a1), some (.int a2), some (.int a3), some (.int a4), none] [] (sh, f, g, fR)
abbrev LpX12_hears_144 (l : Launch) (G : Gx) (d : Nat) (Q : Option Value → Hp → Prop) (sh : Sh) (fR : FRt) (B : Nat) (f : FI) (g : FL) (a1 : Int32) (a2 : Int32) (a3 : Int32) (a4 : Int32) : Prop := WP l G (Zq G 0 0 Q) mX12_hears (rmd (d + 3) 0 0) 0 0 144 [some (.ref B), some (.int a1), some (.int a2), some (.int a3), some (.int a4), none] [] (sh, f, g, fR)
abbrev LpX12_hears_210 (l : Launch) (G : Gx) (d : Nat) (Q : Option Value → Hp → Prop) (sh : Sh) (fR : FRt) (B : Nat) (f : FI) (g : FL) (a1 : Int32) (a2 : Int32) (a3 : Int32) : Prop := WP l G (Zq G 0 0 Q) mX12_hears (rmd (d + 3) 0 0) 0 0 210 [some (.ref B), some (.int a1), some (.int a2), some (.int a3), none, none] [] (sh, f, g, fR)
set_option maxHeartbeats 2000000 in
set_option maxRecDepth 4000 in
theorem VX12_hears {l : Launch} {G : Gx} {d : Nat} {Q : Option Value → Hp → Prop} {sh : Sh} {fR : FRt} {B : Nat} {f : FI} {g : FL} {a1 : Int32} (hs : StM sh fR B)
    (H : LpX12_hears_4 l G d Q sh fR B f g a1 (nI 0) (nI 0)) :
    Cl l G (d + 3) 0 0 mX12_hears [.ref B, .int a1] (sh, f, g, fR) Q := by
  refine Cl.of (L0 := [some (.ref B), some (.int a1), none, none, none, none]) miX12_hears rfl rfl ?_
  refine S_iconst (pc := 0) dX12_hears_0 ic0 ?_
  refine S_istore_n (pc := 1) (L' := [some (.ref B), some (.int a1), some (.int (nI 0)), none, none, none]) dX12_hears_1 rfl (by decide) rfl ?_
  refine S_iconst (pc := 2) dX12_hears_2 ic0 ?_
  refine S_istore_n (pc := 3) (L' := [some (.ref B), some (.int a1), some (.int (nI 0)), some (.int (nI 0)), none, none]) dX12_hears_3 rfl (by decide) rfl ?_
  exact H
set_option maxHeartbeats 2000000 in
set_option maxRecDepth 4000 in
theorem VX12_hears_4 {l : Launch} {G : Gx} {d : Nat} {Q : Option Value → Hp → Prop} {sh : Sh} {fR : FRt} {B : Nat} {f : FI} {g : FL} {a1 : Int32} {a2 : Int32} {a3 : Int32} (hs : StM sh fR B)
    (H : inb (((nI 40) * a1) + (nI 8)) 880 ∧ (((f (B + 23) (((nI 40) * a1) + (nI 8)).toNatClampNeg) ≤ a3 → inb (((nI 40) * a1) + (nI 8)) 880 ∧ Q none (sh, (up2 f (B + 23) (((nI 40) * a1) + (nI 8)).toNatClampNeg a2), g, fR)) ∧ (¬ (f (B + 23) (((nI 40) * a1) + (nI 8)).toNatClampNeg) ≤ a3 → inb (((nI 5) * (((nI 520) * a1) + a3)) + (nI 4)) 57200 ∧ inb (((nI 40) * a1) + (nI 0)) 880 ∧ (((f (B + 26) (((nI 5) * (((nI 520) * a1) + a3)) + (nI 4)).toNatClampNeg) = (f (B + 23) (((nI 40) * a1) + (nI 0)).toNatClampNeg) → inb (((nI 5) * (((nI 520) * a1) + a3)) + (nI 0)) 57200 ∧ (∀ w8 : Int32, w8 = f (B + 26) (((nI 5) * (((nI 520) * a1) + a3)) + (nI 0)).toNatClampNeg → inb (((nI 5) * (((nI 520) * a1) + a3)) + (nI 2)) 57200 ∧ inb (((nI 40) * a1) + (nI 2)) 880 ∧ (((f (B + 26) (((nI 5) * (((nI 520) * a1) + a3)) + (nI 2)).toNatClampNeg) ≤ (f (B + 23) (((nI 40) * a1) + (nI 2)).toNatClampNeg) → LpX12_hears_115 l G d Q sh fR B f g a1 a2 a3 w8) ∧ (¬ (f (B + 26) (((nI 5) * (((nI 520) * a1) + a3)) + (nI 2)).toNatClampNeg) ≤ (f (B + 23) (((nI 40) * a1) + (nI 2)).toNatClampNeg) → inb (((nI 5) * (((nI 520) * a1) + a3)) + (nI 2)) 57200 ∧ inb (((nI 40) * a1) + (nI 2)) 880 ∧ LpX12_hears_115 l G d Q sh fR B (up2 f (B + 23) (((nI 40) * a1) + (nI 2)).toNatClampNeg (f (B + 26) (((nI 5) * (((nI 520) * a1) + a3)) + (nI 2)).toNatClampNeg)) g a1 a2 a3 w8)))) ∧ (¬ (f (B + 26) (((nI 5) * (((nI 520) * a1) + a3)) + (nI 4)).toNatClampNeg) = (f (B + 23) (((nI 40) * a1) + (nI 0)).toNatClampNeg) → LpX12_hears_34 l G d Q sh fR B f g a1 a2 a3 (nI 0)))))) :
    LpX12_hears_4 l G d Q sh fR B f g a1 a2 a3 := by
  refine S_iload_n (pc := 4) dX12_hears_4 rfl rfl ?_
  refine S_aload_n (pc := 5) dX12_hears_5 rfl rfl ?_
  refine S_iload_n (pc := 6) dX12_hears_6 rfl rfl ?_
  refine S_bipush (pc := 7) dX12_hears_7 bp8 ?_
  refine S_callV (As := [.int a1, .int (nI 8)]) (mc := 0) (ms := 0) (pc := 9) dX12_hears_9 miX12_n mvX12_n mlX12_402 rfl (sM_0 hs) rfl rfl rfl (RmOK.of rfl) (Q := fun r h => WP _ _ _ _ _ _ _ 12 [some (.ref B), some (.int a1), some (.int a2), some (.int a3), none, none] (r.toList ++ [.int a3]) h) (Cl.of miX12_n rfl rfl ?_) (fun _ _ q => q)
  refine S_aload_n (pc := 0) dX12_n_0 rfl rfl ?_
  refine S_getR (pc := 1) dX12_n_1 flX12_144 (sM_0 hs) rfl (rM_43 hs) ?_
  refine S_bipush (pc := 4) dX12_n_4 bp40 ?_
  refine S_iload_n (pc := 6) dX12_n_6 rfl rfl ?_
  refine S_imul (pc := 7) dX12_n_7 ?_
  refine S_iload_n (pc := 8) dX12_n_8 rfl rfl ?_
  refine S_iadd (pc := 9) dX12_n_9 ?_
  obtain ⟨hb1, H⟩ := H
  refine S_iald (pc := 10) dX12_n_10 (sM_23 hs) hb1 ?_
  refine S_ireturn dX12_n_11 rfl ?_
  show WP _ _ _ _ _ _ _ 12 [some (.ref B), some (.int a1), some (.int a2), some (.int a3), none, none] [.int (f (B + 23) (((nI 40) * a1) + (nI 8)).toNatClampNeg), .int a3] (sh, f, g, fR)
  refine S_icmp_ge (pc := 12) (tgt := 216) dX12_hears_12 rfl (fun hc2 => ?_) (fun hc2 => ?_)
  · replace H := H.1 hc2
    refine S_aload_n (pc := 216) dX12_hears_216 rfl rfl ?_
    refine S_iload_n (pc := 217) dX12_hears_217 rfl rfl ?_
    refine S_bipush (pc := 218) dX12_hears_218 bp8 ?_
    refine S_iload_n (pc := 220) dX12_hears_220 rfl rfl ?_
    refine S_callV (As := [.int a1, .int (nI 8), .int a2]) (mc := 0) (ms := 0) (pc := 221) dX12_hears_221 miX12_sets mvX12_sets mlX12_405 rfl (sM_0 hs) rfl rfl rfl (RmOK.of rfl) (Q := fun r h => WP _ _ _ _ _ _ _ 224 [some (.ref B), some (.int a1), some (.int a2), some (.int a3), none, none] (r.toList ++ []) h) (Cl.of miX12_sets rfl rfl ?_) (fun _ _ q => q)
    refine S_aload_n (pc := 0) dX12_sets_0 rfl rfl ?_
    refine S_getR (pc := 1) dX12_sets_1 flX12_144 (sM_0 hs) rfl (rM_43 hs) ?_
    refine S_bipush (pc := 4) dX12_sets_4 bp40 ?_
    refine S_iload_n (pc := 6) dX12_sets_6 rfl rfl ?_
    refine S_imul (pc := 7) dX12_sets_7 ?_
    refine S_iload_n (pc := 8) dX12_sets_8 rfl rfl ?_
    refine S_iadd (pc := 9) dX12_sets_9 ?_
    refine S_iload_n (pc := 10) dX12_sets_10 rfl rfl ?_
    obtain ⟨hb3, H⟩ := H
    refine S_iast (pc := 11) dX12_sets_11 (sM_23 hs) (Nat.succ_pos _) hb3 ?_
    refine S_vreturn dX12_sets_12 rfl ?_
    show WP _ _ _ _ _ _ _ 224 [some (.ref B), some (.int a1), some (.int a2), some (.int a3), none, none] [] (sh, (up2 f (B + 23) (((nI 40) * a1) + (nI 8)).toNatClampNeg a2), g, fR)
    exact S_vreturn dX12_hears_224 rfl H
  · replace H := H.2 hc2
    refine S_aload_n (pc := 15) dX12_hears_15 rfl rfl ?_
    refine S_iload_n (pc := 16) dX12_hears_16 rfl rfl ?_
    refine S_iload_n (pc := 17) dX12_hears_17 rfl rfl ?_
    refine S_iconst (pc := 18) dX12_hears_18 ic4 ?_
    refine S_callV (As := [.int a1, .int a3, .int (nI 4)]) (mc := 0) (ms := 0) (pc := 19) dX12_hears_19 miX12_a mvX12_a mlX12_476 rfl (sM_0 hs) rfl rfl rfl (RmOK.of rfl) (Q := fun r h => WP _ _ _ _ _ _ _ 22 [some (.ref B), some (.int a1), some (.int a2), some (.int a3), none, none] (r.toList ++ []) h) (Cl.of miX12_a rfl rfl ?_) (fun _ _ q => q)
    refine S_aload_n (pc := 0) dX12_a_0 rfl rfl ?_
    refine S_getR (pc := 1) dX12_a_1 flX12_155 (sM_0 hs) rfl (rM_46 hs) ?_
    refine S_iconst (pc := 4) dX12_a_4 ic5 ?_
    refine S_sipush (pc := 5) dX12_a_5 sp520 ?_
    refine S_iload_n (pc := 8) dX12_a_8 rfl rfl ?_
    refine S_imul (pc := 9) dX12_a_9 ?_
    refine S_iload_n (pc := 10) dX12_a_10 rfl rfl ?_
    refine S_iadd (pc := 11) dX12_a_11 ?_
    refine S_imul (pc := 12) dX12_a_12 ?_
    refine S_iload_n (pc := 13) dX12_a_13 rfl rfl ?_
    refine S_iadd (pc := 14) dX12_a_14 ?_
    obtain ⟨hb4, H⟩ := H
    refine S_iald (pc := 15) dX12_a_15 (sM_26 hs) hb4 ?_
    refine S_ireturn dX12_a_16 rfl ?_
    show WP _ _ _ _ _ _ _ 22 [some (.ref B), some (.int a1), some (.int a2), some (.int a3), none, none] [.int (f (B + 26) (((nI 5) * (((nI 520) * a1) + a3)) + (nI 4)).toNatClampNeg)] (sh, f, g, fR)
    refine S_aload_n (pc := 22) dX12_hears_22 rfl rfl ?_
    refine S_iload_n (pc := 23) dX12_hears_23 rfl rfl ?_
    refine S_iconst (pc := 24) dX12_hears_24 ic0 ?_
    refine S_callV (As := [.int a1, .int (nI 0)]) (mc := 0) (ms := 0) (pc := 25) dX12_hears_25 miX12_n mvX12_n mlX12_402 rfl (sM_0 hs) rfl rfl rfl (RmOK.of rfl) (Q := fun r h => WP _ _ _ _ _ _ _ 28 [some (.ref B), some (.int a1), some (.int a2), some (.int a3), none, none] (r.toList ++ [.int (f (B + 26) (((nI 5) * (((nI 520) * a1) + a3)) + (nI 4)).toNatClampNeg)]) h) (Cl.of miX12_n rfl rfl ?_) (fun _ _ q => q)
    refine S_aload_n (pc := 0) dX12_n_0 rfl rfl ?_
    refine S_getR (pc := 1) dX12_n_1 flX12_144 (sM_0 hs) rfl (rM_43 hs) ?_
    refine S_bipush (pc := 4) dX12_n_4 bp40 ?_
    refine S_iload_n (pc := 6) dX12_n_6 rfl rfl ?_
    refine S_imul (pc := 7) dX12_n_7 ?_
    refine S_iload_n (pc := 8) dX12_n_8 rfl rfl ?_
    refine S_iadd (pc := 9) dX12_n_9 ?_
    obtain ⟨hb5, H⟩ := H
    refine S_iald (pc := 10) dX12_n_10 (sM_23 hs) hb5 ?_
    refine S_ireturn dX12_n_11 rfl ?_
    show WP _ _ _ _ _ _ _ 28 [some (.ref B), some (.int a1), some (.int a2), some (.int a3), none, none] [.int (f (B + 23) (((nI 40) * a1) + (nI 0)).toNatClampNeg), .int (f (B + 26) (((nI 5) * (((nI 520) * a1) + a3)) + (nI 4)).toNatClampNeg)] (sh, f, g, fR)
    refine S_icmp_eq (pc := 28) (tgt := 77) dX12_hears_28 rfl (fun hc6 => ?_) (fun hc6 => ?_)
    · replace H := H.1 hc6
      refine S_aload_n (pc := 77) dX12_hears_77 rfl rfl ?_
      refine S_iload_n (pc := 78) dX12_hears_78 rfl rfl ?_
      refine S_iload_n (pc := 79) dX12_hears_79 rfl rfl ?_
      refine S_iconst (pc := 80) dX12_hears_80 ic0 ?_
      refine S_callV (As := [.int a1, .int a3, .int (nI 0)]) (mc := 0) (ms := 0) (pc := 81) dX12_hears_81 miX12_a mvX12_a mlX12_476 rfl (sM_0 hs) rfl rfl rfl (RmOK.of rfl) (Q := fun r h => WP _ _ _ _ _ _ _ 84 [some (.ref B), some (.int a1), some (.int a2), some (.int a3), none, none] (r.toList ++ []) h) (Cl.of miX12_a rfl rfl ?_) (fun _ _ q => q)
      refine S_aload_n (pc := 0) dX12_a_0 rfl rfl ?_
      refine S_getR (pc := 1) dX12_a_1 flX12_155 (sM_0 hs) rfl (rM_46 hs) ?_
      refine S_iconst (pc := 4) dX12_a_4 ic5 ?_
      refine S_sipush (pc := 5) dX12_a_5 sp520 ?_
      refine S_iload_n (pc := 8) dX12_a_8 rfl rfl ?_
      refine S_imul (pc := 9) dX12_a_9 ?_
      refine S_iload_n (pc := 10) dX12_a_10 rfl rfl ?_
      refine S_iadd (pc := 11) dX12_a_11 ?_
      refine S_imul (pc := 12) dX12_a_12 ?_
      refine S_iload_n (pc := 13) dX12_a_13 rfl rfl ?_
      refine S_iadd (pc := 14) dX12_a_14 ?_
      obtain ⟨hb7, H⟩ := H
      refine S_iald (pc := 15) dX12_a_15 (sM_26 hs) hb7 ?_
      refine S_ireturn dX12_a_16 rfl ?_
      show WP _ _ _ _ _ _ _ 84 [some (.ref B), some (.int a1), some (.int a2), some (.int a3), none, none] [.int (f (B + 26) (((nI 5) * (((nI 520) * a1) + a3)) + (nI 0)).toNatClampNeg)] (sh, f, g, fR)
      refine S_namei (fun w8 e9 => ?_)
      replace H := H w8 e9
      refine S_istore (pc := 84) (L' := [some (.ref B), some (.int a1), some (.int a2), some (.int a3), some (.int w8), none]) dX12_hears_84 (by decide) rfl ?_
      refine S_aload_n (pc := 86) dX12_hears_86 rfl rfl ?_
      refine S_iload_n (pc := 87) dX12_hears_87 rfl rfl ?_
      refine S_iload_n (pc := 88) dX12_hears_88 rfl rfl ?_
      refine S_iconst (pc := 89) dX12_hears_89 ic2 ?_
      refine S_callV (As := [.int a1, .int a3, .int (nI 2)]) (mc := 0) (ms := 0) (pc := 90) dX12_hears_90 miX12_a mvX12_a mlX12_476 rfl (sM_0 hs) rfl rfl rfl (RmOK.of rfl) (Q := fun r h => WP _ _ _ _ _ _ _ 93 [some (.ref B), some (.int a1), some (.int a2), some (.int a3), some (.int w8), none] (r.toList ++ []) h) (Cl.of miX12_a rfl rfl ?_) (fun _ _ q => q)
      refine S_aload_n (pc := 0) dX12_a_0 rfl rfl ?_
      refine S_getR (pc := 1) dX12_a_1 flX12_155 (sM_0 hs) rfl (rM_46 hs) ?_
      refine S_iconst (pc := 4) dX12_a_4 ic5 ?_
      refine S_sipush (pc := 5) dX12_a_5 sp520 ?_
      refine S_iload_n (pc := 8) dX12_a_8 rfl rfl ?_
      refine S_imul (pc := 9) dX12_a_9 ?_
      refine S_iload_n (pc := 10) dX12_a_10 rfl rfl ?_
      refine S_iadd (pc := 11) dX12_a_11 ?_
      refine S_imul (pc := 12) dX12_a_12 ?_
      refine S_iload_n (pc := 13) dX12_a_13 rfl rfl ?_
      refine S_iadd (pc := 14) dX12_a_14 ?_
      obtain ⟨hb10, H⟩ := H
      refine S_iald (pc := 15) dX12_a_15 (sM_26 hs) hb10 ?_
      refine S_ireturn dX12_a_16 rfl ?_
      show WP _ _ _ _ _ _ _ 93 [some (.ref B), some (.int a1), some (.int a2), some (.int a3), some (.int w8), none] [.int (f (B + 26) (((nI 5) * (((nI 520) * a1) + a3)) + (nI 2)).toNatClampNeg)] (sh, f, g, fR)
      refine S_aload_n (pc := 93) dX12_hears_93 rfl rfl ?_
      refine S_iload_n (pc := 94) dX12_hears_94 rfl rfl ?_
      refine S_iconst (pc := 95) dX12_hears_95 ic2 ?_
      refine S_callV (As := [.int a1, .int (nI 2)]) (mc := 0) (ms := 0) (pc := 96) dX12_hears_96 miX12_n mvX12_n mlX12_402 rfl (sM_0 hs) rfl rfl rfl (RmOK.of rfl) (Q := fun r h => WP _ _ _ _ _ _ _ 99 [some (.ref B), some (.int a1), some (.int a2), some (.int a3), some (.int w8), none] (r.toList ++ [.int (f (B + 26) (((nI 5) * (((nI 520) * a1) + a3)) + (nI 2)).toNatClampNeg)]) h) (Cl.of miX12_n rfl rfl ?_) (fun _ _ q => q)
      refine S_aload_n (pc := 0) dX12_n_0 rfl rfl ?_
      refine S_getR (pc := 1) dX12_n_1 flX12_144 (sM_0 hs) rfl (rM_43 hs) ?_
      refine S_bipush (pc := 4) dX12_n_4 bp40 ?_
      refine S_iload_n (pc := 6) dX12_n_6 rfl rfl ?_
      refine S_imul (pc := 7) dX12_n_7 ?_
      refine S_iload_n (pc := 8) dX12_n_8 rfl rfl ?_
      refine S_iadd (pc := 9) dX12_n_9 ?_
      obtain ⟨hb11, H⟩ := H
      refine S_iald (pc := 10) dX12_n_10 (sM_23 hs) hb11 ?_
      refine S_ireturn dX12_n_11 rfl ?_
      show WP _ _ _ _ _ _ _ 99 [some (.ref B), some (.int a1), some (.int a2), some (.int a3), some (.int w8), none] [.int (f (B + 23) (((nI 40) * a1) + (nI 2)).toNatClampNeg), .int (f (B + 26) (((nI 5) * (((nI 520) * a1) + a3)) + (nI 2)).toNatClampNeg)] (sh, f, g, fR)
      refine S_icmp_le (pc := 99) (tgt := 115) dX12_hears_99 rfl (fun hc12 => ?_) (fun hc12 => ?_)
      · replace H := H.1 hc12
        exact H
      · replace H := H.2 hc12
        refine S_aload_n (pc := 102) dX12_hears_102 rfl rfl ?_
        refine S_iload_n (pc := 103) dX12_hears_103 rfl rfl ?_
        refine S_iconst (pc := 104) dX12_hears_104 ic2 ?_
        refine S_aload_n (pc := 105) dX12_hears_105 rfl rfl ?_
        refine S_iload_n (pc := 106) dX12_hears_106 rfl rfl ?_
        refine S_iload_n (pc := 107) dX12_hears_107 rfl rfl ?_
        refine S_iconst (pc := 108) dX12_hears_108 ic2 ?_
        refine S_callV (As := [.int a1, .int a3, .int (nI 2)]) (mc := 0) (ms := 0) (pc := 109) dX12_hears_109 miX12_a mvX12_a mlX12_476 rfl (sM_0 hs) rfl rfl rfl (RmOK.of rfl) (Q := fun r h => WP _ _ _ _ _ _ _ 112 [some (.ref B), some (.int a1), some (.int a2), some (.int a3), some (.int w8), none] (r.toList ++ [.int (nI 2), .int a1, .ref B]) h) (Cl.of miX12_a rfl rfl ?_) (fun _ _ q => q)
        refine S_aload_n (pc := 0) dX12_a_0 rfl rfl ?_
        refine S_getR (pc := 1) dX12_a_1 flX12_155 (sM_0 hs) rfl (rM_46 hs) ?_
        refine S_iconst (pc := 4) dX12_a_4 ic5 ?_
        refine S_sipush (pc := 5) dX12_a_5 sp520 ?_
        refine S_iload_n (pc := 8) dX12_a_8 rfl rfl ?_
        refine S_imul (pc := 9) dX12_a_9 ?_
        refine S_iload_n (pc := 10) dX12_a_10 rfl rfl ?_
        refine S_iadd (pc := 11) dX12_a_11 ?_
        refine S_imul (pc := 12) dX12_a_12 ?_
        refine S_iload_n (pc := 13) dX12_a_13 rfl rfl ?_
        refine S_iadd (pc := 14) dX12_a_14 ?_
        obtain ⟨hb13, H⟩ := H
        refine S_iald (pc := 15) dX12_a_15 (sM_26 hs) hb13 ?_
        refine S_ireturn dX12_a_16 rfl ?_
        show WP _ _ _ _ _ _ _ 112 [some (.ref B), some (.int a1), some (.int a2), some (.int a3), some (.int w8), none] [.int (f (B + 26) (((nI 5) * (((nI 520) * a1) + a3)) + (nI 2)).toNatClampNeg), .int (nI 2), .int a1, .ref B] (sh, f, g, fR)
        refine S_callV (As := [.int a1, .int (nI 2), .int (f (B + 26) (((nI 5) * (((nI 520) * a1) + a3)) + (nI 2)).toNatClampNeg)]) (mc := 0) (ms := 0) (pc := 112) dX12_hears_112 miX12_sets mvX12_sets mlX12_405 rfl (sM_0 hs) rfl rfl rfl (RmOK.of rfl) (Q := fun r h => WP _ _ _ _ _ _ _ 115 [some (.ref B), some (.int a1), some (.int a2), some (.int a3), some (.int w8), none] (r.toList ++ []) h) (Cl.of miX12_sets rfl rfl ?_) (fun _ _ q => q)
        refine S_aload_n (pc := 0) dX12_sets_0 rfl rfl ?_
        refine S_getR (pc := 1) dX12_sets_1 flX12_144 (sM_0 hs) rfl (rM_43 hs) ?_
        refine S_bipush (pc := 4) dX12_sets_4 bp40 ?_
        refine S_iload_n (pc := 6) dX12_sets_6 rfl rfl ?_
        refine S_imul (pc := 7) dX12_sets_7 ?_
        refine S_iload_n (pc := 8) dX12_sets_8 rfl rfl ?_
        refine S_iadd (pc := 9) dX12_sets_9 ?_
        refine S_iload_n (pc := 10) dX12_sets_10 rfl rfl ?_
        obtain ⟨hb14, H⟩ := H
        refine S_iast (pc := 11) dX12_sets_11 (sM_23 hs) (Nat.succ_pos _) hb14 ?_
        refine S_vreturn dX12_sets_12 rfl ?_
        show WP _ _ _ _ _ _ _ 115 [some (.ref B), some (.int a1), some (.int a2), some (.int a3), some (.int w8), none] [] (sh, (up2 f (B + 23) (((nI 40) * a1) + (nI 2)).toNatClampNeg (f (B + 26) (((nI 5) * (((nI 520) * a1) + a3)) + (nI 2)).toNatClampNeg)), g, fR)
        exact H
    · replace H := H.2 hc6
      refine S_iconst (pc := 31) dX12_hears_31 ic0 ?_
      refine S_istore (pc := 32) (L' := [some (.ref B), some (.int a1), some (.int a2), some (.int a3), some (.int (nI 0)), none]) dX12_hears_32 (by decide) rfl ?_
      exact H
set_option maxHeartbeats 2000000 in
set_option maxRecDepth 4000 in
theorem VX12_hears_115 {l : Launch} {G : Gx} {d : Nat} {Q : Option Value → Hp → Prop} {sh : Sh} {fR : FRt} {B : Nat} {f : FI} {g : FL} {a1 : Int32} {a2 : Int32} {a3 : Int32} {a4 : Int32} (hs : StM sh fR B)
    (H : inb (((nI 5) * (((nI 520) * a1) + a3)) + (nI 3)) 57200 ∧ inb (((nI 40) * a1) + (nI 3)) 880 ∧ (((f (B + 26) (((nI 5) * (((nI 520) * a1) + a3)) + (nI 3)).toNatClampNeg) ≤ (f (B + 23) (((nI 40) * a1) + (nI 3)).toNatClampNeg) → LpX12_hears_144 l G d Q sh fR B f g a1 a2 a3 a4) ∧ (¬ (f (B + 26) (((nI 5) * (((nI 520) * a1) + a3)) + (nI 3)).toNatClampNeg) ≤ (f (B + 23) (((nI 40) * a1) + (nI 3)).toNatClampNeg) → inb (((nI 5) * (((nI 520) * a1) + a3)) + (nI 3)) 57200 ∧ inb (((nI 40) * a1) + (nI 3)) 880 ∧ LpX12_hears_144 l G d Q sh fR B (up2 f (B + 23) (((nI 40) * a1) + (nI 3)).toNatClampNeg (f (B + 26) (((nI 5) * (((nI 520) * a1) + a3)) + (nI 3)).toNatClampNeg)) g a1 a2 a3 a4))) :
    LpX12_hears_115 l G d Q sh fR B f g a1 a2 a3 a4 := by
  refine S_aload_n (pc := 115) dX12_hears_115 rfl rfl ?_
  refine S_iload_n (pc := 116) dX12_hears_116 rfl rfl ?_
  refine S_iload_n (pc := 117) dX12_hears_117 rfl rfl ?_
  refine S_iconst (pc := 118) dX12_hears_118 ic3 ?_
  refine S_callV (As := [.int a1, .int a3, .int (nI 3)]) (mc := 0) (ms := 0) (pc := 119) dX12_hears_119 miX12_a mvX12_a mlX12_476 rfl (sM_0 hs) rfl rfl rfl (RmOK.of rfl) (Q := fun r h => WP _ _ _ _ _ _ _ 122 [some (.ref B), some (.int a1), some (.int a2), some (.int a3), some (.int a4), none] (r.toList ++ []) h) (Cl.of miX12_a rfl rfl ?_) (fun _ _ q => q)
  refine S_aload_n (pc := 0) dX12_a_0 rfl rfl ?_
  refine S_getR (pc := 1) dX12_a_1 flX12_155 (sM_0 hs) rfl (rM_46 hs) ?_
  refine S_iconst (pc := 4) dX12_a_4 ic5 ?_
  refine S_sipush (pc := 5) dX12_a_5 sp520 ?_
  refine S_iload_n (pc := 8) dX12_a_8 rfl rfl ?_
  refine S_imul (pc := 9) dX12_a_9 ?_
  refine S_iload_n (pc := 10) dX12_a_10 rfl rfl ?_
  refine S_iadd (pc := 11) dX12_a_11 ?_
  refine S_imul (pc := 12) dX12_a_12 ?_
  refine S_iload_n (pc := 13) dX12_a_13 rfl rfl ?_
  refine S_iadd (pc := 14) dX12_a_14 ?_
  obtain ⟨hb15, H⟩ := H
  refine S_iald (pc := 15) dX12_a_15 (sM_26 hs) hb15 ?_
  refine S_ireturn dX12_a_16 rfl ?_
  show WP _ _ _ _ _ _ _ 122 [some (.ref B), some (.int a1), some (.int a2), some (.int a3), some (.int a4), none] [.int (f (B + 26) (((nI 5) * (((nI 520) * a1) + a3)) + (nI 3)).toNatClampNeg)] (sh, f, g, fR)
  refine S_aload_n (pc := 122) dX12_hears_122 rfl rfl ?_
  refine S_iload_n (pc := 123) dX12_hears_123 rfl rfl ?_
  refine S_iconst (pc := 124) dX12_hears_124 ic3 ?_
  refine S_callV (As := [.int a1, .int (nI 3)]) (mc := 0) (ms := 0) (pc := 125) dX12_hears_125 miX12_n mvX12_n mlX12_402 rfl (sM_0 hs) rfl rfl rfl (RmOK.of rfl) (Q := fun r h => WP _ _ _ _ _ _ _ 128 [some (.ref B), some (.int a1), some (.int a2), some (.int a3), some (.int a4), none] (r.toList ++ [.int (f (B + 26) (((nI 5) * (((nI 520) * a1) + a3)) + (nI 3)).toNatClampNeg)]) h) (Cl.of miX12_n rfl rfl ?_) (fun _ _ q => q)
  refine S_aload_n (pc := 0) dX12_n_0 rfl rfl ?_
  refine S_getR (pc := 1) dX12_n_1 flX12_144 (sM_0 hs) rfl (rM_43 hs) ?_
  refine S_bipush (pc := 4) dX12_n_4 bp40 ?_
  refine S_iload_n (pc := 6) dX12_n_6 rfl rfl ?_
  refine S_imul (pc := 7) dX12_n_7 ?_
  refine S_iload_n (pc := 8) dX12_n_8 rfl rfl ?_
  refine S_iadd (pc := 9) dX12_n_9 ?_
  obtain ⟨hb16, H⟩ := H
  refine S_iald (pc := 10) dX12_n_10 (sM_23 hs) hb16 ?_
  refine S_ireturn dX12_n_11 rfl ?_
  show WP _ _ _ _ _ _ _ 128 [some (.ref B), some (.int a1), some (.int a2), some (.int a3), some (.int a4), none] [.int (f (B + 23) (((nI 40) * a1) + (nI 3)).toNatClampNeg), .int (f (B + 26) (((nI 5) * (((nI 520) * a1) + a3)) + (nI 3)).toNatClampNeg)] (sh, f, g, fR)
  refine S_icmp_le (pc := 128) (tgt := 144) dX12_hears_128 rfl (fun hc17 => ?_) (fun hc17 => ?_)
  · replace H := H.1 hc17
    exact H
  · replace H := H.2 hc17
    refine S_aload_n (pc := 131) dX12_hears_131 rfl rfl ?_
    refine S_iload_n (pc := 132) dX12_hears_132 rfl rfl ?_
    refine S_iconst (pc := 133) dX12_hears_133 ic3 ?_
    refine S_aload_n (pc := 134) dX12_hears_134 rfl rfl ?_
    refine S_iload_n (pc := 135) dX12_hears_135 rfl rfl ?_
    refine S_iload_n (pc := 136) dX12_hears_136 rfl rfl ?_
    refine S_iconst (pc := 137) dX12_hears_137 ic3 ?_
    refine S_callV (As := [.int a1, .int a3, .int (nI 3)]) (mc := 0) (ms := 0) (pc := 138) dX12_hears_138 miX12_a mvX12_a mlX12_476 rfl (sM_0 hs) rfl rfl rfl (RmOK.of rfl) (Q := fun r h => WP _ _ _ _ _ _ _ 141 [some (.ref B), some (.int a1), some (.int a2), some (.int a3), some (.int a4), none] (r.toList ++ [.int (nI 3), .int a1, .ref B]) h) (Cl.of miX12_a rfl rfl ?_) (fun _ _ q => q)
    refine S_aload_n (pc := 0) dX12_a_0 rfl rfl ?_
    refine S_getR (pc := 1) dX12_a_1 flX12_155 (sM_0 hs) rfl (rM_46 hs) ?_
    refine S_iconst (pc := 4) dX12_a_4 ic5 ?_
    refine S_sipush (pc := 5) dX12_a_5 sp520 ?_
    refine S_iload_n (pc := 8) dX12_a_8 rfl rfl ?_
    refine S_imul (pc := 9) dX12_a_9 ?_
    refine S_iload_n (pc := 10) dX12_a_10 rfl rfl ?_
    refine S_iadd (pc := 11) dX12_a_11 ?_
    refine S_imul (pc := 12) dX12_a_12 ?_
    refine S_iload_n (pc := 13) dX12_a_13 rfl rfl ?_
    refine S_iadd (pc := 14) dX12_a_14 ?_
    obtain ⟨hb18, H⟩ := H
    refine S_iald (pc := 15) dX12_a_15 (sM_26 hs) hb18 ?_
    refine S_ireturn dX12_a_16 rfl ?_
    show WP _ _ _ _ _ _ _ 141 [some (.ref B), some (.int a1), some (.int a2), some (.int a3), some (.int a4), none] [.int (f (B + 26) (((nI 5) * (((nI 520) * a1) + a3)) + (nI 3)).toNatClampNeg), .int (nI 3), .int a1, .ref B] (sh, f, g, fR)
    refine S_callV (As := [.int a1, .int (nI 3), .int (f (B + 26) (((nI 5) * (((nI 520) * a1) + a3)) + (nI 3)).toNatClampNeg)]) (mc := 0) (ms := 0) (pc := 141) dX12_hears_141 miX12_sets mvX12_sets mlX12_405 rfl (sM_0 hs) rfl rfl rfl (RmOK.of rfl) (Q := fun r h => WP _ _ _ _ _ _ _ 144 [some (.ref B), some (.int a1), some (.int a2), some (.int a3), some (.int a4), none] (r.toList ++ []) h) (Cl.of miX12_sets rfl rfl ?_) (fun _ _ q => q)
    refine S_aload_n (pc := 0) dX12_sets_0 rfl rfl ?_
    refine S_getR (pc := 1) dX12_sets_1 flX12_144 (sM_0 hs) rfl (rM_43 hs) ?_
    refine S_bipush (pc := 4) dX12_sets_4 bp40 ?_
    refine S_iload_n (pc := 6) dX12_sets_6 rfl rfl ?_
    refine S_imul (pc := 7) dX12_sets_7 ?_
    refine S_iload_n (pc := 8) dX12_sets_8 rfl rfl ?_
    refine S_iadd (pc := 9) dX12_sets_9 ?_
    refine S_iload_n (pc := 10) dX12_sets_10 rfl rfl ?_
    obtain ⟨hb19, H⟩ := H
    refine S_iast (pc := 11) dX12_sets_11 (sM_23 hs) (Nat.succ_pos _) hb19 ?_
    refine S_vreturn dX12_sets_12 rfl ?_
    show WP _ _ _ _ _ _ _ 144 [some (.ref B), some (.int a1), some (.int a2), some (.int a3), some (.int a4), none] [] (sh, (up2 f (B + 23) (((nI 40) * a1) + (nI 3)).toNatClampNeg (f (B + 26) (((nI 5) * (((nI 520) * a1) + a3)) + (nI 3)).toNatClampNeg)), g, fR)
    exact H
set_option maxHeartbeats 2000000 in
set_option maxRecDepth 4000 in
theorem VX12_hears_34 {l : Launch} {G : Gx} {d : Nat} {Q : Option Value → Hp → Prop} {sh : Sh} {fR : FRt} {B : Nat} {f : FI} {g : FL} {a1 : Int32} {a2 : Int32} {a3 : Int32} {a4 : Int32} (hs : StM sh fR B)
    (H : (((nI 5) ≤ a4 → LpX12_hears_210 l G d Q sh fR B f g a1 (a2 + nI 1) a3) ∧ (¬ (nI 5) ≤ a4 → inb (((nI 5) * (((nI 520) * a1) + a3)) + a4) 57200 ∧ inb (((nI 5) * (((nI 520) * a1) + a2)) + a4) 57200 ∧ LpX12_hears_34 l G d Q sh fR B (up2 f (B + 26) (((nI 5) * (((nI 520) * a1) + a2)) + a4).toNatClampNeg (f (B + 26) (((nI 5) * (((nI 520) * a1) + a3)) + a4).toNatClampNeg)) g a1 a2 a3 (a4 + nI 1)))) :
    LpX12_hears_34 l G d Q sh fR B f g a1 a2 a3 a4 := by
  refine S_iload (pc := 34) dX12_hears_34 rfl ?_
  refine S_iconst (pc := 36) dX12_hears_36 ic5 ?_
  refine S_icmp_ge (pc := 37) (tgt := 71) dX12_hears_37 rfl (fun hc20 => ?_) (fun hc20 => ?_)
  · replace H := H.1 hc20
    refine S_iinc (pc := 71) (v := nI 1) (L' := [some (.ref B), some (.int a1), some (.int (a2 + nI 1)), some (.int a3), some (.int a4), none]) dX12_hears_71 rfl ic1 rfl ?_
    refine S_goto (pc := 74) (tgt := 210) dX12_hears_74 rfl ?_
    exact S_weak (L' := [some (.ref B), some (.int a1), some (.int (a2 + nI 1)), some (.int a3), none, none]) (ls_e (ls_e (ls_e (ls_e (ls_n (ls_e ls_0)))))) H
  · replace H := H.2 hc20
    refine S_aload_n (pc := 40) dX12_hears_40 rfl rfl ?_
    refine S_getR (pc := 41) dX12_hears_41 flX12_155 (sM_0 hs) rfl (rM_46 hs) ?_
    refine S_iconst (pc := 44) dX12_hears_44 ic5 ?_
    refine S_sipush (pc := 45) dX12_hears_45 sp520 ?_
    refine S_iload_n (pc := 48) dX12_hears_48 rfl rfl ?_
    refine S_imul (pc := 49) dX12_hears_49 ?_
    refine S_iload_n (pc := 50) dX12_hears_50 rfl rfl ?_
    refine S_iadd (pc := 51) dX12_hears_51 ?_
    refine S_imul (pc := 52) dX12_hears_52 ?_
    refine S_iload (pc := 53) dX12_hears_53 rfl ?_
    refine S_iadd (pc := 55) dX12_hears_55 ?_
    refine S_aload_n (pc := 56) dX12_hears_56 rfl rfl ?_
    refine S_iload_n (pc := 57) dX12_hears_57 rfl rfl ?_
    refine S_iload_n (pc := 58) dX12_hears_58 rfl rfl ?_
    refine S_iload (pc := 59) dX12_hears_59 rfl ?_
    refine S_callV (As := [.int a1, .int a3, .int a4]) (mc := 0) (ms := 0) (pc := 61) dX12_hears_61 miX12_a mvX12_a mlX12_476 rfl (sM_0 hs) rfl rfl rfl (RmOK.of rfl) (Q := fun r h => WP _ _ _ _ _ _ _ 64 [some (.ref B), some (.int a1), some (.int a2), some (.int a3), some (.int a4), none] (r.toList ++ [.int (((nI 5) * (((nI 520) * a1) + a2)) + a4), .ref (B + 26)]) h) (Cl.of miX12_a rfl rfl ?_) (fun _ _ q => q)
    refine S_aload_n (pc := 0) dX12_a_0 rfl rfl ?_
    refine S_getR (pc := 1) dX12_a_1 flX12_155 (sM_0 hs) rfl (rM_46 hs) ?_
    refine S_iconst (pc := 4) dX12_a_4 ic5 ?_
    refine S_sipush (pc := 5) dX12_a_5 sp520 ?_
    refine S_iload_n (pc := 8) dX12_a_8 rfl rfl ?_
    refine S_imul (pc := 9) dX12_a_9 ?_
    refine S_iload_n (pc := 10) dX12_a_10 rfl rfl ?_
    refine S_iadd (pc := 11) dX12_a_11 ?_
    refine S_imul (pc := 12) dX12_a_12 ?_
    refine S_iload_n (pc := 13) dX12_a_13 rfl rfl ?_
    refine S_iadd (pc := 14) dX12_a_14 ?_
    obtain ⟨hb21, H⟩ := H
    refine S_iald (pc := 15) dX12_a_15 (sM_26 hs) hb21 ?_
    refine S_ireturn dX12_a_16 rfl ?_
    show WP _ _ _ _ _ _ _ 64 [some (.ref B), some (.int a1), some (.int a2), some (.int a3), some (.int a4), none] [.int (f (B + 26) (((nI 5) * (((nI 520) * a1) + a3)) + a4).toNatClampNeg), .int (((nI 5) * (((nI 520) * a1) + a2)) + a4), .ref (B + 26)] (sh, f, g, fR)
    obtain ⟨hb22, H⟩ := H
    refine S_iast (pc := 64) dX12_hears_64 (sM_26 hs) (Nat.succ_pos _) hb22 ?_
    refine S_iinc (pc := 65) (v := nI 1) (L' := [some (.ref B), some (.int a1), some (.int a2), some (.int a3), some (.int (a4 + nI 1)), none]) dX12_hears_65 rfl ic1 rfl ?_
    refine S_goto (pc := 68) (tgt := 34) dX12_hears_68 rfl ?_
    exact H
set_option maxHeartbeats 2000000 in
set_option maxRecDepth 4000 in
theorem VX12_hears_144 {l : Launch} {G : Gx} {d : Nat} {Q : Option Value → Hp → Prop} {sh : Sh} {fR : FRt} {B : Nat} {f : FI} {g : FL} {a1 : Int32} {a2 : Int32} {a3 : Int32} {a4 : Int32} (hs : StM sh fR B)
    (H : inb (((nI 5) * (((nI 520) * a1) + a3)) + (nI 1)) 57200 ∧ ((¬ (f (B + 26) (((nI 5) * (((nI 520) * a1) + a3)) + (nI 1)).toNatClampNeg) = (-1) → inb (((nI 5) * (((nI 520) * a1) + a3)) + (nI 1)) 57200 ∧ Cl l G (d + 2) 0 0 mX12_flyingAt [.ref B, .int a1, .int a4, .int (f (B + 26) (((nI 5) * (((nI 520) * a1) + a3)) + (nI 1)).toNatClampNeg)] (sh, f, g, fR) (qi sh fR fun x28 f26 g27 => ((¬ x28 = (-1) → inb (((nI 8) * (((nI 480) * a1) + x28)) + (nI 6)) 84480 ∧ inb (((((nI 40) * a1) + (nI 14)) + ((nI 6) * a4)) + (nI 3)) 880 ∧ Cl l G (d + 2) 0 0 mX12_grows [.ref B, .int a1, .int a4] (sh, (up2 (up2 f26 (B + 24) (((nI 8) * (((nI 480) * a1) + x28)) + (nI 6)).toNatClampNeg (nI 0)) (B + 23) (((((nI 40) * a1) + (nI 14)) + ((nI 6) * a4)) + (nI 3)).toNatClampNeg (nI 0)), g27, fR) (qv sh fR fun f32 g33 => LpX12_hears_210 l G d Q sh fR B f32 g33 a1 a2 a3)) ∧ (x28 = (-1) → LpX12_hears_210 l G d Q sh fR B f26 g27 a1 a2 a3)))) ∧ ((f (B + 26) (((nI 5) * (((nI 520) * a1) + a3)) + (nI 1)).toNatClampNeg) = (-1) → LpX12_hears_210 l G d Q sh fR B f g a1 a2 a3))) :
    LpX12_hears_144 l G d Q sh fR B f g a1 a2 a3 a4 := by
  refine S_aload_n (pc := 144) dX12_hears_144 rfl rfl ?_
  refine S_iload_n (pc := 145) dX12_hears_145 rfl rfl ?_
  refine S_iload_n (pc := 146) dX12_hears_146 rfl rfl ?_
  refine S_iconst (pc := 147) dX12_hears_147 ic1 ?_
  refine S_callV (As := [.int a1, .int a3, .int (nI 1)]) (mc := 0) (ms := 0) (pc := 148) dX12_hears_148 miX12_a mvX12_a mlX12_476 rfl (sM_0 hs) rfl rfl rfl (RmOK.of rfl) (Q := fun r h => WP _ _ _ _ _ _ _ 151 [some (.ref B), some (.int a1), some (.int a2), some (.int a3), some (.int a4), none] (r.toList ++ []) h) (Cl.of miX12_a rfl rfl ?_) (fun _ _ q => q)
  refine S_aload_n (pc := 0) dX12_a_0 rfl rfl ?_
  refine S_getR (pc := 1) dX12_a_1 flX12_155 (sM_0 hs) rfl (rM_46 hs) ?_
  refine S_iconst (pc := 4) dX12_a_4 ic5 ?_
  refine S_sipush (pc := 5) dX12_a_5 sp520 ?_
  refine S_iload_n (pc := 8) dX12_a_8 rfl rfl ?_
  refine S_imul (pc := 9) dX12_a_9 ?_
  refine S_iload_n (pc := 10) dX12_a_10 rfl rfl ?_
  refine S_iadd (pc := 11) dX12_a_11 ?_
  refine S_imul (pc := 12) dX12_a_12 ?_
  refine S_iload_n (pc := 13) dX12_a_13 rfl rfl ?_
  refine S_iadd (pc := 14) dX12_a_14 ?_
  obtain ⟨hb23, H⟩ := H
  refine S_iald (pc := 15) dX12_a_15 (sM_26 hs) hb23 ?_
  refine S_ireturn dX12_a_16 rfl ?_
  show WP _ _ _ _ _ _ _ 151 [some (.ref B), some (.int a1), some (.int a2), some (.int a3), some (.int a4), none] [.int (f (B + 26) (((nI 5) * (((nI 520) * a1) + a3)) + (nI 1)).toNatClampNeg)] (sh, f, g, fR)
  refine S_iconst (pc := 151) dX12_hears_151 icm1 ?_
  refine S_icmp_ne (pc := 152) (tgt := 159) dX12_hears_152 rfl (fun hc24 => ?_) (fun hc24 => ?_)
  · replace H := H.1 hc24
    refine S_aload_n (pc := 159) dX12_hears_159 rfl rfl ?_
    refine S_iload_n (pc := 160) dX12_hears_160 rfl rfl ?_
    refine S_iload (pc := 161) dX12_hears_161 rfl ?_
    refine S_aload_n (pc := 163) dX12_hears_163 rfl rfl ?_
    refine S_iload_n (pc := 164) dX12_hears_164 rfl rfl ?_
    refine S_iload_n (pc := 165) dX12_hears_165 rfl rfl ?_
    refine S_iconst (pc := 166) dX12_hears_166 ic1 ?_
    refine S_callV (As := [.int a1, .int a3, .int (nI 1)]) (mc := 0) (ms := 0) (pc := 167) dX12_hears_167 miX12_a mvX12_a mlX12_476 rfl (sM_0 hs) rfl rfl rfl (RmOK.of rfl) (Q := fun r h => WP _ _ _ _ _ _ _ 170 [some (.ref B), some (.int a1), some (.int a2), some (.int a3), some (.int a4), none] (r.toList ++ [.int a4, .int a1, .ref B]) h) (Cl.of miX12_a rfl rfl ?_) (fun _ _ q => q)
    refine S_aload_n (pc := 0) dX12_a_0 rfl rfl ?_
    refine S_getR (pc := 1) dX12_a_1 flX12_155 (sM_0 hs) rfl (rM_46 hs) ?_
    refine S_iconst (pc := 4) dX12_a_4 ic5 ?_
    refine S_sipush (pc := 5) dX12_a_5 sp520 ?_
    refine S_iload_n (pc := 8) dX12_a_8 rfl rfl ?_
    refine S_imul (pc := 9) dX12_a_9 ?_
    refine S_iload_n (pc := 10) dX12_a_10 rfl rfl ?_
    refine S_iadd (pc := 11) dX12_a_11 ?_
    refine S_imul (pc := 12) dX12_a_12 ?_
    refine S_iload_n (pc := 13) dX12_a_13 rfl rfl ?_
    refine S_iadd (pc := 14) dX12_a_14 ?_
    obtain ⟨hb25, H⟩ := H
    refine S_iald (pc := 15) dX12_a_15 (sM_26 hs) hb25 ?_
    refine S_ireturn dX12_a_16 rfl ?_
    show WP _ _ _ _ _ _ _ 170 [some (.ref B), some (.int a1), some (.int a2), some (.int a3), some (.int a4), none] [.int (f (B + 26) (((nI 5) * (((nI 520) * a1) + a3)) + (nI 1)).toNatClampNeg), .int a4, .int a1, .ref B] (sh, f, g, fR)
    refine S_callV (As := [.int a1, .int a4, .int (f (B + 26) (((nI 5) * (((nI 520) * a1) + a3)) + (nI 1)).toNatClampNeg)]) (mc := 0) (ms := 0) (pc := 170) dX12_hears_170 miX12_flyingAt mvX12_flyingAt mlX12_479 rfl (sM_0 hs) rfl rfl rfl (RmOK.of rfl) H ?_
    rintro _ _ ⟨x28, f26, g27, rfl, rfl, H⟩
    show WP _ _ _ _ _ _ _ 173 [some (.ref B), some (.int a1), some (.int a2), some (.int a3), some (.int a4), none] [.int x28] (sh, f26, g27, fR)
    refine S_istore (pc := 173) (L' := [some (.ref B), some (.int a1), some (.int a2), some (.int a3), some (.int a4), some (.int x28)]) dX12_hears_173 (by decide) rfl ?_
    refine S_iload (pc := 175) dX12_hears_175 rfl ?_
    refine S_iconst (pc := 177) dX12_hears_177 icm1 ?_
    refine S_icmp_ne (pc := 178) (tgt := 184) dX12_hears_178 rfl (fun hc29 => ?_) (fun hc29 => ?_)
    · replace H := H.1 hc29
      refine S_aload_n (pc := 184) dX12_hears_184 rfl rfl ?_
      refine S_iload_n (pc := 185) dX12_hears_185 rfl rfl ?_
      refine S_iload (pc := 186) dX12_hears_186 rfl ?_
      refine S_bipush (pc := 188) dX12_hears_188 bp6 ?_
      refine S_iconst (pc := 190) dX12_hears_190 ic0 ?_
      refine S_callV (As := [.int a1, .int x28, .int (nI 6), .int (nI 0)]) (mc := 0) (ms := 0) (pc := 191) dX12_hears_191 miX12_setsSegment mvX12_setsSegment mlX12_482 rfl (sM_0 hs) rfl rfl rfl (RmOK.of rfl) (Q := fun r h => WP _ _ _ _ _ _ _ 194 [some (.ref B), some (.int a1), some (.int a2), some (.int a3), some (.int a4), some (.int x28)] (r.toList ++ []) h) (Cl.of miX12_setsSegment rfl rfl ?_) (fun _ _ q => q)
      refine S_aload_n (pc := 0) dX12_setsSegment_0 rfl rfl ?_
      refine S_getR (pc := 1) dX12_setsSegment_1 flX12_148 (sM_0 hs) rfl (rM_44 hs) ?_
      refine S_bipush (pc := 4) dX12_setsSegment_4 bp8 ?_
      refine S_sipush (pc := 6) dX12_setsSegment_6 sp480 ?_
      refine S_iload_n (pc := 9) dX12_setsSegment_9 rfl rfl ?_
      refine S_imul (pc := 10) dX12_setsSegment_10 ?_
      refine S_iload_n (pc := 11) dX12_setsSegment_11 rfl rfl ?_
      refine S_iadd (pc := 12) dX12_setsSegment_12 ?_
      refine S_imul (pc := 13) dX12_setsSegment_13 ?_
      refine S_iload_n (pc := 14) dX12_setsSegment_14 rfl rfl ?_
      refine S_iadd (pc := 15) dX12_setsSegment_15 ?_
      refine S_iload (pc := 16) dX12_setsSegment_16 rfl ?_
      obtain ⟨hb30, H⟩ := H
      refine S_iast (pc := 18) dX12_setsSegment_18 (sM_24 hs) (Nat.succ_pos _) hb30 ?_
      refine S_vreturn dX12_setsSegment_19 rfl ?_
      show WP _ _ _ _ _ _ _ 194 [some (.ref B), some (.int a1), some (.int a2), some (.int a3), some (.int a4), some (.int x28)] [] (sh, (up2 f26 (B + 24) (((nI 8) * (((nI 480) * a1) + x28)) + (nI 6)).toNatClampNeg (nI 0)), g27, fR)
      refine S_aload_n (pc := 194) dX12_hears_194 rfl rfl ?_
      refine S_iload_n (pc := 195) dX12_hears_195 rfl rfl ?_
      refine S_iload (pc := 196) dX12_hears_196 rfl ?_
      refine S_iconst (pc := 198) dX12_hears_198 ic3 ?_
      refine S_iconst (pc := 199) dX12_hears_199 ic0 ?_
      refine S_callV (As := [.int a1, .int a4, .int (nI 3), .int (nI 0)]) (mc := 0) (ms := 0) (pc := 200) dX12_hears_200 miX12_setsPath mvX12_setsPath mlX12_412 rfl (sM_0 hs) rfl rfl rfl (RmOK.of rfl) (Q := fun r h => WP _ _ _ _ _ _ _ 203 [some (.ref B), some (.int a1), some (.int a2), some (.int a3), some (.int a4), some (.int x28)] (r.toList ++ []) h) (Cl.of miX12_setsPath rfl rfl ?_) (fun _ _ q => q)
      refine S_aload_n (pc := 0) dX12_setsPath_0 rfl rfl ?_
      refine S_getR (pc := 1) dX12_setsPath_1 flX12_144 (sM_0 hs) rfl (rM_43 hs) ?_
      refine S_bipush (pc := 4) dX12_setsPath_4 bp40 ?_
      refine S_iload_n (pc := 6) dX12_setsPath_6 rfl rfl ?_
      refine S_imul (pc := 7) dX12_setsPath_7 ?_
      refine S_bipush (pc := 8) dX12_setsPath_8 bp14 ?_
      refine S_iadd (pc := 10) dX12_setsPath_10 ?_
      refine S_bipush (pc := 11) dX12_setsPath_11 bp6 ?_
      refine S_iload_n (pc := 13) dX12_setsPath_13 rfl rfl ?_
      refine S_imul (pc := 14) dX12_setsPath_14 ?_
      refine S_iadd (pc := 15) dX12_setsPath_15 ?_
      refine S_iload_n (pc := 16) dX12_setsPath_16 rfl rfl ?_
      refine S_iadd (pc := 17) dX12_setsPath_17 ?_
      refine S_iload (pc := 18) dX12_setsPath_18 rfl ?_
      obtain ⟨hb31, H⟩ := H
      refine S_iast (pc := 20) dX12_setsPath_20 (sM_23 hs) (Nat.succ_pos _) hb31 ?_
      refine S_vreturn dX12_setsPath_21 rfl ?_
      show WP _ _ _ _ _ _ _ 203 [some (.ref B), some (.int a1), some (.int a2), some (.int a3), some (.int a4), some (.int x28)] [] (sh, (up2 (up2 f26 (B + 24) (((nI 8) * (((nI 480) * a1) + x28)) + (nI 6)).toNatClampNeg (nI 0)) (B + 23) (((((nI 40) * a1) + (nI 14)) + ((nI 6) * a4)) + (nI 3)).toNatClampNeg (nI 0)), g27, fR)
      refine S_aload_n (pc := 203) dX12_hears_203 rfl rfl ?_
      refine S_iload_n (pc := 204) dX12_hears_204 rfl rfl ?_
      refine S_iload (pc := 205) dX12_hears_205 rfl ?_
      refine S_callV (As := [.int a1, .int a4]) (mc := 0) (ms := 0) (pc := 207) dX12_hears_207 miX12_grows mvX12_grows mlX12_485 rfl (sM_0 hs) rfl rfl rfl (RmOK.of rfl) H ?_
      rintro _ _ ⟨f32, g33, rfl, rfl, H⟩
      show WP _ _ _ _ _ _ _ 210 [some (.ref B), some (.int a1), some (.int a2), some (.int a3), some (.int a4), some (.int x28)] [] (sh, f32, g33, fR)
      exact S_weak (L' := [some (.ref B), some (.int a1), some (.int a2), some (.int a3), none, none]) (ls_e (ls_e (ls_e (ls_e (ls_n (ls_n ls_0)))))) H
    · replace H := H.2 hc29
      refine S_goto (pc := 181) (tgt := 210) dX12_hears_181 rfl ?_
      exact S_weak (L' := [some (.ref B), some (.int a1), some (.int a2), some (.int a3), none, none]) (ls_e (ls_e (ls_e (ls_e (ls_n (ls_n ls_0)))))) H
  · replace H := H.2 hc24
    refine S_iconst (pc := 155) dX12_hears_155 icm1 ?_
    refine S_goto (pc := 156) (tgt := 173) dX12_hears_156 rfl ?_
    refine S_istore (pc := 173) (L' := [some (.ref B), some (.int a1), some (.int a2), some (.int a3), some (.int a4), some (.int (-1))]) dX12_hears_173 (by decide) rfl ?_
    refine S_iload (pc := 175) dX12_hears_175 rfl ?_
    refine S_iconst (pc := 177) dX12_hears_177 icm1 ?_
    refine S_icmp_ne (pc := 178) (tgt := 184) dX12_hears_178 rfl (fun hc34 => by first | exact absurd hc34 (by decide) | exact absurd (by decide) hc34) (fun _ => ?_)
    refine S_goto (pc := 181) (tgt := 210) dX12_hears_181 rfl ?_
    exact S_weak (L' := [some (.ref B), some (.int a1), some (.int a2), some (.int a3), none, none]) (ls_e (ls_e (ls_e (ls_e (ls_n (ls_n ls_0)))))) H
set_option maxHeartbeats 2000000 in
set_option maxRecDepth 4000 in
theorem VX12_hears_210 {l : Launch} {G : Gx} {d : Nat} {Q : Option Value → Hp → Prop} {sh : Sh} {fR : FRt} {B : Nat} {f : FI} {g : FL} {a1 : Int32} {a2 : Int32} {a3 : Int32} (hs : StM sh fR B)
    (H : LpX12_hears_4 l G d Q sh fR B f g a1 a2 (a3 + nI 1)) :
    LpX12_hears_210 l G d Q sh fR B f g a1 a2 a3 := by
  refine S_iinc (pc := 210) (v := nI 1) (L' := [some (.ref B), some (.int a1), some (.int a2), some (.int (a3 + nI 1)), none, none]) dX12_hears_210 rfl ic1 rfl ?_
  refine S_goto (pc := 213) (tgt := 4) dX12_hears_213 rfl ?_
  exact H
