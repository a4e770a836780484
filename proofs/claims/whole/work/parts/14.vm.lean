abbrev LpX12_clears_4 (l : Launch) (G : Gx) (d : Nat) (Q : Option Value → Hp → Prop) (sh : Sh) (fR : FRt) (B : Nat) (f : FI) (g : FL) (a1 : Int32) (a2 : Int32) (a3 : Int32) : Prop := WP l G (Zq G 0 0 Q) mX12_clears (rmd (d + 1) 0 0) 0 0 4 [some (.ref B), some (.int a1), some (.int a2), some (.int a3), none] [] (sh, f, g, fR)
abbrev LpX12_clears_40 (l : Launch) (G : Gx) (d : Nat) (Q : Option Value → Hp → Prop) (sh : Sh) (fR : FRt) (B : Nat) (f : FI) (g : FL) (a1 : Int32) (a2 : Int32) (a3 : Int32) : Prop := WP l G (Zq G 0 0 Q) mX12_clears (rmd (d + 1) 0 0) 0 0 40 [some (.ref B), some (.int a1), some (.int a2), some (.int a3), none] [] (sh, f, g, fR)
abbrev LpX12_clears_75 (l : Launch) (G : Gx) (d : Nat) (Q : Option Value → Hp → Prop) (sh : Sh) (fR : FRt) (B : Nat) (f : FI) (g : FL) (a1 : Int32) (a2 : Int32) (a3 : Int32) : Prop := WP l G (Zq G 0 0 Q) mX12_clears (rmd (d + 1) 0 0) 0 0 75 [some (.ref B), some (.int a1), some (.int a2), some (.int a3), none] [] (sh, f, g, fR)
abbrev LpX12_clears_43 (l : Launch) (G : Gx) (d : Nat) (Q : Option Value → Hp → Prop) (sh : Sh) (fR : FRt) (B : Nat) (f : FI) (g : FL) (a1 : Int32) (a2 : Int32) (a3 : Int32) (a4 : Int32) : Prop := WP l G (Zq G 0 0 Q) mX12_clears (rmd (d + 1) 0 0) 0 0 43 [some (.ref B), some (.int a1), some (.int a2), some (.int a3), some (.int a4)] [] (sh, f, g, fR)
set_option maxHeartbeats 2000000 in
set_option maxRecDepth 4000 in
theorem VX12_clears {l : Launch} {G : Gx} {d : Nat} {Q : Option Value → Hp → Prop} {sh : Sh} {fR : FRt} {B : Nat} {f : FI} {g : FL} {a1 : Int32} (hs : StM sh fR B)
    (H : LpX12_clears_4 l G d Q sh fR B f g a1 (nI 0) (nI 0)) :
    Cl l G (d + 1) 0 0 mX12_clears [.ref B, .int a1] (sh, f, g, fR) Q := by
  refine Cl.of (L0 := [some (.ref B), some (.int a1), none, none, none]) miX12_clears rfl rfl ?_
  refine S_iconst (pc := 0) dX12_clears_0 ic0 ?_
  refine S_istore_n (pc := 1) (L' := [some (.ref B), some (.int a1), some (.int (nI 0)), none, none]) dX12_clears_1 rfl (by decide) rfl ?_
  refine S_iconst (pc := 2) dX12_clears_2 ic0 ?_
  refine S_istore_n (pc := 3) (L' := [some (.ref B), some (.int a1), some (.int (nI 0)), some (.int (nI 0)), none]) dX12_clears_3 rfl (by decide) rfl ?_
  exact H
set_option maxHeartbeats 2000000 in
set_option maxRecDepth 4000 in
theorem VX12_clears_4 {l : Launch} {G : Gx} {d : Nat} {Q : Option Value → Hp → Prop} {sh : Sh} {fR : FRt} {B : Nat} {f : FI} {g : FL} {a1 : Int32} {a2 : Int32} {a3 : Int32} (hs : StM sh fR B)
    (H : inb (((nI 40) * a1) + (nI 6)) 880 ∧ (((f (B + 23) (((nI 40) * a1) + (nI 6)).toNatClampNeg) ≤ a3 → inb (((nI 40) * a1) + (nI 6)) 880 ∧ Q none (sh, (up2 f (B + 23) (((nI 40) * a1) + (nI 6)).toNatClampNeg a2), g, fR)) ∧ (¬ (f (B + 23) (((nI 40) * a1) + (nI 6)).toNatClampNeg) ≤ a3 → inb (((nI 8) * (((nI 480) * a1) + a3)) + (nI 6)) 84480 ∧ ((¬ (f (B + 24) (((nI 8) * (((nI 480) * a1) + a3)) + (nI 6)).toNatClampNeg) = 0 → LpX12_clears_40 l G d Q sh fR B f g a1 a2 a3) ∧ ((f (B + 24) (((nI 8) * (((nI 480) * a1) + a3)) + (nI 6)).toNatClampNeg) = 0 → inb (((nI 8) * (((nI 480) * a1) + a3)) + (nI 5)) 84480 ∧ ((¬ (f (B + 24) (((nI 8) * (((nI 480) * a1) + a3)) + (nI 5)).toNatClampNeg) = (-1) → LpX12_clears_40 l G d Q sh fR B f g a1 a2 a3) ∧ ((f (B + 24) (((nI 8) * (((nI 480) * a1) + a3)) + (nI 5)).toNatClampNeg) = (-1) → LpX12_clears_75 l G d Q sh fR B f g a1 a2 a3))))))) :
    LpX12_clears_4 l G d Q sh fR B f g a1 a2 a3 := by
  refine S_iload_n (pc := 4) dX12_clears_4 rfl rfl ?_
  refine S_aload_n (pc := 5) dX12_clears_5 rfl rfl ?_
  refine S_iload_n (pc := 6) dX12_clears_6 rfl rfl ?_
  refine S_bipush (pc := 7) dX12_clears_7 bp6 ?_
  refine S_callV (As := [.int a1, .int (nI 6)]) (mc := 0) (ms := 0) (pc := 9) dX12_clears_9 miX12_n mvX12_n mlX12_402 rfl (sM_0 hs) rfl rfl rfl (RmOK.of rfl) (Q := fun r h => WP _ _ _ _ _ _ _ 12 [some (.ref B), some (.int a1), some (.int a2), some (.int a3), none] (r.toList ++ [.int a3]) h) (Cl.of miX12_n rfl rfl ?_) (fun _ _ q => q)
  refine S_aload_n (pc := 0) dX12_n_0 rfl rfl ?_
  refine S_getR (pc := 1) dX12_n_1 flX12_144 (sM_0 hs) rfl (rM_43 hs) ?_
  refine S_bipush (pc := 4) dX12_n_4 bp40 ?_
  refine S_iload_n (pc := 6) dX12_n_6 rfl rfl ?_
  refine S_imul (pc := 7) dX12_n_7 ?_
  refine S_iload_n (pc := 8) dX12_n_8 rfl rfl ?_
  refine S_iadd (pc := 9) dX12_n_9 ?_
  obtain ⟨hb1, H⟩ := H
  refine S_iald (pc := 10) dX12_n_10 (sM_23 hs) hb1 ?_
  refine S_ireturn dX12_n_11 rfl ?_
  show WP _ _ _ _ _ _ _ 12 [some (.ref B), some (.int a1), some (.int a2), some (.int a3), none] [.int (f (B + 23) (((nI 40) * a1) + (nI 6)).toNatClampNeg), .int a3] (sh, f, g, fR)
  refine S_icmp_ge (pc := 12) (tgt := 81) dX12_clears_12 rfl (fun hc2 => ?_) (fun hc2 => ?_)
  · replace H := H.1 hc2
    refine S_aload_n (pc := 81) dX12_clears_81 rfl rfl ?_
    refine S_iload_n (pc := 82) dX12_clears_82 rfl rfl ?_
    refine S_bipush (pc := 83) dX12_clears_83 bp6 ?_
    refine S_iload_n (pc := 85) dX12_clears_85 rfl rfl ?_
    refine S_callV (As := [.int a1, .int (nI 6), .int a2]) (mc := 0) (ms := 0) (pc := 86) dX12_clears_86 miX12_sets mvX12_sets mlX12_405 rfl (sM_0 hs) rfl rfl rfl (RmOK.of rfl) (Q := fun r h => WP _ _ _ _ _ _ _ 89 [some (.ref B), some (.int a1), some (.int a2), some (.int a3), none] (r.toList ++ []) h) (Cl.of miX12_sets rfl rfl ?_) (fun _ _ q => q)
    refine S_aload_n (pc := 0) dX12_sets_0 rfl rfl ?_
    refine S_getR (pc := 1) dX12_sets_1 flX12_144 (sM_0 hs) rfl (rM_43 hs) ?_
    refine S_bipush (pc := 4) dX12_sets_4 bp40 ?_
    refine S_iload_n (pc := 6) dX12_sets_6 rfl rfl ?_
    refine S_imul (pc := 7) dX12_sets_7 ?_
    refine S_iload_n (pc := 8) dX12_sets_8 rfl rfl ?_
    refine S_iadd (pc := 9) dX12_sets_9 ?_
    refine S_iload_n (pc := 10) dX12_sets_10 rfl rfl ?_
    obtain ⟨hb3, H⟩ := H
    refine S_iast (pc := 11) dX12_sets_11 (sM_23 hs) (Nat.succ_pos _) hb3 ?_
    refine S_vreturn dX12_sets_12 rfl ?_
    show WP _ _ _ _ _ _ _ 89 [some (.ref B), some (.int a1), some (.int a2), some (.int a3), none] [] (sh, (up2 f (B + 23) (((nI 40) * a1) + (nI 6)).toNatClampNeg a2), g, fR)
    exact S_vreturn dX12_clears_89 rfl H
  · replace H := H.2 hc2
    refine S_aload_n (pc := 15) dX12_clears_15 rfl rfl ?_
    refine S_iload_n (pc := 16) dX12_clears_16 rfl rfl ?_
    refine S_iload_n (pc := 17) dX12_clears_17 rfl rfl ?_
    refine S_bipush (pc := 18) dX12_clears_18 bp6 ?_
    refine S_callV (As := [.int a1, .int a3, .int (nI 6)]) (mc := 0) (ms := 0) (pc := 20) dX12_clears_20 miX12_s mvX12_s mlX12_445 rfl (sM_0 hs) rfl rfl rfl (RmOK.of rfl) (Q := fun r h => WP _ _ _ _ _ _ _ 23 [some (.ref B), some (.int a1), some (.int a2), some (.int a3), none] (r.toList ++ []) h) (Cl.of miX12_s rfl rfl ?_) (fun _ _ q => q)
    refine S_aload_n (pc := 0) dX12_s_0 rfl rfl ?_
    refine S_getR (pc := 1) dX12_s_1 flX12_148 (sM_0 hs) rfl (rM_44 hs) ?_
    refine S_bipush (pc := 4) dX12_s_4 bp8 ?_
    refine S_sipush (pc := 6) dX12_s_6 sp480 ?_
    refine S_iload_n (pc := 9) dX12_s_9 rfl rfl ?_
    refine S_imul (pc := 10) dX12_s_10 ?_
    refine S_iload_n (pc := 11) dX12_s_11 rfl rfl ?_
    refine S_iadd (pc := 12) dX12_s_12 ?_
    refine S_imul (pc := 13) dX12_s_13 ?_
    refine S_iload_n (pc := 14) dX12_s_14 rfl rfl ?_
    refine S_iadd (pc := 15) dX12_s_15 ?_
    obtain ⟨hb4, H⟩ := H
    refine S_iald (pc := 16) dX12_s_16 (sM_24 hs) hb4 ?_
    refine S_ireturn dX12_s_17 rfl ?_
    show WP _ _ _ _ _ _ _ 23 [some (.ref B), some (.int a1), some (.int a2), some (.int a3), none] [.int (f (B + 24) (((nI 8) * (((nI 480) * a1) + a3)) + (nI 6)).toNatClampNeg)] (sh, f, g, fR)
    refine S_if_ne (pc := 23) (tgt := 40) dX12_clears_23 rfl (fun hc5 => ?_) (fun hc5 => ?_)
    · replace H := H.1 hc5
      exact H
    · replace H := H.2 hc5
      refine S_aload_n (pc := 26) dX12_clears_26 rfl rfl ?_
      refine S_iload_n (pc := 27) dX12_clears_27 rfl rfl ?_
      refine S_iload_n (pc := 28) dX12_clears_28 rfl rfl ?_
      refine S_iconst (pc := 29) dX12_clears_29 ic5 ?_
      refine S_callV (As := [.int a1, .int a3, .int (nI 5)]) (mc := 0) (ms := 0) (pc := 30) dX12_clears_30 miX12_s mvX12_s mlX12_445 rfl (sM_0 hs) rfl rfl rfl (RmOK.of rfl) (Q := fun r h => WP _ _ _ _ _ _ _ 33 [some (.ref B), some (.int a1), some (.int a2), some (.int a3), none] (r.toList ++ []) h) (Cl.of miX12_s rfl rfl ?_) (fun _ _ q => q)
      refine S_aload_n (pc := 0) dX12_s_0 rfl rfl ?_
      refine S_getR (pc := 1) dX12_s_1 flX12_148 (sM_0 hs) rfl (rM_44 hs) ?_
      refine S_bipush (pc := 4) dX12_s_4 bp8 ?_
      refine S_sipush (pc := 6) dX12_s_6 sp480 ?_
      refine S_iload_n (pc := 9) dX12_s_9 rfl rfl ?_
      refine S_imul (pc := 10) dX12_s_10 ?_
      refine S_iload_n (pc := 11) dX12_s_11 rfl rfl ?_
      refine S_iadd (pc := 12) dX12_s_12 ?_
      refine S_imul (pc := 13) dX12_s_13 ?_
      refine S_iload_n (pc := 14) dX12_s_14 rfl rfl ?_
      refine S_iadd (pc := 15) dX12_s_15 ?_
      obtain ⟨hb6, H⟩ := H
      refine S_iald (pc := 16) dX12_s_16 (sM_24 hs) hb6 ?_
      refine S_ireturn dX12_s_17 rfl ?_
      show WP _ _ _ _ _ _ _ 33 [some (.ref B), some (.int a1), some (.int a2), some (.int a3), none] [.int (f (B + 24) (((nI 8) * (((nI 480) * a1) + a3)) + (nI 5)).toNatClampNeg)] (sh, f, g, fR)
      refine S_iconst (pc := 33) dX12_clears_33 icm1 ?_
      refine S_icmp_ne (pc := 34) (tgt := 40) dX12_clears_34 rfl (fun hc7 => ?_) (fun hc7 => ?_)
      · replace H := H.1 hc7
        exact H
      · replace H := H.2 hc7
        refine S_goto (pc := 37) (tgt := 75) dX12_clears_37 rfl ?_
        exact H
set_option maxHeartbeats 2000000 in
set_option maxRecDepth 4000 in
theorem VX12_clears_40 {l : Launch} {G : Gx} {d : Nat} {Q : Option Value → Hp → Prop} {sh : Sh} {fR : FRt} {B : Nat} {f : FI} {g : FL} {a1 : Int32} {a2 : Int32} {a3 : Int32} (hs : StM sh fR B)
    (H : LpX12_clears_43 l G d Q sh fR B f g a1 a2 a3 (nI 0)) :
    LpX12_clears_40 l G d Q sh fR B f g a1 a2 a3 := by
  refine S_iconst (pc := 40) dX12_clears_40 ic0 ?_
  refine S_istore (pc := 41) (L' := [some (.ref B), some (.int a1), some (.int a2), some (.int a3), some (.int (nI 0))]) dX12_clears_41 (by decide) rfl ?_
  exact H
set_option maxHeartbeats 2000000 in
set_option maxRecDepth 4000 in
theorem VX12_clears_75 {l : Launch} {G : Gx} {d : Nat} {Q : Option Value → Hp → Prop} {sh : Sh} {fR : FRt} {B : Nat} {f : FI} {g : FL} {a1 : Int32} {a2 : Int32} {a3 : Int32} (hs : StM sh fR B)
    (H : LpX12_clears_4 l G d Q sh fR B f g a1 a2 (a3 + nI 1)) :
    LpX12_clears_75 l G d Q sh fR B f g a1 a2 a3 := by
  refine S_iinc (pc := 75) (v := nI 1) (L' := [some (.ref B), some (.int a1), some (.int a2), some (.int (a3 + nI 1)), none]) dX12_clears_75 rfl ic1 rfl ?_
  refine S_goto (pc := 78) (tgt := 4) dX12_clears_78 rfl ?_
  exact H
set_option maxHeartbeats 2000000 in
set_option maxRecDepth 4000 in
theorem VX12_clears_43 {l : Launch} {G : Gx} {d : Nat} {Q : Option Value → Hp → Prop} {sh : Sh} {fR : FRt} {B : Nat} {f : FI} {g : FL} {a1 : Int32} {a2 : Int32} {a3 : Int32} {a4 : Int32} (hs : StM sh fR B)
    (H : (((nI 8) ≤ a4 → LpX12_clears_75 l G d Q sh fR B f g a1 (a2 + nI 1) a3) ∧ (¬ (nI 8) ≤ a4 → inb (((nI 8) * (((nI 480) * a1) + a3)) + a4) 84480 ∧ inb (((nI 8) * (((nI 480) * a1) + a2)) + a4) 84480 ∧ LpX12_clears_43 l G d Q sh fR B (up2 f (B + 24) (((nI 8) * (((nI 480) * a1) + a2)) + a4).toNatClampNeg (f (B + 24) (((nI 8) * (((nI 480) * a1) + a3)) + a4).toNatClampNeg)) g a1 a2 a3 (a4 + nI 1)))) :
    LpX12_clears_43 l G d Q sh fR B f g a1 a2 a3 a4 := by
  refine S_iload (pc := 43) dX12_clears_43 rfl ?_
  refine S_bipush (pc := 45) dX12_clears_45 bp8 ?_
  refine S_icmp_ge (pc := 47) (tgt := 72) dX12_clears_47 rfl (fun hc8 => ?_) (fun hc8 => ?_)
  · replace H := H.1 hc8
    refine S_iinc (pc := 72) (v := nI 1) (L' := [some (.ref B), some (.int a1), some (.int (a2 + nI 1)), some (.int a3), some (.int a4)]) dX12_clears_72 rfl ic1 rfl ?_
    exact S_weak (L' := [some (.ref B), some (.int a1), some (.int (a2 + nI 1)), some (.int a3), none]) (ls_e (ls_e (ls_e (ls_e (ls_n ls_0))))) H
  · replace H := H.2 hc8
    refine S_aload_n (pc := 50) dX12_clears_50 rfl rfl ?_
    refine S_iload_n (pc := 51) dX12_clears_51 rfl rfl ?_
    refine S_iload_n (pc := 52) dX12_clears_52 rfl rfl ?_
    refine S_iload (pc := 53) dX12_clears_53 rfl ?_
    refine S_aload_n (pc := 55) dX12_clears_55 rfl rfl ?_
    refine S_iload_n (pc := 56) dX12_clears_56 rfl rfl ?_
    refine S_iload_n (pc := 57) dX12_clears_57 rfl rfl ?_
    refine S_iload (pc := 58) dX12_clears_58 rfl ?_
    refine S_callV (As := [.int a1, .int a3, .int a4]) (mc := 0) (ms := 0) (pc := 60) dX12_clears_60 miX12_s mvX12_s mlX12_445 rfl (sM_0 hs) rfl rfl rfl (RmOK.of rfl) (Q := fun r h => WP _ _ _ _ _ _ _ 63 [some (.ref B), some (.int a1), some (.int a2), some (.int a3), some (.int a4)] (r.toList ++ [.int a4, .int a2, .int a1, .ref B]) h) (Cl.of miX12_s rfl rfl ?_) (fun _ _ q => q)
    refine S_aload_n (pc := 0) dX12_s_0 rfl rfl ?_
    refine S_getR (pc := 1) dX12_s_1 flX12_148 (sM_0 hs) rfl (rM_44 hs) ?_
    refine S_bipush (pc := 4) dX12_s_4 bp8 ?_
    refine S_sipush (pc := 6) dX12_s_6 sp480 ?_
    refine S_iload_n (pc := 9) dX12_s_9 rfl rfl ?_
    refine S_imul (pc := 10) dX12_s_10 ?_
    refine S_iload_n (pc := 11) dX12_s_11 rfl rfl ?_
    refine S_iadd (pc := 12) dX12_s_12 ?_
    refine S_imul (pc := 13) dX12_s_13 ?_
    refine S_iload_n (pc := 14) dX12_s_14 rfl rfl ?_
    refine S_iadd (pc := 15) dX12_s_15 ?_
    obtain ⟨hb9, H⟩ := H
    refine S_iald (pc := 16) dX12_s_16 (sM_24 hs) hb9 ?_
    refine S_ireturn dX12_s_17 rfl ?_
    show WP _ _ _ _ _ _ _ 63 [some (.ref B), some (.int a1), some (.int a2), some (.int a3), some (.int a4)] [.int (f (B + 24) (((nI 8) * (((nI 480) * a1) + a3)) + a4).toNatClampNeg), .int a4, .int a2, .int a1, .ref B] (sh, f, g, fR)
    refine S_callV (As := [.int a1, .int a2, .int a4, .int (f (B + 24) (((nI 8) * (((nI 480) * a1) + a3)) + a4).toNatClampNeg)]) (mc := 0) (ms := 0) (pc := 63) dX12_clears_63 miX12_setsSegment mvX12_setsSegment mlX12_482 rfl (sM_0 hs) rfl rfl rfl (RmOK.of rfl) (Q := fun r h => WP _ _ _ _ _ _ _ 66 [some (.ref B), some (.int a1), some (.int a2), some (.int a3), some (.int a4)] (r.toList ++ []) h) (Cl.of miX12_setsSegment rfl rfl ?_) (fun _ _ q => q)
    refine S_aload_n (pc := 0) dX12_setsSegment_0 rfl rfl ?_
    refine S_getR (pc := 1) dX12_setsSegment_1 flX12_148 (sM_0 hs) rfl (rM_44 hs) ?_
    refine S_bipush (pc := 4) dX12_setsSegment_4 bp8 ?_
    refine S_sipush (pc := 6) dX12_setsSegment_6 sp480 ?_
    refine S_iload_n (pc := 9) dX12_setsSegment_9 rfl rfl ?_
    refine S_imul (pc := 10) dX12_setsSegment_10 ?_
    refine S_iload_n (pc := 11) dX12_setsSegment_11 rfl rfl ?_
    refine S_iadd (pc := 12) dX12_setsSegment_12 ?_
    refine S_imul (pc := 13) dX12_setsSegment_13 ?_
    refine S_iload_n (pc := 14) dX12_setsSegment_14 rfl rfl ?_
    refine S_iadd (pc := 15) dX12_setsSegment_15 ?_
    refine S_iload (pc := 16) dX12_setsSegment_16 rfl ?_
    obtain ⟨hb10, H⟩ := H
    refine S_iast (pc := 18) dX12_setsSegment_18 (sM_24 hs) (Nat.succ_pos _) hb10 ?_
    refine S_vreturn dX12_setsSegment_19 rfl ?_
    show WP _ _ _ _ _ _ _ 66 [some (.ref B), some (.int a1), some (.int a2), some (.int a3), some (.int a4)] [] (sh, (up2 f (B + 24) (((nI 8) * (((nI 480) * a1) + a2)) + a4).toNatClampNeg (f (B + 24) (((nI 8) * (((nI 480) * a1) + a3)) + a4).toNatClampNeg)), g, fR)
    refine S_iinc (pc := 66) (v := nI 1) (L' := [some (.ref B), some (.int a1), some (.int a2), some (.int a3), some (.int (a4 + nI 1))]) dX12_clears_66 rfl ic1 rfl ?_
    refine S_goto (pc := 69) (tgt := 43) dX12_clears_69 rfl ?_
    exact H
abbrev LpX12_ticksOn_17 (l : Launch) (G : Gx) (d : Nat) (Q : Option Value → Hp → Prop) (sh : Sh) (fR : FRt) (B : Nat) (f : FI) (g : FL) (a1 : Int32) (a2 : Int32) : Prop := WP l G (Zq G 0 0 Q) mX12_ticksOn (rmd (d + 6) 0 0) 0 0 17 [some (.ref B), some (.int a1), some (.int a2)] [] (sh, f, g, fR)
abbrev LpX12_ticksOn_100 (l : Launch) (G : Gx) (d : Nat) (Q : Option Value → Hp → Prop) (sh : Sh) (fR : FRt) (B : Nat) (f : FI) (g : FL) (a1 : Int32) (a2 : Int32) : Prop := WP l G (Zq G 0 0 Q) mX12_ticksOn (rmd (d + 6) 0 0) 0 0 100 [some (.ref B), some (.int a1), some (.int a2)] [] (sh, f, g, fR)
abbrev LpX12_ticksOn_72 (l : Launch) (G : Gx) (d : Nat) (Q : Option Value → Hp → Prop) (sh : Sh) (fR : FRt) (B : Nat) (f : FI) (g : FL) (a1 : Int32) (a2 : Int32) : Prop := WP l G (Zq G 0 0 Q) mX12_ticksOn (rmd (d + 6) 0 0) 0 0 72 [some (.ref B), some (.int a1), some (.int a2)] [] (sh, f, g, fR)
abbrev LpX12_ticksOn_127 (l : Launch) (G : Gx) (d : Nat) (Q : Option Value → Hp → Prop) (sh : Sh) (fR : FRt) (B : Nat) (f : FI) (g : FL) (a1 : Int32) (a2 : Int32) : Prop := WP l G (Zq G 0 0 Q) mX12_ticksOn (rmd (d + 6) 0 0) 0 0 127 [some (.ref B), some (.int a1), some (.int a2)] [] (sh, f, g, fR)
abbrev LpX12_ticksOn_155 (l : Launch) (G : Gx) (d : Nat) (Q : Option Value → Hp → Prop) (sh : Sh) (fR : FRt) (B : Nat) (f : FI) (g : FL) (a1 : Int32) (a2 : Int32) : Prop := WP l G (Zq G 0 0 Q) mX12_ticksOn (rmd (d + 6) 0 0) 0 0 155 [some (.ref B), some (.int a1), some (.int a2)] [] (sh, f, g, fR)
set_option maxHeartbeats 2000000 in
set_option maxRecDepth 4000 in
theorem VX12_ticksOn {l : Launch} {G : Gx} {d : Nat} {Q : Option Value → Hp → Prop} {sh : Sh} {fR : FRt} {B : Nat} {f : FI} {g : FL} {a1 : Int32} (hs : StM sh fR B)
    (H : LpX12_ticksOn_17 l G d Q sh fR B (up2 (up2 (up2 f B 61 (nI 0)) B 62 (nI 0)) B 63 (nI 0)) g a1 (nI 0)) :
    Cl l G (d + 6) 0 0 mX12_ticksOn [.ref B, .int a1] (sh, f, g, fR) Q := by
  refine Cl.of (L0 := [some (.ref B), some (.int a1), none]) miX12_ticksOn rfl rfl ?_
  refine S_aload_n (pc := 0) dX12_ticksOn_0 rfl rfl ?_
  refine S_iconst (pc := 1) dX12_ticksOn_1 ic0 ?_
  refine S_putI (pc := 2) dX12_ticksOn_2 flX12_200 (sM_0 hs) hs.2.2 (nf_12_61) rfl rfl (fun _ => rfl) ?_
  refine S_aload_n (pc := 5) dX12_ticksOn_5 rfl rfl ?_
  refine S_iconst (pc := 6) dX12_ticksOn_6 ic0 ?_
  refine S_putI (pc := 7) dX12_ticksOn_7 flX12_203 (sM_0 hs) hs.2.2 (nf_12_62) rfl rfl (fun _ => rfl) ?_
  refine S_aload_n (pc := 10) dX12_ticksOn_10 rfl rfl ?_
  refine S_iconst (pc := 11) dX12_ticksOn_11 ic0 ?_
  refine S_putI (pc := 12) dX12_ticksOn_12 flX12_206 (sM_0 hs) hs.2.2 (nf_12_63) nb0 rfl (fun _ => rfl) ?_
  refine S_iconst (pc := 15) dX12_ticksOn_15 ic0 ?_
  refine S_istore_n (pc := 16) (L' := [some (.ref B), some (.int a1), some (.int (nI 0))]) dX12_ticksOn_16 rfl (by decide) rfl ?_
  exact H
set_option maxHeartbeats 2000000 in
set_option maxRecDepth 4000 in
theorem VX12_ticksOn_17 {l : Launch} {G : Gx} {d : Nat} {Q : Option Value → Hp → Prop} {sh : Sh} {fR : FRt} {B : Nat} {f : FI} {g : FL} {a1 : Int32} {a2 : Int32} (hs : StM sh fR B)
    (H : inb (f B 13) 2 ∧ (((f (B + 6) (f B 13).toNatClampNeg) ≤ a2 → Cl l G (d + 5) 0 0 mX12_hears [.ref B, .int a1] (sh, f, g, fR) (qv sh fR fun f3 g4 => Cl l G (d + 5) 0 0 mX12_arrives [.ref B, .int a1] (sh, f3, g4, fR) (qv sh fR fun f5 g6 => Cl l G (d + 5) 0 0 mX12_readsOn [.ref B, .int a1] (sh, f5, g6, fR) (qi sh fR fun x9 f7 g8 => Cl l G (d + 5) 0 0 mX12_setsOut [.ref B, .int a1, .int x9] (sh, f7, g8, fR) (qv sh fR fun f10 g11 => LpX12_ticksOn_100 l G d Q sh fR B f10 g11 a1 (nI 0)))))) ∧ (¬ (f (B + 6) (f B 13).toNatClampNeg) ≤ a2 → inb (((nI 4) * (f B 13)) + a2) 8 ∧ inb (((nI 40) * a1) + (nI 0)) 880 ∧ ((¬ (f (B + 8) (((nI 4) * (f B 13)) + a2).toNatClampNeg) = (f (B + 23) (((nI 40) * a1) + (nI 0)).toNatClampNeg) → LpX12_ticksOn_72 l G d Q sh fR B f g a1 a2) ∧ ((f (B + 8) (((nI 4) * (f B 13)) + a2).toNatClampNeg) = (f (B + 23) (((nI 40) * a1) + (nI 0)).toNatClampNeg) → inb (((nI 4) * (f B 13)) + a2) 8 ∧ Cl l G (d + 5) 0 0 mX12_isJoining [.ref B, .int a1, .int a2, .int (f (B + 9) (((nI 4) * (f B 13)) + a2).toNatClampNeg)] (sh, f, g, fR) (qi sh fR fun x18 f16 g17 => LpX12_ticksOn_72 l G d Q sh fR B f16 g17 a1 a2)))))) :
    LpX12_ticksOn_17 l G d Q sh fR B f g a1 a2 := by
  refine S_iload_n (pc := 17) dX12_ticksOn_17 rfl rfl ?_
  refine S_aload_n (pc := 18) dX12_ticksOn_18 rfl rfl ?_
  refine S_getR (pc := 19) dX12_ticksOn_19 flX12_66 (sM_0 hs) rfl (rM_18 hs) ?_
  refine S_aload_n (pc := 22) dX12_ticksOn_22 rfl rfl ?_
  refine S_get (pc := 23) (v := .int (f B 13)) dX12_ticksOn_23 flX12_51 (sM_0 hs) rfl ?_
  obtain ⟨hb1, H⟩ := H
  refine S_iald (pc := 26) dX12_ticksOn_26 (sM_6 hs) hb1 ?_
  refine S_icmp_ge (pc := 27) (tgt := 78) dX12_ticksOn_27 rfl (fun hc2 => ?_) (fun hc2 => ?_)
  · replace H := H.1 hc2
    refine S_aload_n (pc := 78) dX12_ticksOn_78 rfl rfl ?_
    refine S_iload_n (pc := 79) dX12_ticksOn_79 rfl rfl ?_
    refine S_callV (As := [.int a1]) (mc := 0) (ms := 0) (pc := 80) dX12_ticksOn_80 miX12_hears mvX12_hears mlX12_543 rfl (sM_0 hs) rfl rfl rfl (RmOK.of rfl) H ?_
    rintro _ _ ⟨f3, g4, rfl, rfl, H⟩
    show WP _ _ _ _ _ _ _ 83 [some (.ref B), some (.int a1), some (.int a2)] [] (sh, f3, g4, fR)
    refine S_aload_n (pc := 83) dX12_ticksOn_83 rfl rfl ?_
    refine S_iload_n (pc := 84) dX12_ticksOn_84 rfl rfl ?_
    refine S_callV (As := [.int a1]) (mc := 0) (ms := 0) (pc := 85) dX12_ticksOn_85 miX12_arrives mvX12_arrives mlX12_546 rfl (sM_0 hs) rfl rfl rfl (RmOK.of rfl) H ?_
    rintro _ _ ⟨f5, g6, rfl, rfl, H⟩
    show WP _ _ _ _ _ _ _ 88 [some (.ref B), some (.int a1), some (.int a2)] [] (sh, f5, g6, fR)
    refine S_aload_n (pc := 88) dX12_ticksOn_88 rfl rfl ?_
    refine S_iload_n (pc := 89) dX12_ticksOn_89 rfl rfl ?_
    refine S_aload_n (pc := 90) dX12_ticksOn_90 rfl rfl ?_
    refine S_iload_n (pc := 91) dX12_ticksOn_91 rfl rfl ?_
    refine S_callV (As := [.int a1]) (mc := 0) (ms := 0) (pc := 92) dX12_ticksOn_92 miX12_readsOn mvX12_readsOn mlX12_549 rfl (sM_0 hs) rfl rfl rfl (RmOK.of rfl) H ?_
    rintro _ _ ⟨x9, f7, g8, rfl, rfl, H⟩
    show WP _ _ _ _ _ _ _ 95 [some (.ref B), some (.int a1), some (.int a2)] [.int x9, .int a1, .ref B] (sh, f7, g8, fR)
    refine S_callV (As := [.int a1, .int x9]) (mc := 0) (ms := 0) (pc := 95) dX12_ticksOn_95 miX12_setsOut mvX12_setsOut mlX12_552 rfl (sM_0 hs) rfl rfl rfl (RmOK.of rfl) H ?_
    rintro _ _ ⟨f10, g11, rfl, rfl, H⟩
    show WP _ _ _ _ _ _ _ 98 [some (.ref B), some (.int a1), some (.int a2)] [] (sh, f10, g11, fR)
    refine S_iconst (pc := 98) dX12_ticksOn_98 ic0 ?_
    refine S_istore_n (pc := 99) (L' := [some (.ref B), some (.int a1), some (.int (nI 0))]) dX12_ticksOn_99 rfl (by decide) rfl ?_
    exact H
  · replace H := H.2 hc2
    refine S_aload_n (pc := 30) dX12_ticksOn_30 rfl rfl ?_
    refine S_getR (pc := 31) dX12_ticksOn_31 flX12_72 (sM_0 hs) rfl (rM_20 hs) ?_
    refine S_iconst (pc := 34) dX12_ticksOn_34 ic4 ?_
    refine S_aload_n (pc := 35) dX12_ticksOn_35 rfl rfl ?_
    refine S_get (pc := 36) (v := .int (f B 13)) dX12_ticksOn_36 flX12_51 (sM_0 hs) rfl ?_
    refine S_imul (pc := 39) dX12_ticksOn_39 ?_
    refine S_iload_n (pc := 40) dX12_ticksOn_40 rfl rfl ?_
    refine S_iadd (pc := 41) dX12_ticksOn_41 ?_
    obtain ⟨hb12, H⟩ := H
    refine S_iald (pc := 42) dX12_ticksOn_42 (sM_8 hs) hb12 ?_
    refine S_aload_n (pc := 43) dX12_ticksOn_43 rfl rfl ?_
    refine S_iload_n (pc := 44) dX12_ticksOn_44 rfl rfl ?_
    refine S_iconst (pc := 45) dX12_ticksOn_45 ic0 ?_
    refine S_callV (As := [.int a1, .int (nI 0)]) (mc := 0) (ms := 0) (pc := 46) dX12_ticksOn_46 miX12_n mvX12_n mlX12_402 rfl (sM_0 hs) rfl rfl rfl (RmOK.of rfl) (Q := fun r h => WP _ _ _ _ _ _ _ 49 [some (.ref B), some (.int a1), some (.int a2)] (r.toList ++ [.int (f (B + 8) (((nI 4) * (f B 13)) + a2).toNatClampNeg)]) h) (Cl.of miX12_n rfl rfl ?_) (fun _ _ q => q)
    refine S_aload_n (pc := 0) dX12_n_0 rfl rfl ?_
    refine S_getR (pc := 1) dX12_n_1 flX12_144 (sM_0 hs) rfl (rM_43 hs) ?_
    refine S_bipush (pc := 4) dX12_n_4 bp40 ?_
    refine S_iload_n (pc := 6) dX12_n_6 rfl rfl ?_
    refine S_imul (pc := 7) dX12_n_7 ?_
    refine S_iload_n (pc := 8) dX12_n_8 rfl rfl ?_
    refine S_iadd (pc := 9) dX12_n_9 ?_
    obtain ⟨hb13, H⟩ := H
    refine S_iald (pc := 10) dX12_n_10 (sM_23 hs) hb13 ?_
    refine S_ireturn dX12_n_11 rfl ?_
    show WP _ _ _ _ _ _ _ 49 [some (.ref B), some (.int a1), some (.int a2)] [.int (f (B + 23) (((nI 40) * a1) + (nI 0)).toNatClampNeg), .int (f (B + 8) (((nI 4) * (f B 13)) + a2).toNatClampNeg)] (sh, f, g, fR)
    refine S_icmp_ne (pc := 49) (tgt := 72) dX12_ticksOn_49 rfl (fun hc14 => ?_) (fun hc14 => ?_)
    · replace H := H.1 hc14
      exact H
    · replace H := H.2 hc14
      refine S_aload_n (pc := 52) dX12_ticksOn_52 rfl rfl ?_
      refine S_iload_n (pc := 53) dX12_ticksOn_53 rfl rfl ?_
      refine S_iload_n (pc := 54) dX12_ticksOn_54 rfl rfl ?_
      refine S_aload_n (pc := 55) dX12_ticksOn_55 rfl rfl ?_
      refine S_getR (pc := 56) dX12_ticksOn_56 flX12_75 (sM_0 hs) rfl (rM_21 hs) ?_
      refine S_iconst (pc := 59) dX12_ticksOn_59 ic4 ?_
      refine S_aload_n (pc := 60) dX12_ticksOn_60 rfl rfl ?_
      refine S_get (pc := 61) (v := .int (f B 13)) dX12_ticksOn_61 flX12_51 (sM_0 hs) rfl ?_
      refine S_imul (pc := 64) dX12_ticksOn_64 ?_
      refine S_iload_n (pc := 65) dX12_ticksOn_65 rfl rfl ?_
      refine S_iadd (pc := 66) dX12_ticksOn_66 ?_
      obtain ⟨hb15, H⟩ := H
      refine S_iald (pc := 67) dX12_ticksOn_67 (sM_9 hs) hb15 ?_
      refine S_callV (As := [.int a1, .int a2, .int (f (B + 9) (((nI 4) * (f B 13)) + a2).toNatClampNeg)]) (mc := 0) (ms := 0) (pc := 68) dX12_ticksOn_68 miX12_isJoining mvX12_isJoining mlX12_540 rfl (sM_0 hs) rfl rfl rfl (RmOK.of rfl) H ?_
      rintro _ _ ⟨x18, f16, g17, rfl, rfl, H⟩
      show WP _ _ _ _ _ _ _ 71 [some (.ref B), some (.int a1), some (.int a2)] [.int x18] (sh, f16, g17, fR)
      refine S_pop (pc := 71) dX12_ticksOn_71 rfl ?_
      exact H
set_option maxHeartbeats 2000000 in
set_option maxRecDepth 4000 in
theorem VX12_ticksOn_100 {l : Launch} {G : Gx} {d : Nat} {Q : Option Value → Hp → Prop} {sh : Sh} {fR : FRt} {B : Nat} {f : FI} {g : FL} {a1 : Int32} {a2 : Int32} (hs : StM sh fR B)
    (H : (((f B 59) ≤ a2 → LpX12_ticksOn_127 l G d Q sh fR B f g a1 (nI 0)) ∧ (¬ (f B 59) ≤ a2 → inb a2 480 ∧ Cl l G (d + 5) 0 0 mX12_dies [.ref B, .int a1, .int (f (B + 33) a2.toNatClampNeg)] (sh, f, g, fR) (qv sh fR fun f21 g22 => LpX12_ticksOn_100 l G d Q sh fR B f21 g22 a1 (a2 + nI 1))))) :
    LpX12_ticksOn_100 l G d Q sh fR B f g a1 a2 := by
  refine S_iload_n (pc := 100) dX12_ticksOn_100 rfl rfl ?_
  refine S_aload_n (pc := 101) dX12_ticksOn_101 rfl rfl ?_
  refine S_get (pc := 102) (v := .int (f B 59)) dX12_ticksOn_102 flX12_194 (sM_0 hs) rfl ?_
  refine S_icmp_ge (pc := 105) (tgt := 125) dX12_ticksOn_105 rfl (fun hc19 => ?_) (fun hc19 => ?_)
  · replace H := H.1 hc19
    refine S_iconst (pc := 125) dX12_ticksOn_125 ic0 ?_
    refine S_istore_n (pc := 126) (L' := [some (.ref B), some (.int a1), some (.int (nI 0))]) dX12_ticksOn_126 rfl (by decide) rfl ?_
    exact H
  · replace H := H.2 hc19
    refine S_aload_n (pc := 108) dX12_ticksOn_108 rfl rfl ?_
    refine S_iload_n (pc := 109) dX12_ticksOn_109 rfl rfl ?_
    refine S_aload_n (pc := 110) dX12_ticksOn_110 rfl rfl ?_
    refine S_getR (pc := 111) dX12_ticksOn_111 flX12_191 (sM_0 hs) rfl (rM_58 hs) ?_
    refine S_iload_n (pc := 114) dX12_ticksOn_114 rfl rfl ?_
    obtain ⟨hb20, H⟩ := H
    refine S_iald (pc := 115) dX12_ticksOn_115 (sM_33 hs) hb20 ?_
    refine S_callV (As := [.int a1, .int (f (B + 33) a2.toNatClampNeg)]) (mc := 0) (ms := 0) (pc := 116) dX12_ticksOn_116 miX12_dies mvX12_dies mlX12_516 rfl (sM_0 hs) rfl rfl rfl (RmOK.of rfl) H ?_
    rintro _ _ ⟨f21, g22, rfl, rfl, H⟩
    show WP _ _ _ _ _ _ _ 119 [some (.ref B), some (.int a1), some (.int a2)] [] (sh, f21, g22, fR)
    refine S_iinc (pc := 119) (v := nI 1) (L' := [some (.ref B), some (.int a1), some (.int (a2 + nI 1))]) dX12_ticksOn_119 rfl ic1 rfl ?_
    refine S_goto (pc := 122) (tgt := 100) dX12_ticksOn_122 rfl ?_
    exact H
set_option maxHeartbeats 2000000 in
set_option maxRecDepth 4000 in
theorem VX12_ticksOn_72 {l : Launch} {G : Gx} {d : Nat} {Q : Option Value → Hp → Prop} {sh : Sh} {fR : FRt} {B : Nat} {f : FI} {g : FL} {a1 : Int32} {a2 : Int32} (hs : StM sh fR B)
    (H : LpX12_ticksOn_17 l G d Q sh fR B f g a1 (a2 + nI 1)) :
    LpX12_ticksOn_72 l G d Q sh fR B f g a1 a2 := by
  refine S_iinc (pc := 72) (v := nI 1) (L' := [some (.ref B), some (.int a1), some (.int (a2 + nI 1))]) dX12_ticksOn_72 rfl ic1 rfl ?_
  refine S_goto (pc := 75) (tgt := 17) dX12_ticksOn_75 rfl ?_
  exact H
set_option maxHeartbeats 2000000 in
set_option maxRecDepth 4000 in
theorem VX12_ticksOn_127 {l : Launch} {G : Gx} {d : Nat} {Q : Option Value → Hp → Prop} {sh : Sh} {fR : FRt} {B : Nat} {f : FI} {g : FL} {a1 : Int32} {a2 : Int32} (hs : StM sh fR B)
    (H : inb (f B 13) 2 ∧ (((f (B + 6) (f B 13).toNatClampNeg) ≤ a2 → Cl l G (d + 5) 0 0 mX12_clears [.ref B, .int a1] (sh, f, g, fR) (qv sh fR fun f25 g26 => Cl l G (d + 5) 0 0 mX12_sendsAll [.ref B, .int a1] (sh, f25, g26, fR) (qv sh fR fun f27 g28 => inb (((nI 40) * a1) + (nI 0)) 880 ∧ inb (((nI 40) * a1) + (nI 0)) 880 ∧ Q none (sh, (up2 f27 (B + 23) (((nI 40) * a1) + (nI 0)).toNatClampNeg ((f27 (B + 23) (((nI 40) * a1) + (nI 0)).toNatClampNeg) + (nI 1))), g28, fR)))) ∧ (¬ (f (B + 6) (f B 13).toNatClampNeg) ≤ a2 → Cl l G (d + 5) 0 0 mX12_isFree [.ref B, .int a1, .int a2] (sh, f, g, fR) (qi sh fR fun x33 f31 g32 => ((x33 = 0 → LpX12_ticksOn_155 l G d Q sh fR B f31 g32 a1 a2) ∧ (¬ x33 = 0 → Cl l G (d + 5) 0 0 mX12_fails [.ref B, .int a1, .int a2] (sh, f31, g32, fR) (qv sh fR fun f35 g36 => LpX12_ticksOn_155 l G d Q sh fR B f35 g36 a1 a2))))))) :
    LpX12_ticksOn_127 l G d Q sh fR B f g a1 a2 := by
  refine S_iload_n (pc := 127) dX12_ticksOn_127 rfl rfl ?_
  refine S_aload_n (pc := 128) dX12_ticksOn_128 rfl rfl ?_
  refine S_getR (pc := 129) dX12_ticksOn_129 flX12_66 (sM_0 hs) rfl (rM_18 hs) ?_
  refine S_aload_n (pc := 132) dX12_ticksOn_132 rfl rfl ?_
  refine S_get (pc := 133) (v := .int (f B 13)) dX12_ticksOn_133 flX12_51 (sM_0 hs) rfl ?_
  obtain ⟨hb23, H⟩ := H
  refine S_iald (pc := 136) dX12_ticksOn_136 (sM_6 hs) hb23 ?_
  refine S_icmp_ge (pc := 137) (tgt := 161) dX12_ticksOn_137 rfl (fun hc24 => ?_) (fun hc24 => ?_)
  · replace H := H.1 hc24
    refine S_aload_n (pc := 161) dX12_ticksOn_161 rfl rfl ?_
    refine S_iload_n (pc := 162) dX12_ticksOn_162 rfl rfl ?_
    refine S_callV (As := [.int a1]) (mc := 0) (ms := 0) (pc := 163) dX12_ticksOn_163 miX12_clears mvX12_clears mlX12_558 rfl (sM_0 hs) rfl rfl rfl (RmOK.of rfl) H ?_
    rintro _ _ ⟨f25, g26, rfl, rfl, H⟩
    show WP _ _ _ _ _ _ _ 166 [some (.ref B), some (.int a1), some (.int a2)] [] (sh, f25, g26, fR)
    refine S_aload_n (pc := 166) dX12_ticksOn_166 rfl rfl ?_
    refine S_iload_n (pc := 167) dX12_ticksOn_167 rfl rfl ?_
    refine S_callV (As := [.int a1]) (mc := 0) (ms := 0) (pc := 168) dX12_ticksOn_168 miX12_sendsAll mvX12_sendsAll mlX12_561 rfl (sM_0 hs) rfl rfl rfl (RmOK.of rfl) H ?_
    rintro _ _ ⟨f27, g28, rfl, rfl, H⟩
    show WP _ _ _ _ _ _ _ 171 [some (.ref B), some (.int a1), some (.int a2)] [] (sh, f27, g28, fR)
    refine S_aload_n (pc := 171) dX12_ticksOn_171 rfl rfl ?_
    refine S_iload_n (pc := 172) dX12_ticksOn_172 rfl rfl ?_
    refine S_iconst (pc := 173) dX12_ticksOn_173 ic0 ?_
    refine S_aload_n (pc := 174) dX12_ticksOn_174 rfl rfl ?_
    refine S_iload_n (pc := 175) dX12_ticksOn_175 rfl rfl ?_
    refine S_iconst (pc := 176) dX12_ticksOn_176 ic0 ?_
    refine S_callV (As := [.int a1, .int (nI 0)]) (mc := 0) (ms := 0) (pc := 177) dX12_ticksOn_177 miX12_n mvX12_n mlX12_402 rfl (sM_0 hs) rfl rfl rfl (RmOK.of rfl) (Q := fun r h => WP _ _ _ _ _ _ _ 180 [some (.ref B), some (.int a1), some (.int a2)] (r.toList ++ [.int (nI 0), .int a1, .ref B]) h) (Cl.of miX12_n rfl rfl ?_) (fun _ _ q => q)
    refine S_aload_n (pc := 0) dX12_n_0 rfl rfl ?_
    refine S_getR (pc := 1) dX12_n_1 flX12_144 (sM_0 hs) rfl (rM_43 hs) ?_
    refine S_bipush (pc := 4) dX12_n_4 bp40 ?_
    refine S_iload_n (pc := 6) dX12_n_6 rfl rfl ?_
    refine S_imul (pc := 7) dX12_n_7 ?_
    refine S_iload_n (pc := 8) dX12_n_8 rfl rfl ?_
    refine S_iadd (pc := 9) dX12_n_9 ?_
    obtain ⟨hb29, H⟩ := H
    refine S_iald (pc := 10) dX12_n_10 (sM_23 hs) hb29 ?_
    refine S_ireturn dX12_n_11 rfl ?_
    show WP _ _ _ _ _ _ _ 180 [some (.ref B), some (.int a1), some (.int a2)] [.int (f27 (B + 23) (((nI 40) * a1) + (nI 0)).toNatClampNeg), .int (nI 0), .int a1, .ref B] (sh, f27, g28, fR)
    refine S_iconst (pc := 180) dX12_ticksOn_180 ic1 ?_
    refine S_iadd (pc := 181) dX12_ticksOn_181 ?_
    refine S_callV (As := [.int a1, .int (nI 0), .int ((f27 (B + 23) (((nI 40) * a1) + (nI 0)).toNatClampNeg) + (nI 1))]) (mc := 0) (ms := 0) (pc := 182) dX12_ticksOn_182 miX12_sets mvX12_sets mlX12_405 rfl (sM_0 hs) rfl rfl rfl (RmOK.of rfl) (Q := fun r h => WP _ _ _ _ _ _ _ 185 [some (.ref B), some (.int a1), some (.int a2)] (r.toList ++ []) h) (Cl.of miX12_sets rfl rfl ?_) (fun _ _ q => q)
    refine S_aload_n (pc := 0) dX12_sets_0 rfl rfl ?_
    refine S_getR (pc := 1) dX12_sets_1 flX12_144 (sM_0 hs) rfl (rM_43 hs) ?_
    refine S_bipush (pc := 4) dX12_sets_4 bp40 ?_
    refine S_iload_n (pc := 6) dX12_sets_6 rfl rfl ?_
    refine S_imul (pc := 7) dX12_sets_7 ?_
    refine S_iload_n (pc := 8) dX12_sets_8 rfl rfl ?_
    refine S_iadd (pc := 9) dX12_sets_9 ?_
    refine S_iload_n (pc := 10) dX12_sets_10 rfl rfl ?_
    obtain ⟨hb30, H⟩ := H
    refine S_iast (pc := 11) dX12_sets_11 (sM_23 hs) (Nat.succ_pos _) hb30 ?_
    refine S_vreturn dX12_sets_12 rfl ?_
    show WP _ _ _ _ _ _ _ 185 [some (.ref B), some (.int a1), some (.int a2)] [] (sh, (up2 f27 (B + 23) (((nI 40) * a1) + (nI 0)).toNatClampNeg ((f27 (B + 23) (((nI 40) * a1) + (nI 0)).toNatClampNeg) + (nI 1))), g28, fR)
    exact S_vreturn dX12_ticksOn_185 rfl H
  · replace H := H.2 hc24
    refine S_aload_n (pc := 140) dX12_ticksOn_140 rfl rfl ?_
    refine S_iload_n (pc := 141) dX12_ticksOn_141 rfl rfl ?_
    refine S_iload_n (pc := 142) dX12_ticksOn_142 rfl rfl ?_
    refine S_callV (As := [.int a1, .int a2]) (mc := 0) (ms := 0) (pc := 143) dX12_ticksOn_143 miX12_isFree mvX12_isFree mlX12_470 rfl (sM_0 hs) rfl rfl rfl (RmOK.of rfl) H ?_
    rintro _ _ ⟨x33, f31, g32, rfl, rfl, H⟩
    show WP _ _ _ _ _ _ _ 146 [some (.ref B), some (.int a1), some (.int a2)] [.int x33] (sh, f31, g32, fR)
    refine S_if_eq (pc := 146) (tgt := 155) dX12_ticksOn_146 rfl (fun hc34 => ?_) (fun hc34 => ?_)
    · replace H := H.1 hc34
      exact H
    · replace H := H.2 hc34
      refine S_aload_n (pc := 149) dX12_ticksOn_149 rfl rfl ?_
      refine S_iload_n (pc := 150) dX12_ticksOn_150 rfl rfl ?_
      refine S_iload_n (pc := 151) dX12_ticksOn_151 rfl rfl ?_
      refine S_callV (As := [.int a1, .int a2]) (mc := 0) (ms := 0) (pc := 152) dX12_ticksOn_152 miX12_fails mvX12_fails mlX12_555 rfl (sM_0 hs) rfl rfl rfl (RmOK.of rfl) H ?_
      rintro _ _ ⟨f35, g36, rfl, rfl, H⟩
      show WP _ _ _ _ _ _ _ 155 [some (.ref B), some (.int a1), some (.int a2)] [] (sh, f35, g36, fR)
      exact H
set_option maxHeartbeats 2000000 in
set_option maxRecDepth 4000 in
theorem VX12_ticksOn_155 {l : Launch} {G : Gx} {d : Nat} {Q : Option Value → Hp → Prop} {sh : Sh} {fR : FRt} {B : Nat} {f : FI} {g : FL} {a1 : Int32} {a2 : Int32} (hs : StM sh fR B)
    (H : LpX12_ticksOn_127 l G d Q sh fR B f g a1 (a2 + nI 1)) :
    LpX12_ticksOn_155 l G d Q sh fR B f g a1 a2 := by
  refine S_iinc (pc := 155) (v := nI 1) (L' := [some (.ref B), some (.int a1), some (.int (a2 + nI 1))]) dX12_ticksOn_155 rfl ic1 rfl ?_
  refine S_goto (pc := 158) (tgt := 127) dX12_ticksOn_158 rfl ?_
  exact H
set_option maxHeartbeats 2000000 in
set_option maxRecDepth 4000 in
theorem VX12_isPath {l : Launch} {G : Gx} {d : Nat} {Q : Option Value → Hp → Prop} {sh : Sh} {fR : FRt} {B : Nat} {f : FI} {g : FL} {a1 : Int32} (hs : StM sh fR B)
    (H : ((a1 < 0 → Q (some (.int (nI 0))) (sh, f, g, fR)) ∧ (¬ a1 < 0 → inb (f B 13) 2 ∧ (((f (B + 6) (f B 13).toNatClampNeg) ≤ a1 → Q (some (.int (nI 0))) (sh, f, g, fR)) ∧ (¬ (f (B + 6) (f B 13).toNatClampNeg) ≤ a1 → Q (some (.int (nI 1))) (sh, f, g, fR)))))) :
    Cl l G d 0 0 mX12_isPath [.ref B, .int a1] (sh, f, g, fR) Q := by
  refine Cl.of (L0 := [some (.ref B), some (.int a1)]) miX12_isPath rfl rfl ?_
  refine S_iload_n (pc := 0) dX12_isPath_0 rfl rfl ?_
  refine S_if_lt (pc := 1) (tgt := 21) dX12_isPath_1 rfl (fun hc1 => ?_) (fun hc1 => ?_)
  · replace H := H.1 hc1
    refine S_iconst (pc := 21) dX12_isPath_21 ic0 ?_
    exact S_zreturn dX12_isPath_22 rfl (Or.inl rfl) H
  · replace H := H.2 hc1
    refine S_iload_n (pc := 4) dX12_isPath_4 rfl rfl ?_
    refine S_aload_n (pc := 5) dX12_isPath_5 rfl rfl ?_
    refine S_getR (pc := 6) dX12_isPath_6 flX12_66 (sM_0 hs) rfl (rM_18 hs) ?_
    refine S_aload_n (pc := 9) dX12_isPath_9 rfl rfl ?_
    refine S_get (pc := 10) (v := .int (f B 13)) dX12_isPath_10 flX12_51 (sM_0 hs) rfl ?_
    obtain ⟨hb2, H⟩ := H
    refine S_iald (pc := 13) dX12_isPath_13 (sM_6 hs) hb2 ?_
    refine S_icmp_ge (pc := 14) (tgt := 21) dX12_isPath_14 rfl (fun hc3 => ?_) (fun hc3 => ?_)
    · replace H := H.1 hc3
      refine S_iconst (pc := 21) dX12_isPath_21 ic0 ?_
      exact S_zreturn dX12_isPath_22 rfl (Or.inl rfl) H
    · replace H := H.2 hc3
      refine S_iconst (pc := 17) dX12_isPath_17 ic1 ?_
      refine S_goto (pc := 18) (tgt := 22) dX12_isPath_18 rfl ?_
      exact S_zreturn dX12_isPath_22 rfl (Or.inr rfl) H
abbrev LpX12_flying_4 (l : Launch) (G : Gx) (d : Nat) (Q : Option Value → Hp → Prop) (sh : Sh) (fR : FRt) (B : Nat) (f : FI) (g : FL) (a1 : Int32) (a2 : Int32) (a3 : Int32) : Prop := WP l G (Zq G 0 0 Q) mX12_flying (rmd (d + 1) 0 0) 0 0 4 [some (.ref B), some (.int a1), some (.int a2), some (.int a3)] [] (sh, f, g, fR)
set_option maxHeartbeats 2000000 in
set_option maxRecDepth 4000 in
theorem VX12_flying {l : Launch} {G : Gx} {d : Nat} {Q : Option Value → Hp → Prop} {sh : Sh} {fR : FRt} {B : Nat} {f : FI} {g : FL} {a1 : Int32} (hs : StM sh fR B)
    (H : LpX12_flying_4 l G d Q sh fR B f g a1 (nI 0) (nI 0)) :
    Cl l G (d + 1) 0 0 mX12_flying [.ref B, .int a1] (sh, f, g, fR) Q := by
  refine Cl.of (L0 := [some (.ref B), some (.int a1), none, none]) miX12_flying rfl rfl ?_
  refine S_iconst (pc := 0) dX12_flying_0 ic0 ?_
  refine S_istore_n (pc := 1) (L' := [some (.ref B), some (.int a1), some (.int (nI 0)), none]) dX12_flying_1 rfl (by decide) rfl ?_
  refine S_iconst (pc := 2) dX12_flying_2 ic0 ?_
  refine S_istore_n (pc := 3) (L' := [some (.ref B), some (.int a1), some (.int (nI 0)), some (.int (nI 0))]) dX12_flying_3 rfl (by decide) rfl ?_
  exact H
set_option maxHeartbeats 2000000 in
set_option maxRecDepth 4000 in
theorem VX12_flying_4 {l : Launch} {G : Gx} {d : Nat} {Q : Option Value → Hp → Prop} {sh : Sh} {fR : FRt} {B : Nat} {f : FI} {g : FL} {a1 : Int32} {a2 : Int32} {a3 : Int32} (hs : StM sh fR B)
    (H : inb (((nI 40) * a1) + (nI 6)) 880 ∧ (((f (B + 23) (((nI 40) * a1) + (nI 6)).toNatClampNeg) ≤ a3 → Q (some (.int a2)) (sh, f, g, fR)) ∧ (¬ (f (B + 23) (((nI 40) * a1) + (nI 6)).toNatClampNeg) ≤ a3 → inb (((nI 8) * (((nI 480) * a1) + a3)) + (nI 6)) 84480 ∧ (∀ w4 : Int32, w4 = a2 + (f (B + 24) (((nI 8) * (((nI 480) * a1) + a3)) + (nI 6)).toNatClampNeg) → LpX12_flying_4 l G d Q sh fR B f g a1 w4 (a3 + nI 1))))) :
    LpX12_flying_4 l G d Q sh fR B f g a1 a2 a3 := by
  refine S_iload_n (pc := 4) dX12_flying_4 rfl rfl ?_
  refine S_aload_n (pc := 5) dX12_flying_5 rfl rfl ?_
  refine S_iload_n (pc := 6) dX12_flying_6 rfl rfl ?_
  refine S_bipush (pc := 7) dX12_flying_7 bp6 ?_
  refine S_callV (As := [.int a1, .int (nI 6)]) (mc := 0) (ms := 0) (pc := 9) dX12_flying_9 miX12_n mvX12_n mlX12_402 rfl (sM_0 hs) rfl rfl rfl (RmOK.of rfl) (Q := fun r h => WP _ _ _ _ _ _ _ 12 [some (.ref B), some (.int a1), some (.int a2), some (.int a3)] (r.toList ++ [.int a3]) h) (Cl.of miX12_n rfl rfl ?_) (fun _ _ q => q)
  refine S_aload_n (pc := 0) dX12_n_0 rfl rfl ?_
  refine S_getR (pc := 1) dX12_n_1 flX12_144 (sM_0 hs) rfl (rM_43 hs) ?_
  refine S_bipush (pc := 4) dX12_n_4 bp40 ?_
  refine S_iload_n (pc := 6) dX12_n_6 rfl rfl ?_
  refine S_imul (pc := 7) dX12_n_7 ?_
  refine S_iload_n (pc := 8) dX12_n_8 rfl rfl ?_
  refine S_iadd (pc := 9) dX12_n_9 ?_
  obtain ⟨hb1, H⟩ := H
  refine S_iald (pc := 10) dX12_n_10 (sM_23 hs) hb1 ?_
  refine S_ireturn dX12_n_11 rfl ?_
  show WP _ _ _ _ _ _ _ 12 [some (.ref B), some (.int a1), some (.int a2), some (.int a3)] [.int (f (B + 23) (((nI 40) * a1) + (nI 6)).toNatClampNeg), .int a3] (sh, f, g, fR)
  refine S_icmp_ge (pc := 12) (tgt := 32) dX12_flying_12 rfl (fun hc2 => ?_) (fun hc2 => ?_)
  · replace H := H.1 hc2
    refine S_iload_n (pc := 32) dX12_flying_32 rfl rfl ?_
    exact S_ireturn dX12_flying_33 rfl H
  · replace H := H.2 hc2
    refine S_iload_n (pc := 15) dX12_flying_15 rfl rfl ?_
    refine S_aload_n (pc := 16) dX12_flying_16 rfl rfl ?_
    refine S_iload_n (pc := 17) dX12_flying_17 rfl rfl ?_
    refine S_iload_n (pc := 18) dX12_flying_18 rfl rfl ?_
    refine S_bipush (pc := 19) dX12_flying_19 bp6 ?_
    refine S_callV (As := [.int a1, .int a3, .int (nI 6)]) (mc := 0) (ms := 0) (pc := 21) dX12_flying_21 miX12_s mvX12_s mlX12_445 rfl (sM_0 hs) rfl rfl rfl (RmOK.of rfl) (Q := fun r h => WP _ _ _ _ _ _ _ 24 [some (.ref B), some (.int a1), some (.int a2), some (.int a3)] (r.toList ++ [.int a2]) h) (Cl.of miX12_s rfl rfl ?_) (fun _ _ q => q)
    refine S_aload_n (pc := 0) dX12_s_0 rfl rfl ?_
    refine S_getR (pc := 1) dX12_s_1 flX12_148 (sM_0 hs) rfl (rM_44 hs) ?_
    refine S_bipush (pc := 4) dX12_s_4 bp8 ?_
    refine S_sipush (pc := 6) dX12_s_6 sp480 ?_
    refine S_iload_n (pc := 9) dX12_s_9 rfl rfl ?_
    refine S_imul (pc := 10) dX12_s_10 ?_
    refine S_iload_n (pc := 11) dX12_s_11 rfl rfl ?_
    refine S_iadd (pc := 12) dX12_s_12 ?_
    refine S_imul (pc := 13) dX12_s_13 ?_
    refine S_iload_n (pc := 14) dX12_s_14 rfl rfl ?_
    refine S_iadd (pc := 15) dX12_s_15 ?_
    obtain ⟨hb3, H⟩ := H
    refine S_iald (pc := 16) dX12_s_16 (sM_24 hs) hb3 ?_
    refine S_ireturn dX12_s_17 rfl ?_
    show WP _ _ _ _ _ _ _ 24 [some (.ref B), some (.int a1), some (.int a2), some (.int a3)] [.int (f (B + 24) (((nI 8) * (((nI 480) * a1) + a3)) + (nI 6)).toNatClampNeg), .int a2] (sh, f, g, fR)
    refine S_iadd (pc := 24) dX12_flying_24 ?_
    refine S_namei (fun w4 e5 => ?_)
    replace H := H w4 e5
    refine S_istore_n (pc := 25) (L' := [some (.ref B), some (.int a1), some (.int w4), some (.int a3)]) dX12_flying_25 rfl (by decide) rfl ?_
    refine S_iinc (pc := 26) (v := nI 1) (L' := [some (.ref B), some (.int a1), some (.int w4), some (.int (a3 + nI 1))]) dX12_flying_26 rfl ic1 rfl ?_
    refine S_goto (pc := 29) (tgt := 4) dX12_flying_29 rfl ?_
    exact H
abbrev LpX12_open_4 (l : Launch) (G : Gx) (d : Nat) (Q : Option Value → Hp → Prop) (sh : Sh) (fR : FRt) (B : Nat) (f : FI) (g : FL) (a1 : Int32) (a2 : Int32) : Prop := WP l G (Zq G 0 0 Q) mX12_open (rmd (d + 2) 0 0) 0 0 4 [some (.ref B), some (.int a1), some (.int a2)] [] (sh, f, g, fR)
set_option maxHeartbeats 2000000 in
set_option maxRecDepth 4000 in
theorem VX12_open {l : Launch} {G : Gx} {d : Nat} {Q : Option Value → Hp → Prop} {sh : Sh} {fR : FRt} {B : Nat} {f : FI} {g : FL}  (hs : StM sh fR B)
    (H : LpX12_open_4 l G d Q sh fR B f g (nI 0) (nI 0)) :
    Cl l G (d + 2) 0 0 mX12_open [.ref B] (sh, f, g, fR) Q := by
  refine Cl.of (L0 := [some (.ref B), none, none]) miX12_open rfl rfl ?_
  refine S_iconst (pc := 0) dX12_open_0 ic0 ?_
  refine S_istore_n (pc := 1) (L' := [some (.ref B), some (.int (nI 0)), none]) dX12_open_1 rfl (by decide) rfl ?_
  refine S_iconst (pc := 2) dX12_open_2 ic0 ?_
  refine S_istore_n (pc := 3) (L' := [some (.ref B), some (.int (nI 0)), some (.int (nI 0))]) dX12_open_3 rfl (by decide) rfl ?_
  exact H
set_option maxHeartbeats 2000000 in
set_option maxRecDepth 4000 in
theorem VX12_open_4 {l : Launch} {G : Gx} {d : Nat} {Q : Option Value → Hp → Prop} {sh : Sh} {fR : FRt} {B : Nat} {f : FI} {g : FL} {a1 : Int32} {a2 : Int32} (hs : StM sh fR B)
    (H : inb (f B 13) 2 ∧ (((f (B + 6) (f B 13).toNatClampNeg) ≤ a2 → Q (some (.int a1)) (sh, f, g, fR)) ∧ (¬ (f (B + 6) (f B 13).toNatClampNeg) ≤ a2 → Cl l G (d + 1) 0 0 mX12_isFree [.ref B, .int (nI 0), .int a2] (sh, f, g, fR) (qi sh fR fun x5 f3 g4 => ((x5 = 0 → (∀ w7 : Int32, w7 = a1 + (nI 0) → LpX12_open_4 l G d Q sh fR B f3 g4 w7 (a2 + nI 1))) ∧ (¬ x5 = 0 → (∀ w9 : Int32, w9 = a1 + (nI 1) → LpX12_open_4 l G d Q sh fR B f3 g4 w9 (a2 + nI 1)))))))) :
    LpX12_open_4 l G d Q sh fR B f g a1 a2 := by
  refine S_iload_n (pc := 4) dX12_open_4 rfl rfl ?_
  refine S_aload_n (pc := 5) dX12_open_5 rfl rfl ?_
  refine S_getR (pc := 6) dX12_open_6 flX12_66 (sM_0 hs) rfl (rM_18 hs) ?_
  refine S_aload_n (pc := 9) dX12_open_9 rfl rfl ?_
  refine S_get (pc := 10) (v := .int (f B 13)) dX12_open_10 flX12_51 (sM_0 hs) rfl ?_
  obtain ⟨hb1, H⟩ := H
  refine S_iald (pc := 13) dX12_open_13 (sM_6 hs) hb1 ?_
  refine S_icmp_ge (pc := 14) (tgt := 40) dX12_open_14 rfl (fun hc2 => ?_) (fun hc2 => ?_)
  · replace H := H.1 hc2
    refine S_iload_n (pc := 40) dX12_open_40 rfl rfl ?_
    exact S_ireturn dX12_open_41 rfl H
  · replace H := H.2 hc2
    refine S_iload_n (pc := 17) dX12_open_17 rfl rfl ?_
    refine S_aload_n (pc := 18) dX12_open_18 rfl rfl ?_
    refine S_iconst (pc := 19) dX12_open_19 ic0 ?_
    refine S_iload_n (pc := 20) dX12_open_20 rfl rfl ?_
    refine S_callV (As := [.int (nI 0), .int a2]) (mc := 0) (ms := 0) (pc := 21) dX12_open_21 miX12_isFree mvX12_isFree mlX12_470 rfl (sM_0 hs) rfl rfl rfl (RmOK.of rfl) H ?_
    rintro _ _ ⟨x5, f3, g4, rfl, rfl, H⟩
    show WP _ _ _ _ _ _ _ 24 [some (.ref B), some (.int a1), some (.int a2)] [.int x5, .int a1] (sh, f3, g4, fR)
    refine S_if_eq (pc := 24) (tgt := 31) dX12_open_24 rfl (fun hc6 => ?_) (fun hc6 => ?_)
    · replace H := H.1 hc6
      refine S_iconst (pc := 31) dX12_open_31 ic0 ?_
      refine S_iadd (pc := 32) dX12_open_32 ?_
      refine S_namei (fun w7 e8 => ?_)
      replace H := H w7 e8
      refine S_istore_n (pc := 33) (L' := [some (.ref B), some (.int w7), some (.int a2)]) dX12_open_33 rfl (by decide) rfl ?_
      refine S_iinc (pc := 34) (v := nI 1) (L' := [some (.ref B), some (.int w7), some (.int (a2 + nI 1))]) dX12_open_34 rfl ic1 rfl ?_
      refine S_goto (pc := 37) (tgt := 4) dX12_open_37 rfl ?_
      exact H
    · replace H := H.2 hc6
      refine S_iconst (pc := 27) dX12_open_27 ic1 ?_
      refine S_goto (pc := 28) (tgt := 32) dX12_open_28 rfl ?_
      refine S_iadd (pc := 32) dX12_open_32 ?_
      refine S_namei (fun w9 e10 => ?_)
      replace H := H w9 e10
      refine S_istore_n (pc := 33) (L' := [some (.ref B), some (.int w9), some (.int a2)]) dX12_open_33 rfl (by decide) rfl ?_
      refine S_iinc (pc := 34) (v := nI 1) (L' := [some (.ref B), some (.int w9), some (.int (a2 + nI 1))]) dX12_open_34 rfl ic1 rfl ?_
      refine S_goto (pc := 37) (tgt := 4) dX12_open_37 rfl ?_
      exact H
abbrev LpX12_needed_4 (l : Launch) (G : Gx) (d : Nat) (Q : Option Value → Hp → Prop) (sh : Sh) (fR : FRt) (B : Nat) (f : FI) (g : FL) (a1 : Int32) (a2 : Int32) (a3 : Int32) : Prop := WP l G (Zq G 0 0 Q) mX12_needed (rmd (d + 1) 0 0) 0 0 4 [some (.ref B), some (.int a1), some (.int a2), some (.int a3)] [] (sh, f, g, fR)
set_option maxHeartbeats 2000000 in
set_option maxRecDepth 4000 in
theorem VX12_needed {l : Launch} {G : Gx} {d : Nat} {Q : Option Value → Hp → Prop} {sh : Sh} {fR : FRt} {B : Nat} {f : FI} {g : FL} {a1 : Int32} (hs : StM sh fR B)
    (H : LpX12_needed_4 l G d Q sh fR B f g a1 (nI 0) (nI 0)) :
    Cl l G (d + 1) 0 0 mX12_needed [.ref B, .int a1] (sh, f, g, fR) Q := by
  refine Cl.of (L0 := [some (.ref B), some (.int a1), none, none]) miX12_needed rfl rfl ?_
  refine S_iconst (pc := 0) dX12_needed_0 ic0 ?_
  refine S_istore_n (pc := 1) (L' := [some (.ref B), some (.int a1), some (.int (nI 0)), none]) dX12_needed_1 rfl (by decide) rfl ?_
  refine S_iconst (pc := 2) dX12_needed_2 ic0 ?_
  refine S_istore_n (pc := 3) (L' := [some (.ref B), some (.int a1), some (.int (nI 0)), some (.int (nI 0))]) dX12_needed_3 rfl (by decide) rfl ?_
  exact H
set_option maxHeartbeats 2000000 in
set_option maxRecDepth 4000 in
theorem VX12_needed_4 {l : Launch} {G : Gx} {d : Nat} {Q : Option Value → Hp → Prop} {sh : Sh} {fR : FRt} {B : Nat} {f : FI} {g : FL} {a1 : Int32} {a2 : Int32} {a3 : Int32} (hs : StM sh fR B)
    (H : inb (((nI 40) * a1) + (nI 7)) 880 ∧ (((f (B + 23) (((nI 40) * a1) + (nI 7)).toNatClampNeg) ≤ a3 → Q (some (.int a2)) (sh, f, g, fR)) ∧ (¬ (f (B + 23) (((nI 40) * a1) + (nI 7)).toNatClampNeg) ≤ a3 → inb ((nI 2) * (((nI 480) * a1) + a3)) 21120 ∧ inb (((nI 2) * (((nI 480) * a1) + a3)) + (nI 1)) 21120 ∧ inb (((nI 40) * a1) + (nI 2)) 880 ∧ ((((f (B + 25) ((nI 2) * (((nI 480) * a1) + a3)).toNatClampNeg) + (f (B + 25) (((nI 2) * (((nI 480) * a1) + a3)) + (nI 1)).toNatClampNeg)) ≤ (f (B + 23) (((nI 40) * a1) + (nI 2)).toNatClampNeg) → (∀ w7 : Int32, w7 = a2 + (nI 0) → LpX12_needed_4 l G d Q sh fR B f g a1 w7 (a3 + nI 1))) ∧ (¬ ((f (B + 25) ((nI 2) * (((nI 480) * a1) + a3)).toNatClampNeg) + (f (B + 25) (((nI 2) * (((nI 480) * a1) + a3)) + (nI 1)).toNatClampNeg)) ≤ (f (B + 23) (((nI 40) * a1) + (nI 2)).toNatClampNeg) → (∀ w9 : Int32, w9 = a2 + (nI 1) → LpX12_needed_4 l G d Q sh fR B f g a1 w9 (a3 + nI 1))))))) :
    LpX12_needed_4 l G d Q sh fR B f g a1 a2 a3 := by
  refine S_iload_n (pc := 4) dX12_needed_4 rfl rfl ?_
  refine S_aload_n (pc := 5) dX12_needed_5 rfl rfl ?_
  refine S_iload_n (pc := 6) dX12_needed_6 rfl rfl ?_
  refine S_bipush (pc := 7) dX12_needed_7 bp7 ?_
  refine S_callV (As := [.int a1, .int (nI 7)]) (mc := 0) (ms := 0) (pc := 9) dX12_needed_9 miX12_n mvX12_n mlX12_402 rfl (sM_0 hs) rfl rfl rfl (RmOK.of rfl) (Q := fun r h => WP _ _ _ _ _ _ _ 12 [some (.ref B), some (.int a1), some (.int a2), some (.int a3)] (r.toList ++ [.int a3]) h) (Cl.of miX12_n rfl rfl ?_) (fun _ _ q => q)
  refine S_aload_n (pc := 0) dX12_n_0 rfl rfl ?_
  refine S_getR (pc := 1) dX12_n_1 flX12_144 (sM_0 hs) rfl (rM_43 hs) ?_
  refine S_bipush (pc := 4) dX12_n_4 bp40 ?_
  refine S_iload_n (pc := 6) dX12_n_6 rfl rfl ?_
  refine S_imul (pc := 7) dX12_n_7 ?_
  refine S_iload_n (pc := 8) dX12_n_8 rfl rfl ?_
  refine S_iadd (pc := 9) dX12_n_9 ?_
  obtain ⟨hb1, H⟩ := H
  refine S_iald (pc := 10) dX12_n_10 (sM_23 hs) hb1 ?_
  refine S_ireturn dX12_n_11 rfl ?_
  show WP _ _ _ _ _ _ _ 12 [some (.ref B), some (.int a1), some (.int a2), some (.int a3)] [.int (f (B + 23) (((nI 40) * a1) + (nI 7)).toNatClampNeg), .int a3] (sh, f, g, fR)
  refine S_icmp_ge (pc := 12) (tgt := 69) dX12_needed_12 rfl (fun hc2 => ?_) (fun hc2 => ?_)
  · replace H := H.1 hc2
    refine S_iload_n (pc := 69) dX12_needed_69 rfl rfl ?_
    exact S_ireturn dX12_needed_70 rfl H
  · replace H := H.2 hc2
    refine S_iload_n (pc := 15) dX12_needed_15 rfl rfl ?_
    refine S_aload_n (pc := 16) dX12_needed_16 rfl rfl ?_
    refine S_getR (pc := 17) dX12_needed_17 flX12_151 (sM_0 hs) rfl (rM_45 hs) ?_
    refine S_iconst (pc := 20) dX12_needed_20 ic2 ?_
    refine S_sipush (pc := 21) dX12_needed_21 sp480 ?_
    refine S_iload_n (pc := 24) dX12_needed_24 rfl rfl ?_
    refine S_imul (pc := 25) dX12_needed_25 ?_
    refine S_iload_n (pc := 26) dX12_needed_26 rfl rfl ?_
    refine S_iadd (pc := 27) dX12_needed_27 ?_
    refine S_imul (pc := 28) dX12_needed_28 ?_
    obtain ⟨hb3, H⟩ := H
    refine S_iald (pc := 29) dX12_needed_29 (sM_25 hs) hb3 ?_
    refine S_aload_n (pc := 30) dX12_needed_30 rfl rfl ?_
    refine S_getR (pc := 31) dX12_needed_31 flX12_151 (sM_0 hs) rfl (rM_45 hs) ?_
    refine S_iconst (pc := 34) dX12_needed_34 ic2 ?_
    refine S_sipush (pc := 35) dX12_needed_35 sp480 ?_
    refine S_iload_n (pc := 38) dX12_needed_38 rfl rfl ?_
    refine S_imul (pc := 39) dX12_needed_39 ?_
    refine S_iload_n (pc := 40) dX12_needed_40 rfl rfl ?_
    refine S_iadd (pc := 41) dX12_needed_41 ?_
    refine S_imul (pc := 42) dX12_needed_42 ?_
    refine S_iconst (pc := 43) dX12_needed_43 ic1 ?_
    refine S_iadd (pc := 44) dX12_needed_44 ?_
    obtain ⟨hb4, H⟩ := H
    refine S_iald (pc := 45) dX12_needed_45 (sM_25 hs) hb4 ?_
    refine S_iadd (pc := 46) dX12_needed_46 ?_
    refine S_aload_n (pc := 47) dX12_needed_47 rfl rfl ?_
    refine S_iload_n (pc := 48) dX12_needed_48 rfl rfl ?_
    refine S_iconst (pc := 49) dX12_needed_49 ic2 ?_
    refine S_callV (As := [.int a1, .int (nI 2)]) (mc := 0) (ms := 0) (pc := 50) dX12_needed_50 miX12_n mvX12_n mlX12_402 rfl (sM_0 hs) rfl rfl rfl (RmOK.of rfl) (Q := fun r h => WP _ _ _ _ _ _ _ 53 [some (.ref B), some (.int a1), some (.int a2), some (.int a3)] (r.toList ++ [.int ((f (B + 25) ((nI 2) * (((nI 480) * a1) + a3)).toNatClampNeg) + (f (B + 25) (((nI 2) * (((nI 480) * a1) + a3)) + (nI 1)).toNatClampNeg)), .int a2]) h) (Cl.of miX12_n rfl rfl ?_) (fun _ _ q => q)
    refine S_aload_n (pc := 0) dX12_n_0 rfl rfl ?_
    refine S_getR (pc := 1) dX12_n_1 flX12_144 (sM_0 hs) rfl (rM_43 hs) ?_
    refine S_bipush (pc := 4) dX12_n_4 bp40 ?_
    refine S_iload_n (pc := 6) dX12_n_6 rfl rfl ?_
    refine S_imul (pc := 7) dX12_n_7 ?_
    refine S_iload_n (pc := 8) dX12_n_8 rfl rfl ?_
    refine S_iadd (pc := 9) dX12_n_9 ?_
    obtain ⟨hb5, H⟩ := H
    refine S_iald (pc := 10) dX12_n_10 (sM_23 hs) hb5 ?_
    refine S_ireturn dX12_n_11 rfl ?_
    show WP _ _ _ _ _ _ _ 53 [some (.ref B), some (.int a1), some (.int a2), some (.int a3)] [.int (f (B + 23) (((nI 40) * a1) + (nI 2)).toNatClampNeg), .int ((f (B + 25) ((nI 2) * (((nI 480) * a1) + a3)).toNatClampNeg) + (f (B + 25) (((nI 2) * (((nI 480) * a1) + a3)) + (nI 1)).toNatClampNeg)), .int a2] (sh, f, g, fR)
    refine S_icmp_le (pc := 53) (tgt := 60) dX12_needed_53 rfl (fun hc6 => ?_) (fun hc6 => ?_)
    · replace H := H.1 hc6
      refine S_iconst (pc := 60) dX12_needed_60 ic0 ?_
      refine S_iadd (pc := 61) dX12_needed_61 ?_
      refine S_namei (fun w7 e8 => ?_)
      replace H := H w7 e8
      refine S_istore_n (pc := 62) (L' := [some (.ref B), some (.int a1), some (.int w7), some (.int a3)]) dX12_needed_62 rfl (by decide) rfl ?_
      refine S_iinc (pc := 63) (v := nI 1) (L' := [some (.ref B), some (.int a1), some (.int w7), some (.int (a3 + nI 1))]) dX12_needed_63 rfl ic1 rfl ?_
      refine S_goto (pc := 66) (tgt := 4) dX12_needed_66 rfl ?_
      exact H
    · replace H := H.2 hc6
      refine S_iconst (pc := 56) dX12_needed_56 ic1 ?_
      refine S_goto (pc := 57) (tgt := 61) dX12_needed_57 rfl ?_
      refine S_iadd (pc := 61) dX12_needed_61 ?_
      refine S_namei (fun w9 e10 => ?_)
      replace H := H w9 e10
      refine S_istore_n (pc := 62) (L' := [some (.ref B), some (.int a1), some (.int w9), some (.int a3)]) dX12_needed_62 rfl (by decide) rfl ?_
      refine S_iinc (pc := 63) (v := nI 1) (L' := [some (.ref B), some (.int a1), some (.int w9), some (.int (a3 + nI 1))]) dX12_needed_63 rfl ic1 rfl ?_
      refine S_goto (pc := 66) (tgt := 4) dX12_needed_66 rfl ?_
      exact H
set_option maxHeartbeats 2000000 in
set_option maxRecDepth 4000 in
theorem VX12_has {l : Launch} {G : Gx} {d : Nat} {Q : Option Value → Hp → Prop} {sh : Sh} {fR : FRt} {B : Nat} {f : FI} {g : FL} {a1 : Int32} (hs : StM sh fR B)
    (H : ((a1 = nI 0 → inb (f B 13) 2 ∧ Q (some (.int (f (B + 2) (f B 13).toNatClampNeg))) (sh, f, g, fR)) ∧ (a1 = nI 1 → inb (f B 13) 2 ∧ Q (some (.int (f (B + 6) (f B 13).toNatClampNeg))) (sh, f, g, fR)) ∧ (a1 = nI 2 → Cl l G (d + 2) 0 0 mX12_open [.ref B] (sh, f, g, fR) (qi sh fR fun x8 f6 g7 => Q (some (.int x8)) (sh, f6, g7, fR))) ∧ (a1 = nI 3 → inb (((nI 40) * (nI 0)) + (nI 0)) 880 ∧ Q (some (.int (f (B + 23) (((nI 40) * (nI 0)) + (nI 0)).toNatClampNeg))) (sh, f, g, fR)) ∧ (a1 = nI 4 → inb (((nI 40) * (nI 0)) + (nI 1)) 880 ∧ Q (some (.int (f (B + 23) (((nI 40) * (nI 0)) + (nI 1)).toNatClampNeg))) (sh, f, g, fR)) ∧ (a1 = nI 5 → inb (((nI 40) * (nI 0)) + (nI 2)) 880 ∧ Q (some (.int (f (B + 23) (((nI 40) * (nI 0)) + (nI 2)).toNatClampNeg))) (sh, f, g, fR)) ∧ (a1 = nI 6 → inb (((nI 40) * (nI 0)) + (nI 3)) 880 ∧ Q (some (.int (f (B + 23) (((nI 40) * (nI 0)) + (nI 3)).toNatClampNeg))) (sh, f, g, fR)) ∧ (a1 = nI 7 → Cl l G (d + 2) 0 0 mX12_takenAll [.ref B, .int (nI 0)] (sh, f, g, fR) (qi sh fR fun x20 f18 g19 => Q (some (.int x20)) (sh, f18, g19, fR))) ∧ (a1 = nI 8 → inb (((nI 40) * (nI 0)) + (nI 4)) 880 ∧ Q (some (.int (f (B + 23) (((nI 40) * (nI 0)) + (nI 4)).toNatClampNeg))) (sh, f, g, fR)) ∧ (a1 = nI 9 → Cl l G (d + 2) 0 0 mX12_flying [.ref B, .int (nI 0)] (sh, f, g, fR) (qi sh fR fun x26 f24 g25 => Q (some (.int x26)) (sh, f24, g25, fR))) ∧ (a1 = nI 10 → inb (((nI 40) * (nI 0)) + (nI 8)) 880 ∧ Q (some (.int (f (B + 23) (((nI 40) * (nI 0)) + (nI 8)).toNatClampNeg))) (sh, f, g, fR)) ∧ (a1 = nI 11 → Cl l G (d + 2) 0 0 mX12_needed [.ref B, .int (nI 0)] (sh, f, g, fR) (qi sh fR fun x32 f30 g31 => Q (some (.int x32)) (sh, f30, g31, fR))) ∧ (a1 = nI 12 → inb (((nI 40) * (nI 0)) + (nI 5)) 880 ∧ Q (some (.int (f (B + 23) (((nI 40) * (nI 0)) + (nI 5)).toNatClampNeg))) (sh, f, g, fR)) ∧ (a1 = nI 13 → inb (((nI 40) * (nI 0)) + (nI 9)) 880 ∧ Q (some (.int (f (B + 23) (((nI 40) * (nI 0)) + (nI 9)).toNatClampNeg))) (sh, f, g, fR)) ∧ (a1 = nI 14 → Q (some (.int (f B 64))) (sh, f, g, fR)) ∧ (a1 = nI 15 → Q (some (.int (f B 50))) (sh, f, g, fR)) ∧ (a1 = nI 16 → Q (some (.int ((g B 51).toInt32))) (sh, f, g, fR)) ∧ ((¬ a1 = nI 0 ∧ ¬ a1 = nI 1 ∧ ¬ a1 = nI 2 ∧ ¬ a1 = nI 3 ∧ ¬ a1 = nI 4 ∧ ¬ a1 = nI 5 ∧ ¬ a1 = nI 6 ∧ ¬ a1 = nI 7 ∧ ¬ a1 = nI 8 ∧ ¬ a1 = nI 9 ∧ ¬ a1 = nI 10 ∧ ¬ a1 = nI 11 ∧ ¬ a1 = nI 12 ∧ ¬ a1 = nI 13 ∧ ¬ a1 = nI 14 ∧ ¬ a1 = nI 15 ∧ ¬ a1 = nI 16) → Q (some (.int (-1))) (sh, f, g, fR)))) :
    Cl l G (d + 3) 0 0 mX12_has [.ref B, .int a1] (sh, f, g, fR) Q := by
  refine Cl.of (L0 := [some (.ref B), some (.int a1)]) miX12_has rfl rfl ?_
  refine S_iload_n (pc := 0) dX12_has_0 rfl rfl ?_
  by_cases hc1 : a1 = nI 0
  · replace H := H.1 hc1
    refine S_tsw (pc := 1) (tgt := 84) dX12_has_1 (Or.inr ⟨by rw [hc1]; decide, by rw [hc1]; decide, _, by rw [hc1]; rfl, rfl⟩) ?_
    refine S_aload_n (pc := 84) dX12_has_84 rfl rfl ?_
    refine S_getR (pc := 85) dX12_has_85 flX12_54 (sM_0 hs) rfl (rM_14 hs) ?_
    refine S_aload_n (pc := 88) dX12_has_88 rfl rfl ?_
    refine S_get (pc := 89) (v := .int (f B 13)) dX12_has_89 flX12_51 (sM_0 hs) rfl ?_
    obtain ⟨hb2, H⟩ := H
    refine S_iald (pc := 92) dX12_has_92 (sM_2 hs) hb2 ?_
    exact S_ireturn dX12_has_93 rfl H
  · by_cases hc3 : a1 = nI 1
    · replace H := H.2.1 hc3
      refine S_tsw (pc := 1) (tgt := 94) dX12_has_1 (Or.inr ⟨by rw [hc3]; decide, by rw [hc3]; decide, _, by rw [hc3]; rfl, rfl⟩) ?_
      refine S_aload_n (pc := 94) dX12_has_94 rfl rfl ?_
      refine S_getR (pc := 95) dX12_has_95 flX12_66 (sM_0 hs) rfl (rM_18 hs) ?_
      refine S_aload_n (pc := 98) dX12_has_98 rfl rfl ?_
      refine S_get (pc := 99) (v := .int (f B 13)) dX12_has_99 flX12_51 (sM_0 hs) rfl ?_
      obtain ⟨hb4, H⟩ := H
      refine S_iald (pc := 102) dX12_has_102 (sM_6 hs) hb4 ?_
      exact S_ireturn dX12_has_103 rfl H
    · by_cases hc5 : a1 = nI 2
      · replace H := H.2.2.1 hc5
        refine S_tsw (pc := 1) (tgt := 104) dX12_has_1 (Or.inr ⟨by rw [hc5]; decide, by rw [hc5]; decide, _, by rw [hc5]; rfl, rfl⟩) ?_
        refine S_aload_n (pc := 104) dX12_has_104 rfl rfl ?_
        refine S_callV (As := []) (mc := 0) (ms := 0) (pc := 105) dX12_has_105 miX12_open mvX12_open mlX12_564 rfl (sM_0 hs) rfl rfl rfl (RmOK.of rfl) H ?_
        rintro _ _ ⟨x8, f6, g7, rfl, rfl, H⟩
        show WP _ _ _ _ _ _ _ 108 [some (.ref B), some (.int a1)] [.int x8] (sh, f6, g7, fR)
        exact S_ireturn dX12_has_108 rfl H
      · by_cases hc9 : a1 = nI 3
        · replace H := H.2.2.2.1 hc9
          refine S_tsw (pc := 1) (tgt := 109) dX12_has_1 (Or.inr ⟨by rw [hc9]; decide, by rw [hc9]; decide, _, by rw [hc9]; rfl, rfl⟩) ?_
          refine S_aload_n (pc := 109) dX12_has_109 rfl rfl ?_
          refine S_iconst (pc := 110) dX12_has_110 ic0 ?_
          refine S_iconst (pc := 111) dX12_has_111 ic0 ?_
          refine S_callV (As := [.int (nI 0), .int (nI 0)]) (mc := 0) (ms := 0) (pc := 112) dX12_has_112 miX12_n mvX12_n mlX12_402 rfl (sM_0 hs) rfl rfl rfl (RmOK.of rfl) (Q := fun r h => WP _ _ _ _ _ _ _ 115 [some (.ref B), some (.int a1)] (r.toList ++ []) h) (Cl.of miX12_n rfl rfl ?_) (fun _ _ q => q)
          refine S_aload_n (pc := 0) dX12_n_0 rfl rfl ?_
          refine S_getR (pc := 1) dX12_n_1 flX12_144 (sM_0 hs) rfl (rM_43 hs) ?_
          refine S_bipush (pc := 4) dX12_n_4 bp40 ?_
          refine S_iload_n (pc := 6) dX12_n_6 rfl rfl ?_
          refine S_imul (pc := 7) dX12_n_7 ?_
          refine S_iload_n (pc := 8) dX12_n_8 rfl rfl ?_
          refine S_iadd (pc := 9) dX12_n_9 ?_
          obtain ⟨hb10, H⟩ := H
          refine S_iald (pc := 10) dX12_n_10 (sM_23 hs) hb10 ?_
          refine S_ireturn dX12_n_11 rfl ?_
          show WP _ _ _ _ _ _ _ 115 [some (.ref B), some (.int a1)] [.int (f (B + 23) (((nI 40) * (nI 0)) + (nI 0)).toNatClampNeg)] (sh, f, g, fR)
          exact S_ireturn dX12_has_115 rfl H
        · by_cases hc11 : a1 = nI 4
          · replace H := H.2.2.2.2.1 hc11
            refine S_tsw (pc := 1) (tgt := 116) dX12_has_1 (Or.inr ⟨by rw [hc11]; decide, by rw [hc11]; decide, _, by rw [hc11]; rfl, rfl⟩) ?_
            refine S_aload_n (pc := 116) dX12_has_116 rfl rfl ?_
            refine S_iconst (pc := 117) dX12_has_117 ic0 ?_
            refine S_iconst (pc := 118) dX12_has_118 ic1 ?_
            refine S_callV (As := [.int (nI 0), .int (nI 1)]) (mc := 0) (ms := 0) (pc := 119) dX12_has_119 miX12_n mvX12_n mlX12_402 rfl (sM_0 hs) rfl rfl rfl (RmOK.of rfl) (Q := fun r h => WP _ _ _ _ _ _ _ 122 [some (.ref B), some (.int a1)] (r.toList ++ []) h) (Cl.of miX12_n rfl rfl ?_) (fun _ _ q => q)
            refine S_aload_n (pc := 0) dX12_n_0 rfl rfl ?_
            refine S_getR (pc := 1) dX12_n_1 flX12_144 (sM_0 hs) rfl (rM_43 hs) ?_
            refine S_bipush (pc := 4) dX12_n_4 bp40 ?_
            refine S_iload_n (pc := 6) dX12_n_6 rfl rfl ?_
            refine S_imul (pc := 7) dX12_n_7 ?_
            refine S_iload_n (pc := 8) dX12_n_8 rfl rfl ?_
            refine S_iadd (pc := 9) dX12_n_9 ?_
            obtain ⟨hb12, H⟩ := H
            refine S_iald (pc := 10) dX12_n_10 (sM_23 hs) hb12 ?_
            refine S_ireturn dX12_n_11 rfl ?_
            show WP _ _ _ _ _ _ _ 122 [some (.ref B), some (.int a1)] [.int (f (B + 23) (((nI 40) * (nI 0)) + (nI 1)).toNatClampNeg)] (sh, f, g, fR)
            exact S_ireturn dX12_has_122 rfl H
          · by_cases hc13 : a1 = nI 5
            · replace H := H.2.2.2.2.2.1 hc13
              refine S_tsw (pc := 1) (tgt := 123) dX12_has_1 (Or.inr ⟨by rw [hc13]; decide, by rw [hc13]; decide, _, by rw [hc13]; rfl, rfl⟩) ?_
              refine S_aload_n (pc := 123) dX12_has_123 rfl rfl ?_
              refine S_iconst (pc := 124) dX12_has_124 ic0 ?_
              refine S_iconst (pc := 125) dX12_has_125 ic2 ?_
              refine S_callV (As := [.int (nI 0), .int (nI 2)]) (mc := 0) (ms := 0) (pc := 126) dX12_has_126 miX12_n mvX12_n mlX12_402 rfl (sM_0 hs) rfl rfl rfl (RmOK.of rfl) (Q := fun r h => WP _ _ _ _ _ _ _ 129 [some (.ref B), some (.int a1)] (r.toList ++ []) h) (Cl.of miX12_n rfl rfl ?_) (fun _ _ q => q)
              refine S_aload_n (pc := 0) dX12_n_0 rfl rfl ?_
              refine S_getR (pc := 1) dX12_n_1 flX12_144 (sM_0 hs) rfl (rM_43 hs) ?_
              refine S_bipush (pc := 4) dX12_n_4 bp40 ?_
              refine S_iload_n (pc := 6) dX12_n_6 rfl rfl ?_
              refine S_imul (pc := 7) dX12_n_7 ?_
              refine S_iload_n (pc := 8) dX12_n_8 rfl rfl ?_
              refine S_iadd (pc := 9) dX12_n_9 ?_
              obtain ⟨hb14, H⟩ := H
              refine S_iald (pc := 10) dX12_n_10 (sM_23 hs) hb14 ?_
              refine S_ireturn dX12_n_11 rfl ?_
              show WP _ _ _ _ _ _ _ 129 [some (.ref B), some (.int a1)] [.int (f (B + 23) (((nI 40) * (nI 0)) + (nI 2)).toNatClampNeg)] (sh, f, g, fR)
              exact S_ireturn dX12_has_129 rfl H
            · by_cases hc15 : a1 = nI 6
              · replace H := H.2.2.2.2.2.2.1 hc15
                refine S_tsw (pc := 1) (tgt := 130) dX12_has_1 (Or.inr ⟨by rw [hc15]; decide, by rw [hc15]; decide, _, by rw [hc15]; rfl, rfl⟩) ?_
                refine S_aload_n (pc := 130) dX12_has_130 rfl rfl ?_
                refine S_iconst (pc := 131) dX12_has_131 ic0 ?_
                refine S_iconst (pc := 132) dX12_has_132 ic3 ?_
                refine S_callV (As := [.int (nI 0), .int (nI 3)]) (mc := 0) (ms := 0) (pc := 133) dX12_has_133 miX12_n mvX12_n mlX12_402 rfl (sM_0 hs) rfl rfl rfl (RmOK.of rfl) (Q := fun r h => WP _ _ _ _ _ _ _ 136 [some (.ref B), some (.int a1)] (r.toList ++ []) h) (Cl.of miX12_n rfl rfl ?_) (fun _ _ q => q)
                refine S_aload_n (pc := 0) dX12_n_0 rfl rfl ?_
                refine S_getR (pc := 1) dX12_n_1 flX12_144 (sM_0 hs) rfl (rM_43 hs) ?_
                refine S_bipush (pc := 4) dX12_n_4 bp40 ?_
                refine S_iload_n (pc := 6) dX12_n_6 rfl rfl ?_
                refine S_imul (pc := 7) dX12_n_7 ?_
                refine S_iload_n (pc := 8) dX12_n_8 rfl rfl ?_
                refine S_iadd (pc := 9) dX12_n_9 ?_
                obtain ⟨hb16, H⟩ := H
                refine S_iald (pc := 10) dX12_n_10 (sM_23 hs) hb16 ?_
                refine S_ireturn dX12_n_11 rfl ?_
                show WP _ _ _ _ _ _ _ 136 [some (.ref B), some (.int a1)] [.int (f (B + 23) (((nI 40) * (nI 0)) + (nI 3)).toNatClampNeg)] (sh, f, g, fR)
                exact S_ireturn dX12_has_136 rfl H
              · by_cases hc17 : a1 = nI 7
                · replace H := H.2.2.2.2.2.2.2.1 hc17
                  refine S_tsw (pc := 1) (tgt := 137) dX12_has_1 (Or.inr ⟨by rw [hc17]; decide, by rw [hc17]; decide, _, by rw [hc17]; rfl, rfl⟩) ?_
                  refine S_aload_n (pc := 137) dX12_has_137 rfl rfl ?_
                  refine S_iconst (pc := 138) dX12_has_138 ic0 ?_
                  refine S_callV (As := [.int (nI 0)]) (mc := 0) (ms := 0) (pc := 139) dX12_has_139 miX12_takenAll mvX12_takenAll mlX12_495 rfl (sM_0 hs) rfl rfl rfl (RmOK.of rfl) H ?_
                  rintro _ _ ⟨x20, f18, g19, rfl, rfl, H⟩
                  show WP _ _ _ _ _ _ _ 142 [some (.ref B), some (.int a1)] [.int x20] (sh, f18, g19, fR)
                  exact S_ireturn dX12_has_142 rfl H
                · by_cases hc21 : a1 = nI 8
                  · replace H := H.2.2.2.2.2.2.2.2.1 hc21
                    refine S_tsw (pc := 1) (tgt := 143) dX12_has_1 (Or.inr ⟨by rw [hc21]; decide, by rw [hc21]; decide, _, by rw [hc21]; rfl, rfl⟩) ?_
                    refine S_aload_n (pc := 143) dX12_has_143 rfl rfl ?_
                    refine S_iconst (pc := 144) dX12_has_144 ic0 ?_
                    refine S_iconst (pc := 145) dX12_has_145 ic4 ?_
                    refine S_callV (As := [.int (nI 0), .int (nI 4)]) (mc := 0) (ms := 0) (pc := 146) dX12_has_146 miX12_n mvX12_n mlX12_402 rfl (sM_0 hs) rfl rfl rfl (RmOK.of rfl) (Q := fun r h => WP _ _ _ _ _ _ _ 149 [some (.ref B), some (.int a1)] (r.toList ++ []) h) (Cl.of miX12_n rfl rfl ?_) (fun _ _ q => q)
                    refine S_aload_n (pc := 0) dX12_n_0 rfl rfl ?_
                    refine S_getR (pc := 1) dX12_n_1 flX12_144 (sM_0 hs) rfl (rM_43 hs) ?_
                    refine S_bipush (pc := 4) dX12_n_4 bp40 ?_
                    refine S_iload_n (pc := 6) dX12_n_6 rfl rfl ?_
                    refine S_imul (pc := 7) dX12_n_7 ?_
                    refine S_iload_n (pc := 8) dX12_n_8 rfl rfl ?_
                    refine S_iadd (pc := 9) dX12_n_9 ?_
                    obtain ⟨hb22, H⟩ := H
                    refine S_iald (pc := 10) dX12_n_10 (sM_23 hs) hb22 ?_
                    refine S_ireturn dX12_n_11 rfl ?_
                    show WP _ _ _ _ _ _ _ 149 [some (.ref B), some (.int a1)] [.int (f (B + 23) (((nI 40) * (nI 0)) + (nI 4)).toNatClampNeg)] (sh, f, g, fR)
                    exact S_ireturn dX12_has_149 rfl H
                  · by_cases hc23 : a1 = nI 9
                    · replace H := H.2.2.2.2.2.2.2.2.2.1 hc23
                      refine S_tsw (pc := 1) (tgt := 150) dX12_has_1 (Or.inr ⟨by rw [hc23]; decide, by rw [hc23]; decide, _, by rw [hc23]; rfl, rfl⟩) ?_
                      refine S_aload_n (pc := 150) dX12_has_150 rfl rfl ?_
                      refine S_iconst (pc := 151) dX12_has_151 ic0 ?_
                      refine S_callV (As := [.int (nI 0)]) (mc := 0) (ms := 0) (pc := 152) dX12_has_152 miX12_flying mvX12_flying mlX12_567 rfl (sM_0 hs) rfl rfl rfl (RmOK.of rfl) H ?_
                      rintro _ _ ⟨x26, f24, g25, rfl, rfl, H⟩
                      show WP _ _ _ _ _ _ _ 155 [some (.ref B), some (.int a1)] [.int x26] (sh, f24, g25, fR)
                      exact S_ireturn dX12_has_155 rfl H
                    · by_cases hc27 : a1 = nI 10
                      · replace H := H.2.2.2.2.2.2.2.2.2.2.1 hc27
                        refine S_tsw (pc := 1) (tgt := 156) dX12_has_1 (Or.inr ⟨by rw [hc27]; decide, by rw [hc27]; decide, _, by rw [hc27]; rfl, rfl⟩) ?_
                        refine S_aload_n (pc := 156) dX12_has_156 rfl rfl ?_
                        refine S_iconst (pc := 157) dX12_has_157 ic0 ?_
                        refine S_bipush (pc := 158) dX12_has_158 bp8 ?_
                        refine S_callV (As := [.int (nI 0), .int (nI 8)]) (mc := 0) (ms := 0) (pc := 160) dX12_has_160 miX12_n mvX12_n mlX12_402 rfl (sM_0 hs) rfl rfl rfl (RmOK.of rfl) (Q := fun r h => WP _ _ _ _ _ _ _ 163 [some (.ref B), some (.int a1)] (r.toList ++ []) h) (Cl.of miX12_n rfl rfl ?_) (fun _ _ q => q)
                        refine S_aload_n (pc := 0) dX12_n_0 rfl rfl ?_
                        refine S_getR (pc := 1) dX12_n_1 flX12_144 (sM_0 hs) rfl (rM_43 hs) ?_
                        refine S_bipush (pc := 4) dX12_n_4 bp40 ?_
                        refine S_iload_n (pc := 6) dX12_n_6 rfl rfl ?_
                        refine S_imul (pc := 7) dX12_n_7 ?_
                        refine S_iload_n (pc := 8) dX12_n_8 rfl rfl ?_
                        refine S_iadd (pc := 9) dX12_n_9 ?_
                        obtain ⟨hb28, H⟩ := H
                        refine S_iald (pc := 10) dX12_n_10 (sM_23 hs) hb28 ?_
                        refine S_ireturn dX12_n_11 rfl ?_
                        show WP _ _ _ _ _ _ _ 163 [some (.ref B), some (.int a1)] [.int (f (B + 23) (((nI 40) * (nI 0)) + (nI 8)).toNatClampNeg)] (sh, f, g, fR)
                        exact S_ireturn dX12_has_163 rfl H
                      · by_cases hc29 : a1 = nI 11
                        · replace H := H.2.2.2.2.2.2.2.2.2.2.2.1 hc29
                          refine S_tsw (pc := 1) (tgt := 164) dX12_has_1 (Or.inr ⟨by rw [hc29]; decide, by rw [hc29]; decide, _, by rw [hc29]; rfl, rfl⟩) ?_
                          refine S_aload_n (pc := 164) dX12_has_164 rfl rfl ?_
                          refine S_iconst (pc := 165) dX12_has_165 ic0 ?_
                          refine S_callV (As := [.int (nI 0)]) (mc := 0) (ms := 0) (pc := 166) dX12_has_166 miX12_needed mvX12_needed mlX12_570 rfl (sM_0 hs) rfl rfl rfl (RmOK.of rfl) H ?_
                          rintro _ _ ⟨x32, f30, g31, rfl, rfl, H⟩
                          show WP _ _ _ _ _ _ _ 169 [some (.ref B), some (.int a1)] [.int x32] (sh, f30, g31, fR)
                          exact S_ireturn dX12_has_169 rfl H
                        · by_cases hc33 : a1 = nI 12
                          · replace H := H.2.2.2.2.2.2.2.2.2.2.2.2.1 hc33
                            refine S_tsw (pc := 1) (tgt := 170) dX12_has_1 (Or.inr ⟨by rw [hc33]; decide, by rw [hc33]; decide, _, by rw [hc33]; rfl, rfl⟩) ?_
                            refine S_aload_n (pc := 170) dX12_has_170 rfl rfl ?_
                            refine S_iconst (pc := 171) dX12_has_171 ic0 ?_
                            refine S_iconst (pc := 172) dX12_has_172 ic5 ?_
                            refine S_callV (As := [.int (nI 0), .int (nI 5)]) (mc := 0) (ms := 0) (pc := 173) dX12_has_173 miX12_n mvX12_n mlX12_402 rfl (sM_0 hs) rfl rfl rfl (RmOK.of rfl) (Q := fun r h => WP _ _ _ _ _ _ _ 176 [some (.ref B), some (.int a1)] (r.toList ++ []) h) (Cl.of miX12_n rfl rfl ?_) (fun _ _ q => q)
                            refine S_aload_n (pc := 0) dX12_n_0 rfl rfl ?_
                            refine S_getR (pc := 1) dX12_n_1 flX12_144 (sM_0 hs) rfl (rM_43 hs) ?_
                            refine S_bipush (pc := 4) dX12_n_4 bp40 ?_
                            refine S_iload_n (pc := 6) dX12_n_6 rfl rfl ?_
                            refine S_imul (pc := 7) dX12_n_7 ?_
                            refine S_iload_n (pc := 8) dX12_n_8 rfl rfl ?_
                            refine S_iadd (pc := 9) dX12_n_9 ?_
                            obtain ⟨hb34, H⟩ := H
                            refine S_iald (pc := 10) dX12_n_10 (sM_23 hs) hb34 ?_
                            refine S_ireturn dX12_n_11 rfl ?_
                            show WP _ _ _ _ _ _ _ 176 [some (.ref B), some (.int a1)] [.int (f (B + 23) (((nI 40) * (nI 0)) + (nI 5)).toNatClampNeg)] (sh, f, g, fR)
                            exact S_ireturn dX12_has_176 rfl H
                          · by_cases hc35 : a1 = nI 13
                            · replace H := H.2.2.2.2.2.2.2.2.2.2.2.2.2.1 hc35
                              refine S_tsw (pc := 1) (tgt := 177) dX12_has_1 (Or.inr ⟨by rw [hc35]; decide, by rw [hc35]; decide, _, by rw [hc35]; rfl, rfl⟩) ?_
                              refine S_aload_n (pc := 177) dX12_has_177 rfl rfl ?_
                              refine S_iconst (pc := 178) dX12_has_178 ic0 ?_
                              refine S_bipush (pc := 179) dX12_has_179 bp9 ?_
                              refine S_callV (As := [.int (nI 0), .int (nI 9)]) (mc := 0) (ms := 0) (pc := 181) dX12_has_181 miX12_n mvX12_n mlX12_402 rfl (sM_0 hs) rfl rfl rfl (RmOK.of rfl) (Q := fun r h => WP _ _ _ _ _ _ _ 184 [some (.ref B), some (.int a1)] (r.toList ++ []) h) (Cl.of miX12_n rfl rfl ?_) (fun _ _ q => q)
                              refine S_aload_n (pc := 0) dX12_n_0 rfl rfl ?_
                              refine S_getR (pc := 1) dX12_n_1 flX12_144 (sM_0 hs) rfl (rM_43 hs) ?_
                              refine S_bipush (pc := 4) dX12_n_4 bp40 ?_
                              refine S_iload_n (pc := 6) dX12_n_6 rfl rfl ?_
                              refine S_imul (pc := 7) dX12_n_7 ?_
                              refine S_iload_n (pc := 8) dX12_n_8 rfl rfl ?_
                              refine S_iadd (pc := 9) dX12_n_9 ?_
                              obtain ⟨hb36, H⟩ := H
                              refine S_iald (pc := 10) dX12_n_10 (sM_23 hs) hb36 ?_
                              refine S_ireturn dX12_n_11 rfl ?_
                              show WP _ _ _ _ _ _ _ 184 [some (.ref B), some (.int a1)] [.int (f (B + 23) (((nI 40) * (nI 0)) + (nI 9)).toNatClampNeg)] (sh, f, g, fR)
                              exact S_ireturn dX12_has_184 rfl H
                            · by_cases hc37 : a1 = nI 14
                              · replace H := H.2.2.2.2.2.2.2.2.2.2.2.2.2.2.1 hc37
                                refine S_tsw (pc := 1) (tgt := 185) dX12_has_1 (Or.inr ⟨by rw [hc37]; decide, by rw [hc37]; decide, _, by rw [hc37]; rfl, rfl⟩) ?_
                                refine S_aload_n (pc := 185) dX12_has_185 rfl rfl ?_
                                refine S_get (pc := 186) (v := .int (f B 64)) dX12_has_186 flX12_209 (sM_0 hs) rfl ?_
                                exact S_ireturn dX12_has_189 rfl H
                              · by_cases hc38 : a1 = nI 15
                                · replace H := H.2.2.2.2.2.2.2.2.2.2.2.2.2.2.2.1 hc38
                                  refine S_tsw (pc := 1) (tgt := 190) dX12_has_1 (Or.inr ⟨by rw [hc38]; decide, by rw [hc38]; decide, _, by rw [hc38]; rfl, rfl⟩) ?_
                                  refine S_aload_n (pc := 190) dX12_has_190 rfl rfl ?_
                                  refine S_get (pc := 191) (v := .int (f B 50)) dX12_has_191 flX12_167 (sM_0 hs) rfl ?_
                                  exact S_ireturn dX12_has_194 rfl H
                                · by_cases hc39 : a1 = nI 16
                                  · replace H := H.2.2.2.2.2.2.2.2.2.2.2.2.2.2.2.2.1 hc39
                                    refine S_tsw (pc := 1) (tgt := 195) dX12_has_1 (Or.inr ⟨by rw [hc39]; decide, by rw [hc39]; decide, _, by rw [hc39]; rfl, rfl⟩) ?_
                                    refine S_aload_n (pc := 195) dX12_has_195 rfl rfl ?_
                                    refine S_get (pc := 196) (v := .long (g B 51)) dX12_has_196 flX12_170 (sM_0 hs) rfl ?_
                                    refine S_l2i (pc := 199) dX12_has_199 ?_
                                    exact S_ireturn dX12_has_200 rfl H
                                  · replace H := H.2.2.2.2.2.2.2.2.2.2.2.2.2.2.2.2.2 ⟨hc1, hc3, hc5, hc9, hc11, hc13, hc15, hc17, hc21, hc23, hc27, hc29, hc33, hc35, hc37, hc38, hc39⟩
                                    refine S_tsw (pc := 1) (tgt := 201) dX12_has_1 (Or.inl ⟨tsw_out (lo := 0) (hi := 16) (fun j h1 h2 => by rcases (show j = 0 ∨ j = 1 ∨ j = 2 ∨ j = 3 ∨ j = 4 ∨ j = 5 ∨ j = 6 ∨ j = 7 ∨ j = 8 ∨ j = 9 ∨ j = 10 ∨ j = 11 ∨ j = 12 ∨ j = 13 ∨ j = 14 ∨ j = 15 ∨ j = 16 by omega) with rfl | rfl | rfl | rfl | rfl | rfl | rfl | rfl | rfl | rfl | rfl | rfl | rfl | rfl | rfl | rfl | rfl <;> assumption), rfl⟩) ?_
                                    refine S_iconst (pc := 201) dX12_has_201 icm1 ?_
                                    exact S_ireturn dX12_has_202 rfl H
abbrev LpX12_letter_39 (l : Launch) (G : Gx) (d : Nat) (Q : Option Value → Hp → Prop) (sh : Sh) (fR : FRt) (B : Nat) (f : FI) (g : FL) (a2 : Int32) (b3 : Int64) (a5 : Int32) (b6 : Int64) : Prop := WP l G (Zq G 0 0 Q) mX12_letter (rmd (d + 1) 0 0) 0 0 39 [none, none, some (.int a2), some (.long b3), none, some (.int a5), some (.long b6), none] [] (sh, f, g, fR)
set_option maxHeartbeats 2000000 in
set_option maxRecDepth 4000 in
theorem VX12_letter {l : Launch} {G : Gx} {d : Nat} {Q : Option Value → Hp → Prop} {sh : Sh} {fR : FRt} {B : Nat} {f : FI} {g : FL} {a1 : Int32} {a2 : Int32} (hs : StM sh fR B)
    (H : Cl l G d 0 0 mX12_isPath [.ref B, .int a1] (sh, f, g, fR) (qi sh fR fun x3 f1 g2 => ((x3 = 0 → Q (some (.int (-1))) (sh, f1, g2, fR)) ∧ (¬ x3 = 0 → Cl l G d 0 0 mX12_is [.int a2, .int (nI 0), .int (nI 5)] (sh, f1, g2, fR) (qi sh fR fun x7 f5 g6 => ((¬ x7 = 0 → inb (((nI 4) * (f5 B 13)) + a1) 8 ∧ (∀ z10 : Int64, z10 = g6 (B + 15) (((nI 4) * (f5 B 13)) + a1).toNatClampNeg → LpX12_letter_39 l G d Q sh fR B f5 g6 a2 z10 (nI 0) z10)) ∧ (x7 = 0 → Q (some (.int (-1))) (sh, f5, g6, fR)))))))) :
    Cl l G (d + 1) 0 0 mX12_letter [.ref B, .int a1, .int a2] (sh, f, g, fR) Q := by
  refine Cl.of (L0 := [some (.ref B), some (.int a1), some (.int a2), none, none, none, none, none]) miX12_letter rfl rfl ?_
  refine S_aload_n (pc := 0) dX12_letter_0 rfl rfl ?_
  refine S_iload_n (pc := 1) dX12_letter_1 rfl rfl ?_
  refine S_callV (As := [.int a1]) (mc := 0) (ms := 0) (pc := 2) dX12_letter_2 miX12_isPath mvX12_isPath mlX12_573 rfl (sM_0 hs) rfl rfl rfl (RmOK.of rfl) H ?_
  rintro _ _ ⟨x3, f1, g2, rfl, rfl, H⟩
  show WP _ _ _ _ _ _ _ 5 [some (.ref B), some (.int a1), some (.int a2), none, none, none, none, none] [.int x3] (sh, f1, g2, fR)
  refine S_if_eq (pc := 5) (tgt := 17) dX12_letter_5 rfl (fun hc4 => ?_) (fun hc4 => ?_)
  · replace H := H.1 hc4
    refine S_iconst (pc := 17) dX12_letter_17 icm1 ?_
    exact S_ireturn dX12_letter_18 rfl H
  · replace H := H.2 hc4
    refine S_iload_n (pc := 8) dX12_letter_8 rfl rfl ?_
    refine S_iconst (pc := 9) dX12_letter_9 ic0 ?_
    refine S_iconst (pc := 10) dX12_letter_10 ic5 ?_
    refine S_callS (As := [.int a2, .int (nI 0), .int (nI 5)]) (mc := 0) (ms := 0) (pc := 11) dX12_letter_11 miX12_is mvX12_is mlX12_310 rfl rfl (RmOK.of rfl) H ?_
    rintro _ _ ⟨x7, f5, g6, rfl, rfl, H⟩
    show WP _ _ _ _ _ _ _ 14 [some (.ref B), some (.int a1), some (.int a2), none, none, none, none, none] [.int x7] (sh, f5, g6, fR)
    refine S_if_ne (pc := 14) (tgt := 19) dX12_letter_14 rfl (fun hc8 => ?_) (fun hc8 => ?_)
    · replace H := H.1 hc8
      refine S_aload_n (pc := 19) dX12_letter_19 rfl rfl ?_
      refine S_getR (pc := 20) dX12_letter_20 flX12_93 (sM_0 hs) rfl (rM_27 hs) ?_
      refine S_iconst (pc := 23) dX12_letter_23 ic4 ?_
      refine S_aload_n (pc := 24) dX12_letter_24 rfl rfl ?_
      refine S_get (pc := 25) (v := .int (f5 B 13)) dX12_letter_25 flX12_51 (sM_0 hs) rfl ?_
      refine S_imul (pc := 28) dX12_letter_28 ?_
      refine S_iload_n (pc := 29) dX12_letter_29 rfl rfl ?_
      refine S_iadd (pc := 30) dX12_letter_30 ?_
      obtain ⟨hb9, H⟩ := H
      refine S_lald (pc := 31) dX12_letter_31 (sM_15 hs) hb9 ?_
      refine S_namel (fun z10 e11 => ?_)
      replace H := H z10 e11
      refine S_lstore_n (pc := 32) (L' := [some (.ref B), some (.int a1), some (.int a2), some (.long z10), none, none, none, none]) dX12_letter_32 rfl (by decide) rfl ?_
      refine S_iconst (pc := 33) dX12_letter_33 ic0 ?_
      refine S_istore (pc := 34) (L' := [some (.ref B), some (.int a1), some (.int a2), some (.long z10), none, some (.int (nI 0)), none, none]) dX12_letter_34 (by decide) rfl ?_
      refine S_lload_n (pc := 36) dX12_letter_36 rfl rfl ?_
      refine S_lstore (pc := 37) (L' := [some (.ref B), some (.int a1), some (.int a2), some (.long z10), none, some (.int (nI 0)), some (.long z10), none]) dX12_letter_37 (by decide) rfl ?_
      exact S_weak (L' := [none, none, some (.int a2), some (.long z10), none, some (.int (nI 0)), some (.long z10), none]) (ls_n (ls_n (ls_e (ls_e (ls_e (ls_e (ls_e (ls_e ls_0)))))))) H
    · replace H := H.2 hc8
      refine S_iconst (pc := 17) dX12_letter_17 icm1 ?_
      exact S_ireturn dX12_letter_18 rfl H
set_option maxHeartbeats 2000000 in
set_option maxRecDepth 4000 in
theorem VX12_letter_39 {l : Launch} {G : Gx} {d : Nat} {Q : Option Value → Hp → Prop} {sh : Sh} {fR : FRt} {B : Nat} {f : FI} {g : FL} {a2 : Int32} {b3 : Int64} {a5 : Int32} {b6 : Int64} (hs : StM sh fR B)
    (H : ((b6 ≤ (lN 0) → ((a2 < a5 → Q (some (.int (((((b3 >>> (((nI 8) * ((a5 - (nI 1)) - a2)).toInt64 &&& 63)) &&& (lN 255)).toInt32) - (nI 97)) + (nI 1)))) (sh, f, g, fR)) ∧ (¬ a2 < a5 → Q (some (.int (nI 0))) (sh, f, g, fR)))) ∧ (¬ b6 ≤ (lN 0) → (∀ z14 : Int64, z14 = b6 >>> ((nI 8).toInt64 &&& 63) → LpX12_letter_39 l G d Q sh fR B f g a2 b3 (a5 + nI 1) z14)))) :
    LpX12_letter_39 l G d Q sh fR B f g a2 b3 a5 b6 := by
  refine S_lload (pc := 39) dX12_letter_39 rfl ?_
  refine S_lconst (pc := 41) dX12_letter_41 lc0 ?_
  refine S_lcmp_le (pc := 42) (tgt := 59) dX12_letter_42 dX12_letter_43 rfl (fun hc12 => ?_) (fun hc12 => ?_)
  · replace H := H.1 hc12
    refine S_iload_n (pc := 59) dX12_letter_59 rfl rfl ?_
    refine S_iload (pc := 60) dX12_letter_60 rfl ?_
    refine S_icmp_lt (pc := 62) (tgt := 69) dX12_letter_62 rfl (fun hc13 => ?_) (fun hc13 => ?_)
    · replace H := H.1 hc13
      refine S_lload_n (pc := 69) dX12_letter_69 rfl rfl ?_
      refine S_bipush (pc := 70) dX12_letter_70 bp8 ?_
      refine S_iload (pc := 72) dX12_letter_72 rfl ?_
      refine S_iconst (pc := 74) dX12_letter_74 ic1 ?_
      refine S_isub (pc := 75) dX12_letter_75 ?_
      refine S_iload_n (pc := 76) dX12_letter_76 rfl rfl ?_
      refine S_isub (pc := 77) dX12_letter_77 ?_
      refine S_imul (pc := 78) dX12_letter_78 ?_
      refine S_lshr (pc := 79) dX12_letter_79 ?_
      refine S_ldc2 (pc := 80) (v := lN 255) dX12_letter_80 (gw 1640 rfl rfl) ?_
      refine S_land (pc := 83) dX12_letter_83 ?_
      refine S_l2i (pc := 84) dX12_letter_84 ?_
      refine S_bipush (pc := 85) dX12_letter_85 bp97 ?_
      refine S_isub (pc := 87) dX12_letter_87 ?_
      refine S_iconst (pc := 88) dX12_letter_88 ic1 ?_
      refine S_iadd (pc := 89) dX12_letter_89 ?_
      exact S_ireturn dX12_letter_90 rfl H
    · replace H := H.2 hc13
      refine S_iconst (pc := 65) dX12_letter_65 ic0 ?_
      refine S_goto (pc := 66) (tgt := 90) dX12_letter_66 rfl ?_
      exact S_ireturn dX12_letter_90 rfl H
  · replace H := H.2 hc12
    refine S_iinc (pc := 46) (v := nI 1) (L' := [none, none, some (.int a2), some (.long b3), none, some (.int (a5 + nI 1)), some (.long b6), none]) dX12_letter_46 rfl ic1 rfl ?_
    refine S_lload (pc := 49) dX12_letter_49 rfl ?_
    refine S_bipush (pc := 51) dX12_letter_51 bp8 ?_
    refine S_lshr (pc := 53) dX12_letter_53 ?_
    refine S_namel (fun z14 e15 => ?_)
    replace H := H z14 e15
    refine S_lstore (pc := 54) (L' := [none, none, some (.int a2), some (.long b3), none, some (.int (a5 + nI 1)), some (.long z14), none]) dX12_letter_54 (by decide) rfl ?_
    refine S_goto (pc := 56) (tgt := 39) dX12_letter_56 rfl ?_
    exact H
set_option maxHeartbeats 2000000 in
set_option maxRecDepth 4000 in
theorem VX12_path {l : Launch} {G : Gx} {d : Nat} {Q : Option Value → Hp → Prop} {sh : Sh} {fR : FRt} {B : Nat} {f : FI} {g : FL} {a1 : Int32} {a2 : Int32} (hs : StM sh fR B)
    (H : Cl l G (d + 3) 0 0 mX12_isPath [.ref B, .int a1] (sh, f, g, fR) (qi sh fR fun x3 f1 g2 => ((¬ x3 = 0 → ((a2 = nI 0 → inb (((nI 4) * (f1 B 13)) + a1) 8 ∧ Q (some (.int (f1 (B + 7) (((nI 4) * (f1 B 13)) + a1).toNatClampNeg))) (sh, f1, g2, fR)) ∧ (a2 = nI 1 → inb (((((nI 40) * (nI 0)) + (nI 14)) + ((nI 6) * a1)) + (nI 0)) 880 ∧ Q (some (.int (f1 (B + 23) (((((nI 40) * (nI 0)) + (nI 14)) + ((nI 6) * a1)) + (nI 0)).toNatClampNeg))) (sh, f1, g2, fR)) ∧ (a2 = nI 2 → inb (((((nI 40) * (nI 0)) + (nI 14)) + ((nI 6) * a1)) + (nI 1)) 880 ∧ Q (some (.int (f1 (B + 23) (((((nI 40) * (nI 0)) + (nI 14)) + ((nI 6) * a1)) + (nI 1)).toNatClampNeg))) (sh, f1, g2, fR)) ∧ (a2 = nI 3 → inb (((((nI 40) * (nI 0)) + (nI 14)) + ((nI 6) * a1)) + (nI 2)) 880 ∧ Q (some (.int (f1 (B + 23) (((((nI 40) * (nI 0)) + (nI 14)) + ((nI 6) * a1)) + (nI 2)).toNatClampNeg))) (sh, f1, g2, fR)) ∧ (a2 = nI 4 → inb (((((nI 40) * (nI 0)) + (nI 14)) + ((nI 6) * a1)) + (nI 3)) 880 ∧ Q (some (.int (f1 (B + 23) (((((nI 40) * (nI 0)) + (nI 14)) + ((nI 6) * a1)) + (nI 3)).toNatClampNeg))) (sh, f1, g2, fR)) ∧ (a2 = nI 5 → Cl l G (d + 3) 0 0 mX12_flyingOn [.ref B, .int (nI 0), .int a1] (sh, f1, g2, fR) (qi sh fR fun x18 f16 g17 => Q (some (.int x18)) (sh, f16, g17, fR))) ∧ (a2 = nI 6 → inb (((((nI 40) * (nI 0)) + (nI 14)) + ((nI 6) * a1)) + (nI 4)) 880 ∧ Q (some (.int (f1 (B + 23) (((((nI 40) * (nI 0)) + (nI 14)) + ((nI 6) * a1)) + (nI 4)).toNatClampNeg))) (sh, f1, g2, fR)) ∧ (a2 = nI 7 → inb (((((nI 40) * (nI 0)) + (nI 14)) + ((nI 6) * a1)) + (nI 5)) 880 ∧ Q (some (.int (f1 (B + 23) (((((nI 40) * (nI 0)) + (nI 14)) + ((nI 6) * a1)) + (nI 5)).toNatClampNeg))) (sh, f1, g2, fR)) ∧ (a2 = nI 8 → Cl l G (d + 3) 0 0 mX12_waitOf [.ref B, .int (nI 0), .int a1] (sh, f1, g2, fR) (qi sh fR fun x26 f24 g25 => Q (some (.int x26)) (sh, f24, g25, fR))) ∧ ((¬ a2 = nI 0 ∧ ¬ a2 = nI 1 ∧ ¬ a2 = nI 2 ∧ ¬ a2 = nI 3 ∧ ¬ a2 = nI 4 ∧ ¬ a2 = nI 5 ∧ ¬ a2 = nI 6 ∧ ¬ a2 = nI 7 ∧ ¬ a2 = nI 8) → Q (some (.int (-1))) (sh, f1, g2, fR)))) ∧ (x3 = 0 → Q (some (.int (-1))) (sh, f1, g2, fR))))) :
    Cl l G (d + 4) 0 0 mX12_path [.ref B, .int a1, .int a2] (sh, f, g, fR) Q := by
  refine Cl.of (L0 := [some (.ref B), some (.int a1), some (.int a2)]) miX12_path rfl rfl ?_
  refine S_aload_n (pc := 0) dX12_path_0 rfl rfl ?_
  refine S_iload_n (pc := 1) dX12_path_1 rfl rfl ?_
  refine S_callV (As := [.int a1]) (mc := 0) (ms := 0) (pc := 2) dX12_path_2 miX12_isPath mvX12_isPath mlX12_573 rfl (sM_0 hs) rfl rfl rfl (RmOK.of rfl) H ?_
  rintro _ _ ⟨x3, f1, g2, rfl, rfl, H⟩
  show WP _ _ _ _ _ _ _ 5 [some (.ref B), some (.int a1), some (.int a2)] [.int x3] (sh, f1, g2, fR)
  refine S_if_ne (pc := 5) (tgt := 10) dX12_path_5 rfl (fun hc4 => ?_) (fun hc4 => ?_)
  · replace H := H.1 hc4
    refine S_iload_n (pc := 10) dX12_path_10 rfl rfl ?_
    by_cases hc5 : a2 = nI 0
    · replace H := H.1 hc5
      refine S_tsw (pc := 11) (tgt := 60) dX12_path_11 (Or.inr ⟨by rw [hc5]; decide, by rw [hc5]; decide, _, by rw [hc5]; rfl, rfl⟩) ?_
      refine S_aload_n (pc := 60) dX12_path_60 rfl rfl ?_
      refine S_getR (pc := 61) dX12_path_61 flX12_69 (sM_0 hs) rfl (rM_19 hs) ?_
      refine S_iconst (pc := 64) dX12_path_64 ic4 ?_
      refine S_aload_n (pc := 65) dX12_path_65 rfl rfl ?_
      refine S_get (pc := 66) (v := .int (f1 B 13)) dX12_path_66 flX12_51 (sM_0 hs) rfl ?_
      refine S_imul (pc := 69) dX12_path_69 ?_
      refine S_iload_n (pc := 70) dX12_path_70 rfl rfl ?_
      refine S_iadd (pc := 71) dX12_path_71 ?_
      obtain ⟨hb6, H⟩ := H
      refine S_iald (pc := 72) dX12_path_72 (sM_7 hs) hb6 ?_
      exact S_ireturn dX12_path_73 rfl H
    · by_cases hc7 : a2 = nI 1
      · replace H := H.2.1 hc7
        refine S_tsw (pc := 11) (tgt := 74) dX12_path_11 (Or.inr ⟨by rw [hc7]; decide, by rw [hc7]; decide, _, by rw [hc7]; rfl, rfl⟩) ?_
        refine S_aload_n (pc := 74) dX12_path_74 rfl rfl ?_
        refine S_iconst (pc := 75) dX12_path_75 ic0 ?_
        refine S_iload_n (pc := 76) dX12_path_76 rfl rfl ?_
        refine S_iconst (pc := 77) dX12_path_77 ic0 ?_
        refine S_callV (As := [.int (nI 0), .int a1, .int (nI 0)]) (mc := 0) (ms := 0) (pc := 78) dX12_path_78 miX12_p mvX12_p mlX12_438 rfl (sM_0 hs) rfl rfl rfl (RmOK.of rfl) (Q := fun r h => WP _ _ _ _ _ _ _ 81 [some (.ref B), some (.int a1), some (.int a2)] (r.toList ++ []) h) (Cl.of miX12_p rfl rfl ?_) (fun _ _ q => q)
        refine S_aload_n (pc := 0) dX12_p_0 rfl rfl ?_
        refine S_getR (pc := 1) dX12_p_1 flX12_144 (sM_0 hs) rfl (rM_43 hs) ?_
        refine S_bipush (pc := 4) dX12_p_4 bp40 ?_
        refine S_iload_n (pc := 6) dX12_p_6 rfl rfl ?_
        refine S_imul (pc := 7) dX12_p_7 ?_
        refine S_bipush (pc := 8) dX12_p_8 bp14 ?_
        refine S_iadd (pc := 10) dX12_p_10 ?_
        refine S_bipush (pc := 11) dX12_p_11 bp6 ?_
        refine S_iload_n (pc := 13) dX12_p_13 rfl rfl ?_
        refine S_imul (pc := 14) dX12_p_14 ?_
        refine S_iadd (pc := 15) dX12_p_15 ?_
        refine S_iload_n (pc := 16) dX12_p_16 rfl rfl ?_
        refine S_iadd (pc := 17) dX12_p_17 ?_
        obtain ⟨hb8, H⟩ := H
        refine S_iald (pc := 18) dX12_p_18 (sM_23 hs) hb8 ?_
        refine S_ireturn dX12_p_19 rfl ?_
        show WP _ _ _ _ _ _ _ 81 [some (.ref B), some (.int a1), some (.int a2)] [.int (f1 (B + 23) (((((nI 40) * (nI 0)) + (nI 14)) + ((nI 6) * a1)) + (nI 0)).toNatClampNeg)] (sh, f1, g2, fR)
        exact S_ireturn dX12_path_81 rfl H
      · by_cases hc9 : a2 = nI 2
        · replace H := H.2.2.1 hc9
          refine S_tsw (pc := 11) (tgt := 82) dX12_path_11 (Or.inr ⟨by rw [hc9]; decide, by rw [hc9]; decide, _, by rw [hc9]; rfl, rfl⟩) ?_
          refine S_aload_n (pc := 82) dX12_path_82 rfl rfl ?_
          refine S_iconst (pc := 83) dX12_path_83 ic0 ?_
          refine S_iload_n (pc := 84) dX12_path_84 rfl rfl ?_
          refine S_iconst (pc := 85) dX12_path_85 ic1 ?_
          refine S_callV (As := [.int (nI 0), .int a1, .int (nI 1)]) (mc := 0) (ms := 0) (pc := 86) dX12_path_86 miX12_p mvX12_p mlX12_438 rfl (sM_0 hs) rfl rfl rfl (RmOK.of rfl) (Q := fun r h => WP _ _ _ _ _ _ _ 89 [some (.ref B), some (.int a1), some (.int a2)] (r.toList ++ []) h) (Cl.of miX12_p rfl rfl ?_) (fun _ _ q => q)
          refine S_aload_n (pc := 0) dX12_p_0 rfl rfl ?_
          refine S_getR (pc := 1) dX12_p_1 flX12_144 (sM_0 hs) rfl (rM_43 hs) ?_
          refine S_bipush (pc := 4) dX12_p_4 bp40 ?_
          refine S_iload_n (pc := 6) dX12_p_6 rfl rfl ?_
          refine S_imul (pc := 7) dX12_p_7 ?_
          refine S_bipush (pc := 8) dX12_p_8 bp14 ?_
          refine S_iadd (pc := 10) dX12_p_10 ?_
          refine S_bipush (pc := 11) dX12_p_11 bp6 ?_
          refine S_iload_n (pc := 13) dX12_p_13 rfl rfl ?_
          refine S_imul (pc := 14) dX12_p_14 ?_
          refine S_iadd (pc := 15) dX12_p_15 ?_
          refine S_iload_n (pc := 16) dX12_p_16 rfl rfl ?_
          refine S_iadd (pc := 17) dX12_p_17 ?_
          obtain ⟨hb10, H⟩ := H
          refine S_iald (pc := 18) dX12_p_18 (sM_23 hs) hb10 ?_
          refine S_ireturn dX12_p_19 rfl ?_
          show WP _ _ _ _ _ _ _ 89 [some (.ref B), some (.int a1), some (.int a2)] [.int (f1 (B + 23) (((((nI 40) * (nI 0)) + (nI 14)) + ((nI 6) * a1)) + (nI 1)).toNatClampNeg)] (sh, f1, g2, fR)
          exact S_ireturn dX12_path_89 rfl H
        · by_cases hc11 : a2 = nI 3
          · replace H := H.2.2.2.1 hc11
            refine S_tsw (pc := 11) (tgt := 90) dX12_path_11 (Or.inr ⟨by rw [hc11]; decide, by rw [hc11]; decide, _, by rw [hc11]; rfl, rfl⟩) ?_
            refine S_aload_n (pc := 90) dX12_path_90 rfl rfl ?_
            refine S_iconst (pc := 91) dX12_path_91 ic0 ?_
            refine S_iload_n (pc := 92) dX12_path_92 rfl rfl ?_
            refine S_iconst (pc := 93) dX12_path_93 ic2 ?_
            refine S_callV (As := [.int (nI 0), .int a1, .int (nI 2)]) (mc := 0) (ms := 0) (pc := 94) dX12_path_94 miX12_p mvX12_p mlX12_438 rfl (sM_0 hs) rfl rfl rfl (RmOK.of rfl) (Q := fun r h => WP _ _ _ _ _ _ _ 97 [some (.ref B), some (.int a1), some (.int a2)] (r.toList ++ []) h) (Cl.of miX12_p rfl rfl ?_) (fun _ _ q => q)
            refine S_aload_n (pc := 0) dX12_p_0 rfl rfl ?_
            refine S_getR (pc := 1) dX12_p_1 flX12_144 (sM_0 hs) rfl (rM_43 hs) ?_
            refine S_bipush (pc := 4) dX12_p_4 bp40 ?_
            refine S_iload_n (pc := 6) dX12_p_6 rfl rfl ?_
            refine S_imul (pc := 7) dX12_p_7 ?_
            refine S_bipush (pc := 8) dX12_p_8 bp14 ?_
            refine S_iadd (pc := 10) dX12_p_10 ?_
            refine S_bipush (pc := 11) dX12_p_11 bp6 ?_
            refine S_iload_n (pc := 13) dX12_p_13 rfl rfl ?_
            refine S_imul (pc := 14) dX12_p_14 ?_
            refine S_iadd (pc := 15) dX12_p_15 ?_
            refine S_iload_n (pc := 16) dX12_p_16 rfl rfl ?_
            refine S_iadd (pc := 17) dX12_p_17 ?_
            obtain ⟨hb12, H⟩ := H
            refine S_iald (pc := 18) dX12_p_18 (sM_23 hs) hb12 ?_
            refine S_ireturn dX12_p_19 rfl ?_
            show WP _ _ _ _ _ _ _ 97 [some (.ref B), some (.int a1), some (.int a2)] [.int (f1 (B + 23) (((((nI 40) * (nI 0)) + (nI 14)) + ((nI 6) * a1)) + (nI 2)).toNatClampNeg)] (sh, f1, g2, fR)
            exact S_ireturn dX12_path_97 rfl H
          · by_cases hc13 : a2 = nI 4
            · replace H := H.2.2.2.2.1 hc13
              refine S_tsw (pc := 11) (tgt := 98) dX12_path_11 (Or.inr ⟨by rw [hc13]; decide, by rw [hc13]; decide, _, by rw [hc13]; rfl, rfl⟩) ?_
              refine S_aload_n (pc := 98) dX12_path_98 rfl rfl ?_
              refine S_iconst (pc := 99) dX12_path_99 ic0 ?_
              refine S_iload_n (pc := 100) dX12_path_100 rfl rfl ?_
              refine S_iconst (pc := 101) dX12_path_101 ic3 ?_
              refine S_callV (As := [.int (nI 0), .int a1, .int (nI 3)]) (mc := 0) (ms := 0) (pc := 102) dX12_path_102 miX12_p mvX12_p mlX12_438 rfl (sM_0 hs) rfl rfl rfl (RmOK.of rfl) (Q := fun r h => WP _ _ _ _ _ _ _ 105 [some (.ref B), some (.int a1), some (.int a2)] (r.toList ++ []) h) (Cl.of miX12_p rfl rfl ?_) (fun _ _ q => q)
              refine S_aload_n (pc := 0) dX12_p_0 rfl rfl ?_
              refine S_getR (pc := 1) dX12_p_1 flX12_144 (sM_0 hs) rfl (rM_43 hs) ?_
              refine S_bipush (pc := 4) dX12_p_4 bp40 ?_
              refine S_iload_n (pc := 6) dX12_p_6 rfl rfl ?_
              refine S_imul (pc := 7) dX12_p_7 ?_
              refine S_bipush (pc := 8) dX12_p_8 bp14 ?_
              refine S_iadd (pc := 10) dX12_p_10 ?_
              refine S_bipush (pc := 11) dX12_p_11 bp6 ?_
              refine S_iload_n (pc := 13) dX12_p_13 rfl rfl ?_
              refine S_imul (pc := 14) dX12_p_14 ?_
              refine S_iadd (pc := 15) dX12_p_15 ?_
              refine S_iload_n (pc := 16) dX12_p_16 rfl rfl ?_
              refine S_iadd (pc := 17) dX12_p_17 ?_
              obtain ⟨hb14, H⟩ := H
              refine S_iald (pc := 18) dX12_p_18 (sM_23 hs) hb14 ?_
              refine S_ireturn dX12_p_19 rfl ?_
              show WP _ _ _ _ _ _ _ 105 [some (.ref B), some (.int a1), some (.int a2)] [.int (f1 (B + 23) (((((nI 40) * (nI 0)) + (nI 14)) + ((nI 6) * a1)) + (nI 3)).toNatClampNeg)] (sh, f1, g2, fR)
              exact S_ireturn dX12_path_105 rfl H
            · by_cases hc15 : a2 = nI 5
              · replace H := H.2.2.2.2.2.1 hc15
                refine S_tsw (pc := 11) (tgt := 106) dX12_path_11 (Or.inr ⟨by rw [hc15]; decide, by rw [hc15]; decide, _, by rw [hc15]; rfl, rfl⟩) ?_
                refine S_aload_n (pc := 106) dX12_path_106 rfl rfl ?_
                refine S_iconst (pc := 107) dX12_path_107 ic0 ?_
                refine S_iload_n (pc := 108) dX12_path_108 rfl rfl ?_
                refine S_callV (As := [.int (nI 0), .int a1]) (mc := 0) (ms := 0) (pc := 109) dX12_path_109 miX12_flyingOn mvX12_flyingOn mlX12_442 rfl (sM_0 hs) rfl rfl rfl (RmOK.of rfl) H ?_
                rintro _ _ ⟨x18, f16, g17, rfl, rfl, H⟩
                show WP _ _ _ _ _ _ _ 112 [some (.ref B), some (.int a1), some (.int a2)] [.int x18] (sh, f16, g17, fR)
                exact S_ireturn dX12_path_112 rfl H
              · by_cases hc19 : a2 = nI 6
                · replace H := H.2.2.2.2.2.2.1 hc19
                  refine S_tsw (pc := 11) (tgt := 113) dX12_path_11 (Or.inr ⟨by rw [hc19]; decide, by rw [hc19]; decide, _, by rw [hc19]; rfl, rfl⟩) ?_
                  refine S_aload_n (pc := 113) dX12_path_113 rfl rfl ?_
                  refine S_iconst (pc := 114) dX12_path_114 ic0 ?_
                  refine S_iload_n (pc := 115) dX12_path_115 rfl rfl ?_
                  refine S_iconst (pc := 116) dX12_path_116 ic4 ?_
                  refine S_callV (As := [.int (nI 0), .int a1, .int (nI 4)]) (mc := 0) (ms := 0) (pc := 117) dX12_path_117 miX12_p mvX12_p mlX12_438 rfl (sM_0 hs) rfl rfl rfl (RmOK.of rfl) (Q := fun r h => WP _ _ _ _ _ _ _ 120 [some (.ref B), some (.int a1), some (.int a2)] (r.toList ++ []) h) (Cl.of miX12_p rfl rfl ?_) (fun _ _ q => q)
                  refine S_aload_n (pc := 0) dX12_p_0 rfl rfl ?_
                  refine S_getR (pc := 1) dX12_p_1 flX12_144 (sM_0 hs) rfl (rM_43 hs) ?_
                  refine S_bipush (pc := 4) dX12_p_4 bp40 ?_
                  refine S_iload_n (pc := 6) dX12_p_6 rfl rfl ?_
                  refine S_imul (pc := 7) dX12_p_7 ?_
                  refine S_bipush (pc := 8) dX12_p_8 bp14 ?_
                  refine S_iadd (pc := 10) dX12_p_10 ?_
                  refine S_bipush (pc := 11) dX12_p_11 bp6 ?_
                  refine S_iload_n (pc := 13) dX12_p_13 rfl rfl ?_
                  refine S_imul (pc := 14) dX12_p_14 ?_
                  refine S_iadd (pc := 15) dX12_p_15 ?_
                  refine S_iload_n (pc := 16) dX12_p_16 rfl rfl ?_
                  refine S_iadd (pc := 17) dX12_p_17 ?_
                  obtain ⟨hb20, H⟩ := H
                  refine S_iald (pc := 18) dX12_p_18 (sM_23 hs) hb20 ?_
                  refine S_ireturn dX12_p_19 rfl ?_
                  show WP _ _ _ _ _ _ _ 120 [some (.ref B), some (.int a1), some (.int a2)] [.int (f1 (B + 23) (((((nI 40) * (nI 0)) + (nI 14)) + ((nI 6) * a1)) + (nI 4)).toNatClampNeg)] (sh, f1, g2, fR)
                  exact S_ireturn dX12_path_120 rfl H
                · by_cases hc21 : a2 = nI 7
                  · replace H := H.2.2.2.2.2.2.2.1 hc21
                    refine S_tsw (pc := 11) (tgt := 121) dX12_path_11 (Or.inr ⟨by rw [hc21]; decide, by rw [hc21]; decide, _, by rw [hc21]; rfl, rfl⟩) ?_
                    refine S_aload_n (pc := 121) dX12_path_121 rfl rfl ?_
                    refine S_iconst (pc := 122) dX12_path_122 ic0 ?_
                    refine S_iload_n (pc := 123) dX12_path_123 rfl rfl ?_
                    refine S_iconst (pc := 124) dX12_path_124 ic5 ?_
                    refine S_callV (As := [.int (nI 0), .int a1, .int (nI 5)]) (mc := 0) (ms := 0) (pc := 125) dX12_path_125 miX12_p mvX12_p mlX12_438 rfl (sM_0 hs) rfl rfl rfl (RmOK.of rfl) (Q := fun r h => WP _ _ _ _ _ _ _ 128 [some (.ref B), some (.int a1), some (.int a2)] (r.toList ++ []) h) (Cl.of miX12_p rfl rfl ?_) (fun _ _ q => q)
                    refine S_aload_n (pc := 0) dX12_p_0 rfl rfl ?_
                    refine S_getR (pc := 1) dX12_p_1 flX12_144 (sM_0 hs) rfl (rM_43 hs) ?_
                    refine S_bipush (pc := 4) dX12_p_4 bp40 ?_
                    refine S_iload_n (pc := 6) dX12_p_6 rfl rfl ?_
                    refine S_imul (pc := 7) dX12_p_7 ?_
                    refine S_bipush (pc := 8) dX12_p_8 bp14 ?_
                    refine S_iadd (pc := 10) dX12_p_10 ?_
                    refine S_bipush (pc := 11) dX12_p_11 bp6 ?_
                    refine S_iload_n (pc := 13) dX12_p_13 rfl rfl ?_
                    refine S_imul (pc := 14) dX12_p_14 ?_
                    refine S_iadd (pc := 15) dX12_p_15 ?_
                    refine S_iload_n (pc := 16) dX12_p_16 rfl rfl ?_
                    refine S_iadd (pc := 17) dX12_p_17 ?_
                    obtain ⟨hb22, H⟩ := H
                    refine S_iald (pc := 18) dX12_p_18 (sM_23 hs) hb22 ?_
                    refine S_ireturn dX12_p_19 rfl ?_
                    show WP _ _ _ _ _ _ _ 128 [some (.ref B), some (.int a1), some (.int a2)] [.int (f1 (B + 23) (((((nI 40) * (nI 0)) + (nI 14)) + ((nI 6) * a1)) + (nI 5)).toNatClampNeg)] (sh, f1, g2, fR)
                    exact S_ireturn dX12_path_128 rfl H
                  · by_cases hc23 : a2 = nI 8
                    · replace H := H.2.2.2.2.2.2.2.2.1 hc23
                      refine S_tsw (pc := 11) (tgt := 129) dX12_path_11 (Or.inr ⟨by rw [hc23]; decide, by rw [hc23]; decide, _, by rw [hc23]; rfl, rfl⟩) ?_
                      refine S_aload_n (pc := 129) dX12_path_129 rfl rfl ?_
                      refine S_iconst (pc := 130) dX12_path_130 ic0 ?_
                      refine S_iload_n (pc := 131) dX12_path_131 rfl rfl ?_
                      refine S_callV (As := [.int (nI 0), .int a1]) (mc := 0) (ms := 0) (pc := 132) dX12_path_132 miX12_waitOf mvX12_waitOf mlX12_510 rfl (sM_0 hs) rfl rfl rfl (RmOK.of rfl) H ?_
                      rintro _ _ ⟨x26, f24, g25, rfl, rfl, H⟩
                      show WP _ _ _ _ _ _ _ 135 [some (.ref B), some (.int a1), some (.int a2)] [.int x26] (sh, f24, g25, fR)
                      exact S_ireturn dX12_path_135 rfl H
                    · replace H := H.2.2.2.2.2.2.2.2.2 ⟨hc5, hc7, hc9, hc11, hc13, hc15, hc19, hc21, hc23⟩
                      refine S_tsw (pc := 11) (tgt := 136) dX12_path_11 (Or.inl ⟨tsw_out (lo := 0) (hi := 8) (fun j h1 h2 => by rcases (show j = 0 ∨ j = 1 ∨ j = 2 ∨ j = 3 ∨ j = 4 ∨ j = 5 ∨ j = 6 ∨ j = 7 ∨ j = 8 by omega) with rfl | rfl | rfl | rfl | rfl | rfl | rfl | rfl | rfl <;> assumption), rfl⟩) ?_
                      refine S_iconst (pc := 136) dX12_path_136 icm1 ?_
                      exact S_ireturn dX12_path_137 rfl H
  · replace H := H.2 hc4
    refine S_iconst (pc := 8) dX12_path_8 icm1 ?_
    exact S_ireturn dX12_path_9 rfl H
abbrev LpX12_sumOf_6 (l : Launch) (G : Gx) (d : Nat) (Q : Option Value → Hp → Prop) (sh : Sh) (fR : FRt) (B : Nat) (f : FI) (g : FL) (a1 : Int32) (a2 : Int32) (b3 : Int64) (b5 : Int64) : Prop := WP l G (Zq G 0 0 Q) mX12_sumOf (rmd d 0 0) 0 0 6 [some (.ref B), some (.int a1), some (.int a2), some (.long b3), none, some (.long b5), none] [] (sh, f, g, fR)
set_option maxHeartbeats 2000000 in
set_option maxRecDepth 4000 in
theorem VX12_sumOf {l : Launch} {G : Gx} {d : Nat} {Q : Option Value → Hp → Prop} {sh : Sh} {fR : FRt} {B : Nat} {f : FI} {g : FL} {a1 : Int32} {a2 : Int32} (hs : StM sh fR B)
    (H : LpX12_sumOf_6 l G d Q sh fR B f g a1 a2 (lN 0) a1.toInt64) :
    Cl l G d 0 0 mX12_sumOf [.ref B, .int a1, .int a2] (sh, f, g, fR) Q := by
  refine Cl.of (L0 := [some (.ref B), some (.int a1), some (.int a2), none, none, none, none]) miX12_sumOf rfl rfl ?_
  refine S_lconst (pc := 0) dX12_sumOf_0 lc0 ?_
  refine S_lstore_n (pc := 1) (L' := [some (.ref B), some (.int a1), some (.int a2), some (.long (lN 0)), none, none, none]) dX12_sumOf_1 rfl (by decide) rfl ?_
  refine S_iload_n (pc := 2) dX12_sumOf_2 rfl rfl ?_
  refine S_i2l (pc := 3) dX12_sumOf_3 ?_
  refine S_lstore (pc := 4) (L' := [some (.ref B), some (.int a1), some (.int a2), some (.long (lN 0)), none, some (.long a1.toInt64), none]) dX12_sumOf_4 (by decide) rfl ?_
  exact H
set_option maxHeartbeats 2000000 in
set_option maxRecDepth 4000 in
theorem VX12_sumOf_6 {l : Launch} {G : Gx} {d : Nat} {Q : Option Value → Hp → Prop} {sh : Sh} {fR : FRt} {B : Nat} {f : FI} {g : FL} {a1 : Int32} {a2 : Int32} {b3 : Int64} {b5 : Int64} (hs : StM sh fR B)
    (H : ((((a1 + a2).toInt64) ≤ b5 → Q (some (.int ((b3 - b3 / (lN 251) * (lN 251)).toInt32))) (sh, f, g, fR)) ∧ (¬ ((a1 + a2).toInt64) ≤ b5 → inb (f B 13) 2 ∧ (∀ z3 : Int64, z3 = b3 + ((((b5 * b5) + ((lN 7) * b5)) + ((f (B + 5) (f B 13).toNatClampNeg).toInt64)) - (((b5 * b5) + ((lN 7) * b5)) + ((f (B + 5) (f B 13).toNatClampNeg).toInt64)) / (lN 251) * (lN 251)) → (∀ z5 : Int64, z5 = b5 + (lN 1) → LpX12_sumOf_6 l G d Q sh fR B f g a1 a2 z3 z5))))) :
    LpX12_sumOf_6 l G d Q sh fR B f g a1 a2 b3 b5 := by
  refine S_lload (pc := 6) dX12_sumOf_6 rfl ?_
  refine S_iload_n (pc := 8) dX12_sumOf_8 rfl rfl ?_
  refine S_iload_n (pc := 9) dX12_sumOf_9 rfl rfl ?_
  refine S_iadd (pc := 10) dX12_sumOf_10 ?_
  refine S_i2l (pc := 11) dX12_sumOf_11 ?_
  refine S_lcmp_ge (pc := 12) (tgt := 55) dX12_sumOf_12 dX12_sumOf_13 rfl (fun hc1 => ?_) (fun hc1 => ?_)
  · replace H := H.1 hc1
    refine S_lload_n (pc := 55) dX12_sumOf_55 rfl rfl ?_
    refine S_ldc2 (pc := 56) (v := lN 251) dX12_sumOf_56 (gw 1688 rfl rfl) ?_
    refine S_lrem (pc := 59) dX12_sumOf_59 (by decide) ?_
    refine S_l2i (pc := 60) dX12_sumOf_60 ?_
    exact S_ireturn dX12_sumOf_61 rfl H
  · replace H := H.2 hc1
    refine S_lload_n (pc := 16) dX12_sumOf_16 rfl rfl ?_
    refine S_lload (pc := 17) dX12_sumOf_17 rfl ?_
    refine S_lload (pc := 19) dX12_sumOf_19 rfl ?_
    refine S_lmul (pc := 21) dX12_sumOf_21 ?_
    refine S_ldc2 (pc := 22) (v := lN 7) dX12_sumOf_22 (gw 1687 rfl rfl) ?_
    refine S_lload (pc := 25) dX12_sumOf_25 rfl ?_
    refine S_lmul (pc := 27) dX12_sumOf_27 ?_
    refine S_ladd (pc := 28) dX12_sumOf_28 ?_
    refine S_aload_n (pc := 29) dX12_sumOf_29 rfl rfl ?_
    refine S_getR (pc := 30) dX12_sumOf_30 flX12_63 (sM_0 hs) rfl (rM_17 hs) ?_
    refine S_aload_n (pc := 33) dX12_sumOf_33 rfl rfl ?_
    refine S_get (pc := 34) (v := .int (f B 13)) dX12_sumOf_34 flX12_51 (sM_0 hs) rfl ?_
    obtain ⟨hb2, H⟩ := H
    refine S_iald (pc := 37) dX12_sumOf_37 (sM_5 hs) hb2 ?_
    refine S_i2l (pc := 38) dX12_sumOf_38 ?_
    refine S_ladd (pc := 39) dX12_sumOf_39 ?_
    refine S_ldc2 (pc := 40) (v := lN 251) dX12_sumOf_40 (gw 1688 rfl rfl) ?_
    refine S_lrem (pc := 43) dX12_sumOf_43 (by decide) ?_
    refine S_ladd (pc := 44) dX12_sumOf_44 ?_
    refine S_namel (fun z3 e4 => ?_)
    replace H := H z3 e4
    refine S_lstore_n (pc := 45) (L' := [some (.ref B), some (.int a1), some (.int a2), some (.long z3), none, some (.long b5), none]) dX12_sumOf_45 rfl (by decide) rfl ?_
    refine S_lload (pc := 46) dX12_sumOf_46 rfl ?_
    refine S_lconst (pc := 48) dX12_sumOf_48 lc1 ?_
    refine S_ladd (pc := 49) dX12_sumOf_49 ?_
    refine S_namel (fun z5 e6 => ?_)
    replace H := H z5 e6
    refine S_lstore (pc := 50) (L' := [some (.ref B), some (.int a1), some (.int a2), some (.long z3), none, some (.long z5), none]) dX12_sumOf_50 (by decide) rfl ?_
    refine S_goto (pc := 52) (tgt := 6) dX12_sumOf_52 rfl ?_
    exact H
abbrev LpX12_segment_8 (l : Launch) (G : Gx) (d : Nat) (Q : Option Value → Hp → Prop) (sh : Sh) (fR : FRt) (B : Nat) (f : FI) (g : FL) (a1 : Int32) (a2 : Int32) (a3 : Int32) (a4 : Int32) (a5 : Int32) : Prop := WP l G (Zq G 0 0 Q) mX12_segment (rmd (d + 1) 0 0) 0 0 8 [some (.ref B), some (.int a1), some (.int a2), some (.int a3), some (.int a4), some (.int a5)] [] (sh, f, g, fR)
abbrev LpX12_segment_58 (l : Launch) (G : Gx) (d : Nat) (Q : Option Value → Hp → Prop) (sh : Sh) (fR : FRt) (B : Nat) (f : FI) (g : FL) (a2 : Int32) (a3 : Int32) : Prop := WP l G (Zq G 0 0 Q) mX12_segment (rmd (d + 1) 0 0) 0 0 58 [some (.ref B), none, some (.int a2), some (.int a3), none, none] [] (sh, f, g, fR)
abbrev LpX12_segment_49 (l : Launch) (G : Gx) (d : Nat) (Q : Option Value → Hp → Prop) (sh : Sh) (fR : FRt) (B : Nat) (f : FI) (g : FL) (a1 : Int32) (a2 : Int32) (a3 : Int32) (a4 : Int32) (a5 : Int32) : Prop := WP l G (Zq G 0 0 Q) mX12_segment (rmd (d + 1) 0 0) 0 0 49 [some (.ref B), some (.int a1), some (.int a2), some (.int a3), some (.int a4), some (.int a5)] [] (sh, f, g, fR)
abbrev LpX12_segment_52 (l : Launch) (G : Gx) (d : Nat) (Q : Option Value → Hp → Prop) (sh : Sh) (fR : FRt) (B : Nat) (f : FI) (g : FL) (a1 : Int32) (a2 : Int32) (a3 : Int32) (a4 : Int32) (a5 : Int32) : Prop := WP l G (Zq G 0 0 Q) mX12_segment (rmd (d + 1) 0 0) 0 0 52 [some (.ref B), some (.int a1), some (.int a2), some (.int a3), some (.int a4), some (.int a5)] [] (sh, f, g, fR)
set_option maxHeartbeats 2000000 in
set_option maxRecDepth 4000 in
theorem VX12_segment {l : Launch} {G : Gx} {d : Nat} {Q : Option Value → Hp → Prop} {sh : Sh} {fR : FRt} {B : Nat} {f : FI} {g : FL} {a1 : Int32} {a2 : Int32} (hs : StM sh fR B)
    (H : LpX12_segment_8 l G d Q sh fR B f g a1 a2 (-1) (nI 0) (nI 0)) :
    Cl l G (d + 1) 0 0 mX12_segment [.ref B, .int a1, .int a2] (sh, f, g, fR) Q := by
  refine Cl.of (L0 := [some (.ref B), some (.int a1), some (.int a2), none, none, none]) miX12_segment rfl rfl ?_
  refine S_iconst (pc := 0) dX12_segment_0 icm1 ?_
  refine S_istore_n (pc := 1) (L' := [some (.ref B), some (.int a1), some (.int a2), some (.int (-1)), none, none]) dX12_segment_1 rfl (by decide) rfl ?_
  refine S_iconst (pc := 2) dX12_segment_2 ic0 ?_
  refine S_istore (pc := 3) (L' := [some (.ref B), some (.int a1), some (.int a2), some (.int (-1)), some (.int (nI 0)), none]) dX12_segment_3 (by decide) rfl ?_
  refine S_iconst (pc := 5) dX12_segment_5 ic0 ?_
  refine S_istore (pc := 6) (L' := [some (.ref B), some (.int a1), some (.int a2), some (.int (-1)), some (.int (nI 0)), some (.int (nI 0))]) dX12_segment_6 (by decide) rfl ?_
  exact H
set_option maxHeartbeats 2000000 in
set_option maxRecDepth 4000 in
theorem VX12_segment_8 {l : Launch} {G : Gx} {d : Nat} {Q : Option Value → Hp → Prop} {sh : Sh} {fR : FRt} {B : Nat} {f : FI} {g : FL} {a1 : Int32} {a2 : Int32} {a3 : Int32} {a4 : Int32} {a5 : Int32} (hs : StM sh fR B)
    (H : inb (((nI 40) * (nI 0)) + (nI 6)) 880 ∧ (((f (B + 23) (((nI 40) * (nI 0)) + (nI 6)).toNatClampNeg) ≤ a5 → LpX12_segment_58 l G d Q sh fR B f g a2 a3) ∧ (¬ (f (B + 23) (((nI 40) * (nI 0)) + (nI 6)).toNatClampNeg) ≤ a5 → ((¬ a3 = (-1) → LpX12_segment_58 l G d Q sh fR B f g a2 a3) ∧ (a3 = (-1) → inb (((nI 8) * (((nI 480) * (nI 0)) + a5)) + (nI 6)) 84480 ∧ ((¬ (f (B + 24) (((nI 8) * (((nI 480) * (nI 0)) + a5)) + (nI 6)).toNatClampNeg) = 0 → ((¬ a4 = a1 → LpX12_segment_49 l G d Q sh fR B f g a1 a2 a3 a4 a5) ∧ (a4 = a1 → LpX12_segment_49 l G d Q sh fR B f g a1 a2 a5 a4 a5))) ∧ ((f (B + 24) (((nI 8) * (((nI 480) * (nI 0)) + a5)) + (nI 6)).toNatClampNeg) = 0 → LpX12_segment_52 l G d Q sh fR B f g a1 a2 a3 a4 a5))))))) :
    LpX12_segment_8 l G d Q sh fR B f g a1 a2 a3 a4 a5 := by
  refine S_iload (pc := 8) dX12_segment_8 rfl ?_
  refine S_aload_n (pc := 10) dX12_segment_10 rfl rfl ?_
  refine S_iconst (pc := 11) dX12_segment_11 ic0 ?_
  refine S_bipush (pc := 12) dX12_segment_12 bp6 ?_
  refine S_callV (As := [.int (nI 0), .int (nI 6)]) (mc := 0) (ms := 0) (pc := 14) dX12_segment_14 miX12_n mvX12_n mlX12_402 rfl (sM_0 hs) rfl rfl rfl (RmOK.of rfl) (Q := fun r h => WP _ _ _ _ _ _ _ 17 [some (.ref B), some (.int a1), some (.int a2), some (.int a3), some (.int a4), some (.int a5)] (r.toList ++ [.int a5]) h) (Cl.of miX12_n rfl rfl ?_) (fun _ _ q => q)
  refine S_aload_n (pc := 0) dX12_n_0 rfl rfl ?_
  refine S_getR (pc := 1) dX12_n_1 flX12_144 (sM_0 hs) rfl (rM_43 hs) ?_
  refine S_bipush (pc := 4) dX12_n_4 bp40 ?_
  refine S_iload_n (pc := 6) dX12_n_6 rfl rfl ?_
  refine S_imul (pc := 7) dX12_n_7 ?_
  refine S_iload_n (pc := 8) dX12_n_8 rfl rfl ?_
  refine S_iadd (pc := 9) dX12_n_9 ?_
  obtain ⟨hb1, H⟩ := H
  refine S_iald (pc := 10) dX12_n_10 (sM_23 hs) hb1 ?_
  refine S_ireturn dX12_n_11 rfl ?_
  show WP _ _ _ _ _ _ _ 17 [some (.ref B), some (.int a1), some (.int a2), some (.int a3), some (.int a4), some (.int a5)] [.int (f (B + 23) (((nI 40) * (nI 0)) + (nI 6)).toNatClampNeg), .int a5] (sh, f, g, fR)
  refine S_icmp_ge (pc := 17) (tgt := 58) dX12_segment_17 rfl (fun hc2 => ?_) (fun hc2 => ?_)
  · replace H := H.1 hc2
    exact S_weak (L' := [some (.ref B), none, some (.int a2), some (.int a3), none, none]) (ls_e (ls_n (ls_e (ls_e (ls_n (ls_n ls_0)))))) H
  · replace H := H.2 hc2
    refine S_iload_n (pc := 20) dX12_segment_20 rfl rfl ?_
    refine S_iconst (pc := 21) dX12_segment_21 icm1 ?_
    refine S_icmp_ne (pc := 22) (tgt := 58) dX12_segment_22 rfl (fun hc3 => ?_) (fun hc3 => ?_)
    · replace H := H.1 hc3
      exact S_weak (L' := [some (.ref B), none, some (.int a2), some (.int a3), none, none]) (ls_e (ls_n (ls_e (ls_e (ls_n (ls_n ls_0)))))) H
    · replace H := H.2 hc3
      refine S_aload_n (pc := 25) dX12_segment_25 rfl rfl ?_
      refine S_iconst (pc := 26) dX12_segment_26 ic0 ?_
      refine S_iload (pc := 27) dX12_segment_27 rfl ?_
      refine S_bipush (pc := 29) dX12_segment_29 bp6 ?_
      refine S_callV (As := [.int (nI 0), .int a5, .int (nI 6)]) (mc := 0) (ms := 0) (pc := 31) dX12_segment_31 miX12_s mvX12_s mlX12_445 rfl (sM_0 hs) rfl rfl rfl (RmOK.of rfl) (Q := fun r h => WP _ _ _ _ _ _ _ 34 [some (.ref B), some (.int a1), some (.int a2), some (.int a3), some (.int a4), some (.int a5)] (r.toList ++ []) h) (Cl.of miX12_s rfl rfl ?_) (fun _ _ q => q)
      refine S_aload_n (pc := 0) dX12_s_0 rfl rfl ?_
      refine S_getR (pc := 1) dX12_s_1 flX12_148 (sM_0 hs) rfl (rM_44 hs) ?_
      refine S_bipush (pc := 4) dX12_s_4 bp8 ?_
      refine S_sipush (pc := 6) dX12_s_6 sp480 ?_
      refine S_iload_n (pc := 9) dX12_s_9 rfl rfl ?_
      refine S_imul (pc := 10) dX12_s_10 ?_
      refine S_iload_n (pc := 11) dX12_s_11 rfl rfl ?_
      refine S_iadd (pc := 12) dX12_s_12 ?_
      refine S_imul (pc := 13) dX12_s_13 ?_
      refine S_iload_n (pc := 14) dX12_s_14 rfl rfl ?_
      refine S_iadd (pc := 15) dX12_s_15 ?_
      obtain ⟨hb4, H⟩ := H
      refine S_iald (pc := 16) dX12_s_16 (sM_24 hs) hb4 ?_
      refine S_ireturn dX12_s_17 rfl ?_
      show WP _ _ _ _ _ _ _ 34 [some (.ref B), some (.int a1), some (.int a2), some (.int a3), some (.int a4), some (.int a5)] [.int (f (B + 24) (((nI 8) * (((nI 480) * (nI 0)) + a5)) + (nI 6)).toNatClampNeg)] (sh, f, g, fR)
      refine S_if_ne (pc := 34) (tgt := 40) dX12_segment_34 rfl (fun hc5 => ?_) (fun hc5 => ?_)
      · replace H := H.1 hc5
        refine S_iload (pc := 40) dX12_segment_40 rfl ?_
        refine S_iload_n (pc := 42) dX12_segment_42 rfl rfl ?_
        refine S_icmp_ne (pc := 43) (tgt := 49) dX12_segment_43 rfl (fun hc6 => ?_) (fun hc6 => ?_)
        · replace H := H.1 hc6
          exact H
        · replace H := H.2 hc6
          refine S_iload (pc := 46) dX12_segment_46 rfl ?_
          refine S_istore_n (pc := 48) (L' := [some (.ref B), some (.int a1), some (.int a2), some (.int a5), some (.int a4), some (.int a5)]) dX12_segment_48 rfl (by decide) rfl ?_
          exact H
      · replace H := H.2 hc5
        refine S_goto (pc := 37) (tgt := 52) dX12_segment_37 rfl ?_
        exact H
set_option maxHeartbeats 2000000 in
set_option maxRecDepth 4000 in
theorem VX12_segment_58 {l : Launch} {G : Gx} {d : Nat} {Q : Option Value → Hp → Prop} {sh : Sh} {fR : FRt} {B : Nat} {f : FI} {g : FL} {a2 : Int32} {a3 : Int32} (hs : StM sh fR B)
    (H : ((¬ a3 = (-1) → Cl l G d 0 0 mX12_is [.int a2, .int (nI 0), .int (nI 4)] (sh, f, g, fR) (qi sh fR fun x10 f8 g9 => ((x10 = 0 → ((¬ a2 = (nI 5) → Q (some (.int (-1))) (sh, f8, g9, fR)) ∧ (a2 = (nI 5) → inb (((nI 8) * (((nI 480) * (nI 0)) + a3)) + (nI 2)) 84480 ∧ inb (((nI 8) * (((nI 480) * (nI 0)) + a3)) + (nI 3)) 84480 ∧ Cl l G d 0 0 mX12_sumOf [.ref B, .int (f8 (B + 24) (((nI 8) * (((nI 480) * (nI 0)) + a3)) + (nI 2)).toNatClampNeg), .int (f8 (B + 24) (((nI 8) * (((nI 480) * (nI 0)) + a3)) + (nI 3)).toNatClampNeg)] (sh, f8, g9, fR) (qi sh fR fun x17 f15 g16 => Q (some (.int x17)) (sh, f15, g16, fR))))) ∧ (¬ x10 = 0 → inb (((nI 8) * (((nI 480) * (nI 0)) + a3)) + a2) 84480 ∧ Q (some (.int (f8 (B + 24) (((nI 8) * (((nI 480) * (nI 0)) + a3)) + a2).toNatClampNeg))) (sh, f8, g9, fR))))) ∧ (a3 = (-1) → Q (some (.int (-1))) (sh, f, g, fR)))) :
    LpX12_segment_58 l G d Q sh fR B f g a2 a3 := by
  refine S_iload_n (pc := 58) dX12_segment_58 rfl rfl ?_
  refine S_iconst (pc := 59) dX12_segment_59 icm1 ?_
  refine S_icmp_ne (pc := 60) (tgt := 65) dX12_segment_60 rfl (fun hc7 => ?_) (fun hc7 => ?_)
  · replace H := H.1 hc7
    refine S_iload_n (pc := 65) dX12_segment_65 rfl rfl ?_
    refine S_iconst (pc := 66) dX12_segment_66 ic0 ?_
    refine S_iconst (pc := 67) dX12_segment_67 ic4 ?_
    refine S_callS (As := [.int a2, .int (nI 0), .int (nI 4)]) (mc := 0) (ms := 0) (pc := 68) dX12_segment_68 miX12_is mvX12_is mlX12_310 rfl rfl (RmOK.of rfl) H ?_
    rintro _ _ ⟨x10, f8, g9, rfl, rfl, H⟩
    show WP _ _ _ _ _ _ _ 71 [some (.ref B), none, some (.int a2), some (.int a3), none, none] [.int x10] (sh, f8, g9, fR)
    refine S_if_eq (pc := 71) (tgt := 84) dX12_segment_71 rfl (fun hc11 => ?_) (fun hc11 => ?_)
    · replace H := H.1 hc11
      refine S_iload_n (pc := 84) dX12_segment_84 rfl rfl ?_
      refine S_iconst (pc := 85) dX12_segment_85 ic5 ?_
      refine S_icmp_ne (pc := 86) (tgt := 110) dX12_segment_86 rfl (fun hc12 => ?_) (fun hc12 => ?_)
      · replace H := H.1 hc12
        refine S_iconst (pc := 110) dX12_segment_110 icm1 ?_
        exact S_ireturn dX12_segment_111 rfl H
      · replace H := H.2 hc12
        refine S_aload_n (pc := 89) dX12_segment_89 rfl rfl ?_
        refine S_aload_n (pc := 90) dX12_segment_90 rfl rfl ?_
        refine S_iconst (pc := 91) dX12_segment_91 ic0 ?_
        refine S_iload_n (pc := 92) dX12_segment_92 rfl rfl ?_
        refine S_iconst (pc := 93) dX12_segment_93 ic2 ?_
        refine S_callV (As := [.int (nI 0), .int a3, .int (nI 2)]) (mc := 0) (ms := 0) (pc := 94) dX12_segment_94 miX12_s mvX12_s mlX12_445 rfl (sM_0 hs) rfl rfl rfl (RmOK.of rfl) (Q := fun r h => WP _ _ _ _ _ _ _ 97 [some (.ref B), none, some (.int a2), some (.int a3), none, none] (r.toList ++ [.ref B]) h) (Cl.of miX12_s rfl rfl ?_) (fun _ _ q => q)
        refine S_aload_n (pc := 0) dX12_s_0 rfl rfl ?_
        refine S_getR (pc := 1) dX12_s_1 flX12_148 (sM_0 hs) rfl (rM_44 hs) ?_
        refine S_bipush (pc := 4) dX12_s_4 bp8 ?_
        refine S_sipush (pc := 6) dX12_s_6 sp480 ?_
        refine S_iload_n (pc := 9) dX12_s_9 rfl rfl ?_
        refine S_imul (pc := 10) dX12_s_10 ?_
        refine S_iload_n (pc := 11) dX12_s_11 rfl rfl ?_
        refine S_iadd (pc := 12) dX12_s_12 ?_
        refine S_imul (pc := 13) dX12_s_13 ?_
        refine S_iload_n (pc := 14) dX12_s_14 rfl rfl ?_
        refine S_iadd (pc := 15) dX12_s_15 ?_
        obtain ⟨hb13, H⟩ := H
        refine S_iald (pc := 16) dX12_s_16 (sM_24 hs) hb13 ?_
        refine S_ireturn dX12_s_17 rfl ?_
        show WP _ _ _ _ _ _ _ 97 [some (.ref B), none, some (.int a2), some (.int a3), none, none] [.int (f8 (B + 24) (((nI 8) * (((nI 480) * (nI 0)) + a3)) + (nI 2)).toNatClampNeg), .ref B] (sh, f8, g9, fR)
        refine S_aload_n (pc := 97) dX12_segment_97 rfl rfl ?_
        refine S_iconst (pc := 98) dX12_segment_98 ic0 ?_
        refine S_iload_n (pc := 99) dX12_segment_99 rfl rfl ?_
        refine S_iconst (pc := 100) dX12_segment_100 ic3 ?_
        refine S_callV (As := [.int (nI 0), .int a3, .int (nI 3)]) (mc := 0) (ms := 0) (pc := 101) dX12_segment_101 miX12_s mvX12_s mlX12_445 rfl (sM_0 hs) rfl rfl rfl (RmOK.of rfl) (Q := fun r h => WP _ _ _ _ _ _ _ 104 [some (.ref B), none, some (.int a2), some (.int a3), none, none] (r.toList ++ [.int (f8 (B + 24) (((nI 8) * (((nI 480) * (nI 0)) + a3)) + (nI 2)).toNatClampNeg), .ref B]) h) (Cl.of miX12_s rfl rfl ?_) (fun _ _ q => q)
        refine S_aload_n (pc := 0) dX12_s_0 rfl rfl ?_
        refine S_getR (pc := 1) dX12_s_1 flX12_148 (sM_0 hs) rfl (rM_44 hs) ?_
        refine S_bipush (pc := 4) dX12_s_4 bp8 ?_
        refine S_sipush (pc := 6) dX12_s_6 sp480 ?_
        refine S_iload_n (pc := 9) dX12_s_9 rfl rfl ?_
        refine S_imul (pc := 10) dX12_s_10 ?_
        refine S_iload_n (pc := 11) dX12_s_11 rfl rfl ?_
        refine S_iadd (pc := 12) dX12_s_12 ?_
        refine S_imul (pc := 13) dX12_s_13 ?_
        refine S_iload_n (pc := 14) dX12_s_14 rfl rfl ?_
        refine S_iadd (pc := 15) dX12_s_15 ?_
        obtain ⟨hb14, H⟩ := H
        refine S_iald (pc := 16) dX12_s_16 (sM_24 hs) hb14 ?_
        refine S_ireturn dX12_s_17 rfl ?_
        show WP _ _ _ _ _ _ _ 104 [some (.ref B), none, some (.int a2), some (.int a3), none, none] [.int (f8 (B + 24) (((nI 8) * (((nI 480) * (nI 0)) + a3)) + (nI 3)).toNatClampNeg), .int (f8 (B + 24) (((nI 8) * (((nI 480) * (nI 0)) + a3)) + (nI 2)).toNatClampNeg), .ref B] (sh, f8, g9, fR)
        refine S_callV (As := [.int (f8 (B + 24) (((nI 8) * (((nI 480) * (nI 0)) + a3)) + (nI 2)).toNatClampNeg), .int (f8 (B + 24) (((nI 8) * (((nI 480) * (nI 0)) + a3)) + (nI 3)).toNatClampNeg)]) (mc := 0) (ms := 0) (pc := 104) dX12_segment_104 miX12_sumOf mvX12_sumOf mlX12_582 rfl (sM_0 hs) rfl rfl rfl (RmOK.of rfl) H ?_
        rintro _ _ ⟨x17, f15, g16, rfl, rfl, H⟩
        show WP _ _ _ _ _ _ _ 107 [some (.ref B), none, some (.int a2), some (.int a3), none, none] [.int x17] (sh, f15, g16, fR)
        refine S_goto (pc := 107) (tgt := 111) dX12_segment_107 rfl ?_
        exact S_ireturn dX12_segment_111 rfl H
    · replace H := H.2 hc11
      refine S_aload_n (pc := 74) dX12_segment_74 rfl rfl ?_
      refine S_iconst (pc := 75) dX12_segment_75 ic0 ?_
      refine S_iload_n (pc := 76) dX12_segment_76 rfl rfl ?_
      refine S_iload_n (pc := 77) dX12_segment_77 rfl rfl ?_
      refine S_callV (As := [.int (nI 0), .int a3, .int a2]) (mc := 0) (ms := 0) (pc := 78) dX12_segment_78 miX12_s mvX12_s mlX12_445 rfl (sM_0 hs) rfl rfl rfl (RmOK.of rfl) (Q := fun r h => WP _ _ _ _ _ _ _ 81 [some (.ref B), none, some (.int a2), some (.int a3), none, none] (r.toList ++ []) h) (Cl.of miX12_s rfl rfl ?_) (fun _ _ q => q)
      refine S_aload_n (pc := 0) dX12_s_0 rfl rfl ?_
      refine S_getR (pc := 1) dX12_s_1 flX12_148 (sM_0 hs) rfl (rM_44 hs) ?_
      refine S_bipush (pc := 4) dX12_s_4 bp8 ?_
      refine S_sipush (pc := 6) dX12_s_6 sp480 ?_
      refine S_iload_n (pc := 9) dX12_s_9 rfl rfl ?_
      refine S_imul (pc := 10) dX12_s_10 ?_
      refine S_iload_n (pc := 11) dX12_s_11 rfl rfl ?_
      refine S_iadd (pc := 12) dX12_s_12 ?_
      refine S_imul (pc := 13) dX12_s_13 ?_
      refine S_iload_n (pc := 14) dX12_s_14 rfl rfl ?_
      refine S_iadd (pc := 15) dX12_s_15 ?_
      obtain ⟨hb18, H⟩ := H
      refine S_iald (pc := 16) dX12_s_16 (sM_24 hs) hb18 ?_
      refine S_ireturn dX12_s_17 rfl ?_
      show WP _ _ _ _ _ _ _ 81 [some (.ref B), none, some (.int a2), some (.int a3), none, none] [.int (f8 (B + 24) (((nI 8) * (((nI 480) * (nI 0)) + a3)) + a2).toNatClampNeg)] (sh, f8, g9, fR)
      refine S_goto (pc := 81) (tgt := 111) dX12_segment_81 rfl ?_
      exact S_ireturn dX12_segment_111 rfl H
  · replace H := H.2 hc7
    refine S_iconst (pc := 63) dX12_segment_63 icm1 ?_
    exact S_ireturn dX12_segment_64 rfl H
set_option maxHeartbeats 2000000 in
set_option maxRecDepth 4000 in
theorem VX12_segment_49 {l : Launch} {G : Gx} {d : Nat} {Q : Option Value → Hp → Prop} {sh : Sh} {fR : FRt} {B : Nat} {f : FI} {g : FL} {a1 : Int32} {a2 : Int32} {a3 : Int32} {a4 : Int32} {a5 : Int32} (hs : StM sh fR B)
    (H : LpX12_segment_52 l G d Q sh fR B f g a1 a2 a3 (a4 + nI 1) a5) :
    LpX12_segment_49 l G d Q sh fR B f g a1 a2 a3 a4 a5 := by
  refine S_iinc (pc := 49) (v := nI 1) (L' := [some (.ref B), some (.int a1), some (.int a2), some (.int a3), some (.int (a4 + nI 1)), some (.int a5)]) dX12_segment_49 rfl ic1 rfl ?_
  exact H
set_option maxHeartbeats 2000000 in
set_option maxRecDepth 4000 in
theorem VX12_segment_52 {l : Launch} {G : Gx} {d : Nat} {Q : Option Value → Hp → Prop} {sh : Sh} {fR : FRt} {B : Nat} {f : FI} {g : FL} {a1 : Int32} {a2 : Int32} {a3 : Int32} {a4 : Int32} {a5 : Int32} (hs : StM sh fR B)
    (H : LpX12_segment_8 l G d Q sh fR B f g a1 a2 a3 a4 (a5 + nI 1)) :
    LpX12_segment_52 l G d Q sh fR B f g a1 a2 a3 a4 a5 := by
  refine S_iinc (pc := 52) (v := nI 1) (L' := [some (.ref B), some (.int a1), some (.int a2), some (.int a3), some (.int a4), some (.int (a5 + nI 1))]) dX12_segment_52 rfl ic1 rfl ?_
  refine S_goto (pc := 55) (tgt := 8) dX12_segment_55 rfl ?_
  exact H
set_option maxHeartbeats 2000000 in
set_option maxRecDepth 4000 in
theorem VX12_octet {l : Launch} {G : Gx} {d : Nat} {Q : Option Value → Hp → Prop} {sh : Sh} {fR : FRt} {B : Nat} {f : FI} {g : FL} {a1 : Int32} (hs : StM sh fR B)
    (H : inb (f B 13) 2 ∧ Cl l G d 0 0 mX12_is [.int a1, .int (nI 0), .int ((f (B + 2) (f B 13).toNatClampNeg) - (nI 1))] (sh, f, g, fR) (qi sh fR fun x4 f2 g3 => ((¬ x4 = 0 → inb (((nI 40) * (nI 0)) + (nI 4)) 880 ∧ (((f2 (B + 23) (((nI 40) * (nI 0)) + (nI 4)).toNatClampNeg) ≤ a1 → inb a1 4400 ∧ Q (some (.int (f2 (B + 27) a1.toNatClampNeg))) (sh, f2, g3, fR)) ∧ (¬ (f2 (B + 23) (((nI 40) * (nI 0)) + (nI 4)).toNatClampNeg) ≤ a1 → Q (some (.int (nI 2))) (sh, f2, g3, fR)))) ∧ (x4 = 0 → Q (some (.int (-1))) (sh, f2, g3, fR))))) :
    Cl l G (d + 1) 0 0 mX12_octet [.ref B, .int a1] (sh, f, g, fR) Q := by
  refine Cl.of (L0 := [some (.ref B), some (.int a1)]) miX12_octet rfl rfl ?_
  refine S_iload_n (pc := 0) dX12_octet_0 rfl rfl ?_
  refine S_iconst (pc := 1) dX12_octet_1 ic0 ?_
  refine S_aload_n (pc := 2) dX12_octet_2 rfl rfl ?_
  refine S_getR (pc := 3) dX12_octet_3 flX12_54 (sM_0 hs) rfl (rM_14 hs) ?_
  refine S_aload_n (pc := 6) dX12_octet_6 rfl rfl ?_
  refine S_get (pc := 7) (v := .int (f B 13)) dX12_octet_7 flX12_51 (sM_0 hs) rfl ?_
  obtain ⟨hb1, H⟩ := H
  refine S_iald (pc := 10) dX12_octet_10 (sM_2 hs) hb1 ?_
  refine S_iconst (pc := 11) dX12_octet_11 ic1 ?_
  refine S_isub (pc := 12) dX12_octet_12 ?_
  refine S_callS (As := [.int a1, .int (nI 0), .int ((f (B + 2) (f B 13).toNatClampNeg) - (nI 1))]) (mc := 0) (ms := 0) (pc := 13) dX12_octet_13 miX12_is mvX12_is mlX12_310 rfl rfl (RmOK.of rfl) H ?_
  rintro _ _ ⟨x4, f2, g3, rfl, rfl, H⟩
  show WP _ _ _ _ _ _ _ 16 [some (.ref B), some (.int a1)] [.int x4] (sh, f2, g3, fR)
  refine S_if_ne (pc := 16) (tgt := 23) dX12_octet_16 rfl (fun hc5 => ?_) (fun hc5 => ?_)
  · replace H := H.1 hc5
    refine S_iload_n (pc := 23) dX12_octet_23 rfl rfl ?_
    refine S_aload_n (pc := 24) dX12_octet_24 rfl rfl ?_
    refine S_iconst (pc := 25) dX12_octet_25 ic0 ?_
    refine S_iconst (pc := 26) dX12_octet_26 ic4 ?_
    refine S_callV (As := [.int (nI 0), .int (nI 4)]) (mc := 0) (ms := 0) (pc := 27) dX12_octet_27 miX12_n mvX12_n mlX12_402 rfl (sM_0 hs) rfl rfl rfl (RmOK.of rfl) (Q := fun r h => WP _ _ _ _ _ _ _ 30 [some (.ref B), some (.int a1)] (r.toList ++ [.int a1]) h) (Cl.of miX12_n rfl rfl ?_) (fun _ _ q => q)
    refine S_aload_n (pc := 0) dX12_n_0 rfl rfl ?_
    refine S_getR (pc := 1) dX12_n_1 flX12_144 (sM_0 hs) rfl (rM_43 hs) ?_
    refine S_bipush (pc := 4) dX12_n_4 bp40 ?_
    refine S_iload_n (pc := 6) dX12_n_6 rfl rfl ?_
    refine S_imul (pc := 7) dX12_n_7 ?_
    refine S_iload_n (pc := 8) dX12_n_8 rfl rfl ?_
    refine S_iadd (pc := 9) dX12_n_9 ?_
    obtain ⟨hb6, H⟩ := H
    refine S_iald (pc := 10) dX12_n_10 (sM_23 hs) hb6 ?_
    refine S_ireturn dX12_n_11 rfl ?_
    show WP _ _ _ _ _ _ _ 30 [some (.ref B), some (.int a1)] [.int (f2 (B + 23) (((nI 40) * (nI 0)) + (nI 4)).toNatClampNeg), .int a1] (sh, f2, g3, fR)
    refine S_icmp_ge (pc := 30) (tgt := 37) dX12_octet_30 rfl (fun hc7 => ?_) (fun hc7 => ?_)
    · replace H := H.1 hc7
      refine S_aload_n (pc := 37) dX12_octet_37 rfl rfl ?_
      refine S_getR (pc := 38) dX12_octet_38 flX12_158 (sM_0 hs) rfl (rM_47 hs) ?_
      refine S_iload_n (pc := 41) dX12_octet_41 rfl rfl ?_
      obtain ⟨hb8, H⟩ := H
      refine S_iald (pc := 42) dX12_octet_42 (sM_27 hs) hb8 ?_
      exact S_ireturn dX12_octet_43 rfl H
    · replace H := H.2 hc7
      refine S_iconst (pc := 33) dX12_octet_33 ic2 ?_
      refine S_goto (pc := 34) (tgt := 43) dX12_octet_34 rfl ?_
      exact S_ireturn dX12_octet_43 rfl H
  · replace H := H.2 hc5
    refine S_iconst (pc := 19) dX12_octet_19 icm1 ?_
    refine S_goto (pc := 20) (tgt := 43) dX12_octet_20 rfl ?_
    exact S_ireturn dX12_octet_43 rfl H
set_option maxHeartbeats 2000000 in
set_option maxRecDepth 4000 in
theorem VX12_refusals {l : Launch} {G : Gx} {d : Nat} {Q : Option Value → Hp → Prop} {sh : Sh} {fR : FRt} {B : Nat} {f : FI} {g : FL} {a1 : Int32} (hs : StM sh fR B)
    (H : Cl l G d 0 0 mX12_is [.int a1, .int (nI 0), .int (nI 3)] (sh, f, g, fR) (qi sh fR fun x3 f1 g2 => ((x3 = 0 → Q (some (.int (-1))) (sh, f1, g2, fR)) ∧ (¬ x3 = 0 → inb (((nI 40) * (nI 0)) + ((nI 10) + a1)) 880 ∧ Q (some (.int (f1 (B + 23) (((nI 40) * (nI 0)) + ((nI 10) + a1)).toNatClampNeg))) (sh, f1, g2, fR))))) :
    Cl l G (d + 1) 0 0 mX12_refusals [.ref B, .int a1] (sh, f, g, fR) Q := by
  refine Cl.of (L0 := [some (.ref B), some (.int a1)]) miX12_refusals rfl rfl ?_
  refine S_iload_n (pc := 0) dX12_refusals_0 rfl rfl ?_
  refine S_iconst (pc := 1) dX12_refusals_1 ic0 ?_
  refine S_iconst (pc := 2) dX12_refusals_2 ic3 ?_
  refine S_callS (As := [.int a1, .int (nI 0), .int (nI 3)]) (mc := 0) (ms := 0) (pc := 3) dX12_refusals_3 miX12_is mvX12_is mlX12_310 rfl rfl (RmOK.of rfl) H ?_
  rintro _ _ ⟨x3, f1, g2, rfl, rfl, H⟩
  show WP _ _ _ _ _ _ _ 6 [some (.ref B), some (.int a1)] [.int x3] (sh, f1, g2, fR)
  refine S_if_eq (pc := 6) (tgt := 21) dX12_refusals_6 rfl (fun hc4 => ?_) (fun hc4 => ?_)
  · replace H := H.1 hc4
    refine S_iconst (pc := 21) dX12_refusals_21 icm1 ?_
    exact S_ireturn dX12_refusals_22 rfl H
  · replace H := H.2 hc4
    refine S_aload_n (pc := 9) dX12_refusals_9 rfl rfl ?_
    refine S_iconst (pc := 10) dX12_refusals_10 ic0 ?_
    refine S_bipush (pc := 11) dX12_refusals_11 bp10 ?_
    refine S_iload_n (pc := 13) dX12_refusals_13 rfl rfl ?_
    refine S_iadd (pc := 14) dX12_refusals_14 ?_
    refine S_callV (As := [.int (nI 0), .int ((nI 10) + a1)]) (mc := 0) (ms := 0) (pc := 15) dX12_refusals_15 miX12_n mvX12_n mlX12_402 rfl (sM_0 hs) rfl rfl rfl (RmOK.of rfl) (Q := fun r h => WP _ _ _ _ _ _ _ 18 [some (.ref B), some (.int a1)] (r.toList ++ []) h) (Cl.of miX12_n rfl rfl ?_) (fun _ _ q => q)
    refine S_aload_n (pc := 0) dX12_n_0 rfl rfl ?_
    refine S_getR (pc := 1) dX12_n_1 flX12_144 (sM_0 hs) rfl (rM_43 hs) ?_
    refine S_bipush (pc := 4) dX12_n_4 bp40 ?_
    refine S_iload_n (pc := 6) dX12_n_6 rfl rfl ?_
    refine S_imul (pc := 7) dX12_n_7 ?_
    refine S_iload_n (pc := 8) dX12_n_8 rfl rfl ?_
    refine S_iadd (pc := 9) dX12_n_9 ?_
    obtain ⟨hb5, H⟩ := H
    refine S_iald (pc := 10) dX12_n_10 (sM_23 hs) hb5 ?_
    refine S_ireturn dX12_n_11 rfl ?_
    show WP _ _ _ _ _ _ _ 18 [some (.ref B), some (.int a1)] [.int (f1 (B + 23) (((nI 40) * (nI 0)) + ((nI 10) + a1)).toNatClampNeg)] (sh, f1, g2, fR)
    refine S_goto (pc := 18) (tgt := 22) dX12_refusals_18 rfl ?_
    exact S_ireturn dX12_refusals_22 rfl H
set_option maxHeartbeats 2000000 in
set_option maxRecDepth 4000 in
theorem VX12_isAhead {l : Launch} {G : Gx} {d : Nat} {Q : Option Value → Hp → Prop} {sh : Sh} {fR : FRt} {B : Nat} {f : FI} {g : FL} {a1 : Int32} {a2 : Int32} {a3 : Int32} (hs : StM sh fR B)
    (H : (((f B 41) = 0 → Q (some (.int (nI 0))) (sh, f, g, fR)) ∧ (¬ (f B 41) = 0 → Cl l G d 0 0 mX12_is [.int a1, .int a2, .int a3] (sh, f, g, fR) (qi sh fR fun x4 f2 g3 => ((x4 = 0 → Q (some (.int (nI 0))) (sh, f2, g3, fR)) ∧ (¬ x4 = 0 → inb (((nI 40) * (nI 0)) + (nI 0)) 880 ∧ ((((nI 999) - a1) < (f2 (B + 23) (((nI 40) * (nI 0)) + (nI 0)).toNatClampNeg) → Q (some (.int (nI 0))) (sh, f2, g3, fR)) ∧ (¬ ((nI 999) - a1) < (f2 (B + 23) (((nI 40) * (nI 0)) + (nI 0)).toNatClampNeg) → Q (some (.int (nI 1))) (sh, f2, g3, fR))))))))) :
    Cl l G (d + 1) 0 0 mX12_isAhead [.ref B, .int a1, .int a2, .int a3] (sh, f, g, fR) Q := by
  refine Cl.of (L0 := [some (.ref B), some (.int a1), some (.int a2), some (.int a3)]) miX12_isAhead rfl rfl ?_
  refine S_aload_n (pc := 0) dX12_isAhead_0 rfl rfl ?_
  refine S_get (pc := 1) (v := .int (f B 41)) dX12_isAhead_1 flX12_138 (sM_0 hs) rfl ?_
  refine S_if_eq (pc := 4) (tgt := 34) dX12_isAhead_4 rfl (fun hc1 => ?_) (fun hc1 => ?_)
  · replace H := H.1 hc1
    refine S_iconst (pc := 34) dX12_isAhead_34 ic0 ?_
    exact S_zreturn dX12_isAhead_35 rfl (Or.inl rfl) H
  · replace H := H.2 hc1
    refine S_iload_n (pc := 7) dX12_isAhead_7 rfl rfl ?_
    refine S_iload_n (pc := 8) dX12_isAhead_8 rfl rfl ?_
    refine S_iload_n (pc := 9) dX12_isAhead_9 rfl rfl ?_
    refine S_callS (As := [.int a1, .int a2, .int a3]) (mc := 0) (ms := 0) (pc := 10) dX12_isAhead_10 miX12_is mvX12_is mlX12_310 rfl rfl (RmOK.of rfl) H ?_
    rintro _ _ ⟨x4, f2, g3, rfl, rfl, H⟩
    show WP _ _ _ _ _ _ _ 13 [some (.ref B), some (.int a1), some (.int a2), some (.int a3)] [.int x4] (sh, f2, g3, fR)
    refine S_if_eq (pc := 13) (tgt := 34) dX12_isAhead_13 rfl (fun hc5 => ?_) (fun hc5 => ?_)
    · replace H := H.1 hc5
      refine S_iconst (pc := 34) dX12_isAhead_34 ic0 ?_
      exact S_zreturn dX12_isAhead_35 rfl (Or.inl rfl) H
    · replace H := H.2 hc5
      refine S_aload_n (pc := 16) dX12_isAhead_16 rfl rfl ?_
      refine S_iconst (pc := 17) dX12_isAhead_17 ic0 ?_
      refine S_iconst (pc := 18) dX12_isAhead_18 ic0 ?_
      refine S_callV (As := [.int (nI 0), .int (nI 0)]) (mc := 0) (ms := 0) (pc := 19) dX12_isAhead_19 miX12_n mvX12_n mlX12_402 rfl (sM_0 hs) rfl rfl rfl (RmOK.of rfl) (Q := fun r h => WP _ _ _ _ _ _ _ 22 [some (.ref B), some (.int a1), some (.int a2), some (.int a3)] (r.toList ++ []) h) (Cl.of miX12_n rfl rfl ?_) (fun _ _ q => q)
      refine S_aload_n (pc := 0) dX12_n_0 rfl rfl ?_
      refine S_getR (pc := 1) dX12_n_1 flX12_144 (sM_0 hs) rfl (rM_43 hs) ?_
      refine S_bipush (pc := 4) dX12_n_4 bp40 ?_
      refine S_iload_n (pc := 6) dX12_n_6 rfl rfl ?_
      refine S_imul (pc := 7) dX12_n_7 ?_
      refine S_iload_n (pc := 8) dX12_n_8 rfl rfl ?_
      refine S_iadd (pc := 9) dX12_n_9 ?_
      obtain ⟨hb6, H⟩ := H
      refine S_iald (pc := 10) dX12_n_10 (sM_23 hs) hb6 ?_
      refine S_ireturn dX12_n_11 rfl ?_
      show WP _ _ _ _ _ _ _ 22 [some (.ref B), some (.int a1), some (.int a2), some (.int a3)] [.int (f2 (B + 23) (((nI 40) * (nI 0)) + (nI 0)).toNatClampNeg)] (sh, f2, g3, fR)
      refine S_sipush (pc := 22) dX12_isAhead_22 sp999 ?_
      refine S_iload_n (pc := 25) dX12_isAhead_25 rfl rfl ?_
      refine S_isub (pc := 26) dX12_isAhead_26 ?_
      refine S_icmp_gt (pc := 27) (tgt := 34) dX12_isAhead_27 rfl (fun hc7 => ?_) (fun hc7 => ?_)
      · replace H := H.1 hc7
        refine S_iconst (pc := 34) dX12_isAhead_34 ic0 ?_
        exact S_zreturn dX12_isAhead_35 rfl (Or.inl rfl) H
      · replace H := H.2 hc7
        refine S_iconst (pc := 30) dX12_isAhead_30 ic1 ?_
        refine S_goto (pc := 31) (tgt := 35) dX12_isAhead_31 rfl ?_
        exact S_zreturn dX12_isAhead_35 rfl (Or.inr rfl) H
abbrev LpX12_later_22 (l : Launch) (G : Gx) (d : Nat) (Q : Option Value → Hp → Prop) (sh : Sh) (fR : FRt) (B : Nat) (f : FI) (g : FL) (a1 : Int32) (a2 : Int32) (a3 : Int32) : Prop := WP l G (Zq G 0 0 Q) mX12_later (rmd (d + 7) 0 0) 0 0 22 [some (.ref B), some (.int a1), some (.int a2), some (.int a3)] [] (sh, f, g, fR)
set_option maxHeartbeats 2000000 in
set_option maxRecDepth 4000 in
theorem VX12_later {l : Launch} {G : Gx} {d : Nat} {Q : Option Value → Hp → Prop} {sh : Sh} {fR : FRt} {B : Nat} {f : FI} {g : FL} {a1 : Int32} {a2 : Int32} (hs : StM sh fR B)
    (H : Cl l G (d + 6) 0 0 mX12_isAhead [.ref B, .int a1, .int (nI 0), .int (nI 200)] (sh, f, g, fR) (qi sh fR fun x3 f1 g2 => ((¬ x3 = 0 → Cl l G (d + 6) 0 0 mX12_copies [.ref B, .int (nI 1), .int (nI 0)] (sh, f1, g2, fR) (qv sh fR fun f5 g6 => LpX12_later_22 l G d Q sh fR B f5 g6 a1 a2 (nI 0))) ∧ (x3 = 0 → Q (some (.int (-1))) (sh, f1, g2, fR))))) :
    Cl l G (d + 7) 0 0 mX12_later [.ref B, .int a1, .int a2] (sh, f, g, fR) Q := by
  refine Cl.of (L0 := [some (.ref B), some (.int a1), some (.int a2), none]) miX12_later rfl rfl ?_
  refine S_aload_n (pc := 0) dX12_later_0 rfl rfl ?_
  refine S_iload_n (pc := 1) dX12_later_1 rfl rfl ?_
  refine S_iconst (pc := 2) dX12_later_2 ic0 ?_
  refine S_sipush (pc := 3) dX12_later_3 sp200 ?_
  refine S_callV (As := [.int a1, .int (nI 0), .int (nI 200)]) (mc := 0) (ms := 0) (pc := 6) dX12_later_6 miX12_isAhead mvX12_isAhead mlX12_585 rfl (sM_0 hs) rfl rfl rfl (RmOK.of rfl) H ?_
  rintro _ _ ⟨x3, f1, g2, rfl, rfl, H⟩
  show WP _ _ _ _ _ _ _ 9 [some (.ref B), some (.int a1), some (.int a2), none] [.int x3] (sh, f1, g2, fR)
  refine S_if_ne (pc := 9) (tgt := 14) dX12_later_9 rfl (fun hc4 => ?_) (fun hc4 => ?_)
  · replace H := H.1 hc4
    refine S_aload_n (pc := 14) dX12_later_14 rfl rfl ?_
    refine S_iconst (pc := 15) dX12_later_15 ic1 ?_
    refine S_iconst (pc := 16) dX12_later_16 ic0 ?_
    refine S_callV (As := [.int (nI 1), .int (nI 0)]) (mc := 0) (ms := 0) (pc := 17) dX12_later_17 miX12_copies mvX12_copies mlX12_419 rfl (sM_0 hs) rfl rfl rfl (RmOK.of rfl) H ?_
    rintro _ _ ⟨f5, g6, rfl, rfl, H⟩
    show WP _ _ _ _ _ _ _ 20 [some (.ref B), some (.int a1), some (.int a2), none] [] (sh, f5, g6, fR)
    refine S_iconst (pc := 20) dX12_later_20 ic0 ?_
    refine S_istore_n (pc := 21) (L' := [some (.ref B), some (.int a1), some (.int a2), some (.int (nI 0))]) dX12_later_21 rfl (by decide) rfl ?_
    exact H
  · replace H := H.2 hc4
    refine S_iconst (pc := 12) dX12_later_12 icm1 ?_
    exact S_ireturn dX12_later_13 rfl H
set_option maxHeartbeats 2000000 in
set_option maxRecDepth 4000 in
theorem VX12_later_22 {l : Launch} {G : Gx} {d : Nat} {Q : Option Value → Hp → Prop} {sh : Sh} {fR : FRt} {B : Nat} {f : FI} {g : FL} {a1 : Int32} {a2 : Int32} {a3 : Int32} (hs : StM sh fR B)
    (H : ((a1 ≤ a3 → ((a2 = nI 0 → inb (((nI 40) * (nI 1)) + (nI 1)) 880 ∧ Q (some (.int (f (B + 23) (((nI 40) * (nI 1)) + (nI 1)).toNatClampNeg))) (sh, f, g, fR)) ∧ (a2 = nI 1 → inb (((nI 40) * (nI 1)) + (nI 2)) 880 ∧ Q (some (.int (f (B + 23) (((nI 40) * (nI 1)) + (nI 2)).toNatClampNeg))) (sh, f, g, fR)) ∧ (a2 = nI 2 → inb (((nI 40) * (nI 1)) + (nI 4)) 880 ∧ Q (some (.int (f (B + 23) (((nI 40) * (nI 1)) + (nI 4)).toNatClampNeg))) (sh, f, g, fR)) ∧ (a2 = nI 3 → Cl l G (d + 6) 0 0 mX12_flying [.ref B, .int (nI 1)] (sh, f, g, fR) (qi sh fR fun x17 f15 g16 => Q (some (.int x17)) (sh, f15, g16, fR))) ∧ (a2 = nI 4 → inb (((nI 40) * (nI 1)) + (nI 5)) 880 ∧ Q (some (.int (f (B + 23) (((nI 40) * (nI 1)) + (nI 5)).toNatClampNeg))) (sh, f, g, fR)) ∧ ((¬ a2 = nI 0 ∧ ¬ a2 = nI 1 ∧ ¬ a2 = nI 2 ∧ ¬ a2 = nI 3 ∧ ¬ a2 = nI 4) → Q (some (.int (-1))) (sh, f, g, fR)))) ∧ (¬ a1 ≤ a3 → Cl l G (d + 6) 0 0 mX12_ticksOn [.ref B, .int (nI 1)] (sh, f, g, fR) (qv sh fR fun f20 g21 => LpX12_later_22 l G d Q sh fR B f20 g21 a1 a2 (a3 + nI 1))))) :
    LpX12_later_22 l G d Q sh fR B f g a1 a2 a3 := by
  refine S_iload_n (pc := 22) dX12_later_22 rfl rfl ?_
  refine S_iload_n (pc := 23) dX12_later_23 rfl rfl ?_
  refine S_icmp_ge (pc := 24) (tgt := 38) dX12_later_24 rfl (fun hc7 => ?_) (fun hc7 => ?_)
  · replace H := H.1 hc7
    refine S_iload_n (pc := 38) dX12_later_38 rfl rfl ?_
    by_cases hc8 : a2 = nI 0
    · replace H := H.1 hc8
      refine S_tsw (pc := 39) (tgt := 72) dX12_later_39 (Or.inr ⟨by rw [hc8]; decide, by rw [hc8]; decide, _, by rw [hc8]; rfl, rfl⟩) ?_
      refine S_aload_n (pc := 72) dX12_later_72 rfl rfl ?_
      refine S_iconst (pc := 73) dX12_later_73 ic1 ?_
      refine S_iconst (pc := 74) dX12_later_74 ic1 ?_
      refine S_callV (As := [.int (nI 1), .int (nI 1)]) (mc := 0) (ms := 0) (pc := 75) dX12_later_75 miX12_n mvX12_n mlX12_402 rfl (sM_0 hs) rfl rfl rfl (RmOK.of rfl) (Q := fun r h => WP _ _ _ _ _ _ _ 78 [some (.ref B), some (.int a1), some (.int a2), some (.int a3)] (r.toList ++ []) h) (Cl.of miX12_n rfl rfl ?_) (fun _ _ q => q)
      refine S_aload_n (pc := 0) dX12_n_0 rfl rfl ?_
      refine S_getR (pc := 1) dX12_n_1 flX12_144 (sM_0 hs) rfl (rM_43 hs) ?_
      refine S_bipush (pc := 4) dX12_n_4 bp40 ?_
      refine S_iload_n (pc := 6) dX12_n_6 rfl rfl ?_
      refine S_imul (pc := 7) dX12_n_7 ?_
      refine S_iload_n (pc := 8) dX12_n_8 rfl rfl ?_
      refine S_iadd (pc := 9) dX12_n_9 ?_
      obtain ⟨hb9, H⟩ := H
      refine S_iald (pc := 10) dX12_n_10 (sM_23 hs) hb9 ?_
      refine S_ireturn dX12_n_11 rfl ?_
      show WP _ _ _ _ _ _ _ 78 [some (.ref B), some (.int a1), some (.int a2), some (.int a3)] [.int (f (B + 23) (((nI 40) * (nI 1)) + (nI 1)).toNatClampNeg)] (sh, f, g, fR)
      exact S_ireturn dX12_later_78 rfl H
    · by_cases hc10 : a2 = nI 1
      · replace H := H.2.1 hc10
        refine S_tsw (pc := 39) (tgt := 79) dX12_later_39 (Or.inr ⟨by rw [hc10]; decide, by rw [hc10]; decide, _, by rw [hc10]; rfl, rfl⟩) ?_
        refine S_aload_n (pc := 79) dX12_later_79 rfl rfl ?_
        refine S_iconst (pc := 80) dX12_later_80 ic1 ?_
        refine S_iconst (pc := 81) dX12_later_81 ic2 ?_
        refine S_callV (As := [.int (nI 1), .int (nI 2)]) (mc := 0) (ms := 0) (pc := 82) dX12_later_82 miX12_n mvX12_n mlX12_402 rfl (sM_0 hs) rfl rfl rfl (RmOK.of rfl) (Q := fun r h => WP _ _ _ _ _ _ _ 85 [some (.ref B), some (.int a1), some (.int a2), some (.int a3)] (r.toList ++ []) h) (Cl.of miX12_n rfl rfl ?_) (fun _ _ q => q)
        refine S_aload_n (pc := 0) dX12_n_0 rfl rfl ?_
        refine S_getR (pc := 1) dX12_n_1 flX12_144 (sM_0 hs) rfl (rM_43 hs) ?_
        refine S_bipush (pc := 4) dX12_n_4 bp40 ?_
        refine S_iload_n (pc := 6) dX12_n_6 rfl rfl ?_
        refine S_imul (pc := 7) dX12_n_7 ?_
        refine S_iload_n (pc := 8) dX12_n_8 rfl rfl ?_
        refine S_iadd (pc := 9) dX12_n_9 ?_
        obtain ⟨hb11, H⟩ := H
        refine S_iald (pc := 10) dX12_n_10 (sM_23 hs) hb11 ?_
        refine S_ireturn dX12_n_11 rfl ?_
        show WP _ _ _ _ _ _ _ 85 [some (.ref B), some (.int a1), some (.int a2), some (.int a3)] [.int (f (B + 23) (((nI 40) * (nI 1)) + (nI 2)).toNatClampNeg)] (sh, f, g, fR)
        exact S_ireturn dX12_later_85 rfl H
      · by_cases hc12 : a2 = nI 2
        · replace H := H.2.2.1 hc12
          refine S_tsw (pc := 39) (tgt := 86) dX12_later_39 (Or.inr ⟨by rw [hc12]; decide, by rw [hc12]; decide, _, by rw [hc12]; rfl, rfl⟩) ?_
          refine S_aload_n (pc := 86) dX12_later_86 rfl rfl ?_
          refine S_iconst (pc := 87) dX12_later_87 ic1 ?_
          refine S_iconst (pc := 88) dX12_later_88 ic4 ?_
          refine S_callV (As := [.int (nI 1), .int (nI 4)]) (mc := 0) (ms := 0) (pc := 89) dX12_later_89 miX12_n mvX12_n mlX12_402 rfl (sM_0 hs) rfl rfl rfl (RmOK.of rfl) (Q := fun r h => WP _ _ _ _ _ _ _ 92 [some (.ref B), some (.int a1), some (.int a2), some (.int a3)] (r.toList ++ []) h) (Cl.of miX12_n rfl rfl ?_) (fun _ _ q => q)
          refine S_aload_n (pc := 0) dX12_n_0 rfl rfl ?_
          refine S_getR (pc := 1) dX12_n_1 flX12_144 (sM_0 hs) rfl (rM_43 hs) ?_
          refine S_bipush (pc := 4) dX12_n_4 bp40 ?_
          refine S_iload_n (pc := 6) dX12_n_6 rfl rfl ?_
          refine S_imul (pc := 7) dX12_n_7 ?_
          refine S_iload_n (pc := 8) dX12_n_8 rfl rfl ?_
          refine S_iadd (pc := 9) dX12_n_9 ?_
          obtain ⟨hb13, H⟩ := H
          refine S_iald (pc := 10) dX12_n_10 (sM_23 hs) hb13 ?_
          refine S_ireturn dX12_n_11 rfl ?_
          show WP _ _ _ _ _ _ _ 92 [some (.ref B), some (.int a1), some (.int a2), some (.int a3)] [.int (f (B + 23) (((nI 40) * (nI 1)) + (nI 4)).toNatClampNeg)] (sh, f, g, fR)
          exact S_ireturn dX12_later_92 rfl H
        · by_cases hc14 : a2 = nI 3
          · replace H := H.2.2.2.1 hc14
            refine S_tsw (pc := 39) (tgt := 93) dX12_later_39 (Or.inr ⟨by rw [hc14]; decide, by rw [hc14]; decide, _, by rw [hc14]; rfl, rfl⟩) ?_
            refine S_aload_n (pc := 93) dX12_later_93 rfl rfl ?_
            refine S_iconst (pc := 94) dX12_later_94 ic1 ?_
            refine S_callV (As := [.int (nI 1)]) (mc := 0) (ms := 0) (pc := 95) dX12_later_95 miX12_flying mvX12_flying mlX12_567 rfl (sM_0 hs) rfl rfl rfl (RmOK.of rfl) H ?_
            rintro _ _ ⟨x17, f15, g16, rfl, rfl, H⟩
            show WP _ _ _ _ _ _ _ 98 [some (.ref B), some (.int a1), some (.int a2), some (.int a3)] [.int x17] (sh, f15, g16, fR)
            exact S_ireturn dX12_later_98 rfl H
          · by_cases hc18 : a2 = nI 4
            · replace H := H.2.2.2.2.1 hc18
              refine S_tsw (pc := 39) (tgt := 99) dX12_later_39 (Or.inr ⟨by rw [hc18]; decide, by rw [hc18]; decide, _, by rw [hc18]; rfl, rfl⟩) ?_
              refine S_aload_n (pc := 99) dX12_later_99 rfl rfl ?_
              refine S_iconst (pc := 100) dX12_later_100 ic1 ?_
              refine S_iconst (pc := 101) dX12_later_101 ic5 ?_
              refine S_callV (As := [.int (nI 1), .int (nI 5)]) (mc := 0) (ms := 0) (pc := 102) dX12_later_102 miX12_n mvX12_n mlX12_402 rfl (sM_0 hs) rfl rfl rfl (RmOK.of rfl) (Q := fun r h => WP _ _ _ _ _ _ _ 105 [some (.ref B), some (.int a1), some (.int a2), some (.int a3)] (r.toList ++ []) h) (Cl.of miX12_n rfl rfl ?_) (fun _ _ q => q)
              refine S_aload_n (pc := 0) dX12_n_0 rfl rfl ?_
              refine S_getR (pc := 1) dX12_n_1 flX12_144 (sM_0 hs) rfl (rM_43 hs) ?_
              refine S_bipush (pc := 4) dX12_n_4 bp40 ?_
              refine S_iload_n (pc := 6) dX12_n_6 rfl rfl ?_
              refine S_imul (pc := 7) dX12_n_7 ?_
              refine S_iload_n (pc := 8) dX12_n_8 rfl rfl ?_
              refine S_iadd (pc := 9) dX12_n_9 ?_
              obtain ⟨hb19, H⟩ := H
              refine S_iald (pc := 10) dX12_n_10 (sM_23 hs) hb19 ?_
              refine S_ireturn dX12_n_11 rfl ?_
              show WP _ _ _ _ _ _ _ 105 [some (.ref B), some (.int a1), some (.int a2), some (.int a3)] [.int (f (B + 23) (((nI 40) * (nI 1)) + (nI 5)).toNatClampNeg)] (sh, f, g, fR)
              exact S_ireturn dX12_later_105 rfl H
            · replace H := H.2.2.2.2.2 ⟨hc8, hc10, hc12, hc14, hc18⟩
              refine S_tsw (pc := 39) (tgt := 106) dX12_later_39 (Or.inl ⟨tsw_out (lo := 0) (hi := 4) (fun j h1 h2 => by rcases (show j = 0 ∨ j = 1 ∨ j = 2 ∨ j = 3 ∨ j = 4 by omega) with rfl | rfl | rfl | rfl | rfl <;> assumption), rfl⟩) ?_
              refine S_iconst (pc := 106) dX12_later_106 icm1 ?_
              exact S_ireturn dX12_later_107 rfl H
  · replace H := H.2 hc7
    refine S_aload_n (pc := 27) dX12_later_27 rfl rfl ?_
    refine S_iconst (pc := 28) dX12_later_28 ic1 ?_
    refine S_callV (As := [.int (nI 1)]) (mc := 0) (ms := 0) (pc := 29) dX12_later_29 miX12_ticksOn mvX12_ticksOn mlX12_588 rfl (sM_0 hs) rfl rfl rfl (RmOK.of rfl) H ?_
    rintro _ _ ⟨f20, g21, rfl, rfl, H⟩
    show WP _ _ _ _ _ _ _ 32 [some (.ref B), some (.int a1), some (.int a2), some (.int a3)] [] (sh, f20, g21, fR)
    refine S_iinc (pc := 32) (v := nI 1) (L' := [some (.ref B), some (.int a1), some (.int a2), some (.int (a3 + nI 1))]) dX12_later_32 rfl ic1 rfl ?_
    refine S_goto (pc := 35) (tgt := 22) dX12_later_35 rfl ?_
    exact H
abbrev LpX12_finished_2 (l : Launch) (G : Gx) (d : Nat) (Q : Option Value → Hp → Prop) (sh : Sh) (fR : FRt) (B : Nat) (f : FI) (g : FL) (a1 : Int32) : Prop := WP l G (Zq G 0 0 Q) mX12_finished (rmd (d + 7) 0 0) 0 0 2 [some (.ref B), some (.int a1)] [] (sh, f, g, fR)
set_option maxHeartbeats 2000000 in
set_option maxRecDepth 4000 in
theorem VX12_finished {l : Launch} {G : Gx} {d : Nat} {Q : Option Value → Hp → Prop} {sh : Sh} {fR : FRt} {B : Nat} {f : FI} {g : FL}  (hs : StM sh fR B)
    (H : LpX12_finished_2 l G d Q sh fR B f g (nI 0)) :
    Cl l G (d + 7) 0 0 mX12_finished [.ref B] (sh, f, g, fR) Q := by
  refine Cl.of (L0 := [some (.ref B), none]) miX12_finished rfl rfl ?_
  refine S_iconst (pc := 0) dX12_finished_0 ic0 ?_
  refine S_istore_n (pc := 1) (L' := [some (.ref B), some (.int (nI 0))]) dX12_finished_1 rfl (by decide) rfl ?_
  exact H
set_option maxHeartbeats 2000000 in
set_option maxRecDepth 4000 in
theorem VX12_finished_2 {l : Launch} {G : Gx} {d : Nat} {Q : Option Value → Hp → Prop} {sh : Sh} {fR : FRt} {B : Nat} {f : FI} {g : FL} {a1 : Int32} (hs : StM sh fR B)
    (H : Cl l G (d + 6) 0 0 mX12_isAhead [.ref B, .int a1, .int (nI 0), .int (nI 200)] (sh, f, g, fR) (qi sh fR fun x3 f1 g2 => ((x3 = 0 → Q (some (.int (-1))) (sh, f1, g2, fR)) ∧ (¬ x3 = 0 → inb (((nI 40) * (nI 1)) + (nI 2)) 880 ∧ inb (f1 B 13) 2 ∧ ((¬ (f1 (B + 23) (((nI 40) * (nI 1)) + (nI 2)).toNatClampNeg) = (f1 (B + 2) (f1 B 13).toNatClampNeg) → Cl l G (d + 6) 0 0 mX12_ticksOn [.ref B, .int (nI 1)] (sh, f1, g2, fR) (qv sh fR fun f8 g9 => LpX12_finished_2 l G d Q sh fR B f8 g9 (a1 + nI 1))) ∧ ((f1 (B + 23) (((nI 40) * (nI 1)) + (nI 2)).toNatClampNeg) = (f1 (B + 2) (f1 B 13).toNatClampNeg) → Q (some (.int a1)) (sh, f1, g2, fR))))))) :
    LpX12_finished_2 l G d Q sh fR B f g a1 := by
  refine S_aload_n (pc := 2) dX12_finished_2 rfl rfl ?_
  refine S_iload_n (pc := 3) dX12_finished_3 rfl rfl ?_
  refine S_iconst (pc := 4) dX12_finished_4 ic0 ?_
  refine S_sipush (pc := 5) dX12_finished_5 sp200 ?_
  refine S_callV (As := [.int a1, .int (nI 0), .int (nI 200)]) (mc := 0) (ms := 0) (pc := 8) dX12_finished_8 miX12_isAhead mvX12_isAhead mlX12_585 rfl (sM_0 hs) rfl rfl rfl (RmOK.of rfl) H ?_
  rintro _ _ ⟨x3, f1, g2, rfl, rfl, H⟩
  show WP _ _ _ _ _ _ _ 11 [some (.ref B), some (.int a1)] [.int x3] (sh, f1, g2, fR)
  refine S_if_eq (pc := 11) (tgt := 45) dX12_finished_11 rfl (fun hc4 => ?_) (fun hc4 => ?_)
  · replace H := H.1 hc4
    refine S_iconst (pc := 45) dX12_finished_45 icm1 ?_
    exact S_ireturn dX12_finished_46 rfl H
  · replace H := H.2 hc4
    refine S_aload_n (pc := 14) dX12_finished_14 rfl rfl ?_
    refine S_iconst (pc := 15) dX12_finished_15 ic1 ?_
    refine S_iconst (pc := 16) dX12_finished_16 ic2 ?_
    refine S_callV (As := [.int (nI 1), .int (nI 2)]) (mc := 0) (ms := 0) (pc := 17) dX12_finished_17 miX12_n mvX12_n mlX12_402 rfl (sM_0 hs) rfl rfl rfl (RmOK.of rfl) (Q := fun r h => WP _ _ _ _ _ _ _ 20 [some (.ref B), some (.int a1)] (r.toList ++ []) h) (Cl.of miX12_n rfl rfl ?_) (fun _ _ q => q)
    refine S_aload_n (pc := 0) dX12_n_0 rfl rfl ?_
    refine S_getR (pc := 1) dX12_n_1 flX12_144 (sM_0 hs) rfl (rM_43 hs) ?_
    refine S_bipush (pc := 4) dX12_n_4 bp40 ?_
    refine S_iload_n (pc := 6) dX12_n_6 rfl rfl ?_
    refine S_imul (pc := 7) dX12_n_7 ?_
    refine S_iload_n (pc := 8) dX12_n_8 rfl rfl ?_
    refine S_iadd (pc := 9) dX12_n_9 ?_
    obtain ⟨hb5, H⟩ := H
    refine S_iald (pc := 10) dX12_n_10 (sM_23 hs) hb5 ?_
    refine S_ireturn dX12_n_11 rfl ?_
    show WP _ _ _ _ _ _ _ 20 [some (.ref B), some (.int a1)] [.int (f1 (B + 23) (((nI 40) * (nI 1)) + (nI 2)).toNatClampNeg)] (sh, f1, g2, fR)
    refine S_aload_n (pc := 20) dX12_finished_20 rfl rfl ?_
    refine S_getR (pc := 21) dX12_finished_21 flX12_54 (sM_0 hs) rfl (rM_14 hs) ?_
    refine S_aload_n (pc := 24) dX12_finished_24 rfl rfl ?_
    refine S_get (pc := 25) (v := .int (f1 B 13)) dX12_finished_25 flX12_51 (sM_0 hs) rfl ?_
    obtain ⟨hb6, H⟩ := H
    refine S_iald (pc := 28) dX12_finished_28 (sM_2 hs) hb6 ?_
    refine S_icmp_ne (pc := 29) (tgt := 34) dX12_finished_29 rfl (fun hc7 => ?_) (fun hc7 => ?_)
    · replace H := H.1 hc7
      refine S_aload_n (pc := 34) dX12_finished_34 rfl rfl ?_
      refine S_iconst (pc := 35) dX12_finished_35 ic1 ?_
      refine S_callV (As := [.int (nI 1)]) (mc := 0) (ms := 0) (pc := 36) dX12_finished_36 miX12_ticksOn mvX12_ticksOn mlX12_588 rfl (sM_0 hs) rfl rfl rfl (RmOK.of rfl) H ?_
      rintro _ _ ⟨f8, g9, rfl, rfl, H⟩
      show WP _ _ _ _ _ _ _ 39 [some (.ref B), some (.int a1)] [] (sh, f8, g9, fR)
      refine S_iinc (pc := 39) (v := nI 1) (L' := [some (.ref B), some (.int (a1 + nI 1))]) dX12_finished_39 rfl ic1 rfl ?_
      refine S_goto (pc := 42) (tgt := 2) dX12_finished_42 rfl ?_
      exact H
    · replace H := H.2 hc7
      refine S_iload_n (pc := 32) dX12_finished_32 rfl rfl ?_
      exact S_ireturn dX12_finished_33 rfl H
set_option maxHeartbeats 2000000 in
set_option maxRecDepth 4000 in
theorem VX12_finish {l : Launch} {G : Gx} {d : Nat} {Q : Option Value → Hp → Prop} {sh : Sh} {fR : FRt} {B : Nat} {f : FI} {g : FL}  (hs : StM sh fR B)
    (H : Cl l G (d + 7) 0 0 mX12_copies [.ref B, .int (nI 1), .int (nI 0)] (sh, f, g, fR) (qv sh fR fun f1 g2 => Cl l G (d + 7) 0 0 mX12_finished [.ref B] (sh, f1, g2, fR) (qi sh fR fun x5 f3 g4 => Q (some (.int x5)) (sh, f3, g4, fR)))) :
    Cl l G (d + 8) 0 0 mX12_finish [.ref B] (sh, f, g, fR) Q := by
  refine Cl.of (L0 := [some (.ref B)]) miX12_finish rfl rfl ?_
  refine S_aload_n (pc := 0) dX12_finish_0 rfl rfl ?_
  refine S_iconst (pc := 1) dX12_finish_1 ic1 ?_
  refine S_iconst (pc := 2) dX12_finish_2 ic0 ?_
  refine S_callV (As := [.int (nI 1), .int (nI 0)]) (mc := 0) (ms := 0) (pc := 3) dX12_finish_3 miX12_copies mvX12_copies mlX12_419 rfl (sM_0 hs) rfl rfl rfl (RmOK.of rfl) H ?_
  rintro _ _ ⟨f1, g2, rfl, rfl, H⟩
  show WP _ _ _ _ _ _ _ 6 [some (.ref B)] [] (sh, f1, g2, fR)
  refine S_aload_n (pc := 6) dX12_finish_6 rfl rfl ?_
  refine S_callV (As := []) (mc := 0) (ms := 0) (pc := 7) dX12_finish_7 miX12_finished mvX12_finished mlX12_591 rfl (sM_0 hs) rfl rfl rfl (RmOK.of rfl) H ?_
  rintro _ _ ⟨x5, f3, g4, rfl, rfl, H⟩
  show WP _ _ _ _ _ _ _ 10 [some (.ref B)] [.int x5] (sh, f3, g4, fR)
  exact S_ireturn dX12_finish_10 rfl H
set_option maxHeartbeats 2000000 in
set_option maxRecDepth 4000 in
theorem VX12_without {l : Launch} {G : Gx} {d : Nat} {Q : Option Value → Hp → Prop} {sh : Sh} {fR : FRt} {B : Nat} {f : FI} {g : FL} {a1 : Int32} (hs : StM sh fR B)
    (H : Cl l G (d + 7) 0 0 mX12_isPath [.ref B, .int a1] (sh, f, g, fR) (qi sh fR fun x3 f1 g2 => ((¬ x3 = 0 → Cl l G (d + 7) 0 0 mX12_copies [.ref B, .int (nI 1), .int (nI 0)] (sh, f1, g2, fR) (qv sh fR fun f5 g6 => Cl l G (d + 7) 0 0 mX12_dies [.ref B, .int (nI 1), .int a1] (sh, f5, g6, fR) (qv sh fR fun f7 g8 => Cl l G (d + 7) 0 0 mX12_finished [.ref B] (sh, f7, g8, fR) (qi sh fR fun x11 f9 g10 => Q (some (.int x11)) (sh, f9, g10, fR))))) ∧ (x3 = 0 → Q (some (.int (-1))) (sh, f1, g2, fR))))) :
    Cl l G (d + 8) 0 0 mX12_without [.ref B, .int a1] (sh, f, g, fR) Q := by
  refine Cl.of (L0 := [some (.ref B), some (.int a1)]) miX12_without rfl rfl ?_
  refine S_aload_n (pc := 0) dX12_without_0 rfl rfl ?_
  refine S_iload_n (pc := 1) dX12_without_1 rfl rfl ?_
  refine S_callV (As := [.int a1]) (mc := 0) (ms := 0) (pc := 2) dX12_without_2 miX12_isPath mvX12_isPath mlX12_573 rfl (sM_0 hs) rfl rfl rfl (RmOK.of rfl) H ?_
  rintro _ _ ⟨x3, f1, g2, rfl, rfl, H⟩
  show WP _ _ _ _ _ _ _ 5 [some (.ref B), some (.int a1)] [.int x3] (sh, f1, g2, fR)
  refine S_if_ne (pc := 5) (tgt := 10) dX12_without_5 rfl (fun hc4 => ?_) (fun hc4 => ?_)
  · replace H := H.1 hc4
    refine S_aload_n (pc := 10) dX12_without_10 rfl rfl ?_
    refine S_iconst (pc := 11) dX12_without_11 ic1 ?_
    refine S_iconst (pc := 12) dX12_without_12 ic0 ?_
    refine S_callV (As := [.int (nI 1), .int (nI 0)]) (mc := 0) (ms := 0) (pc := 13) dX12_without_13 miX12_copies mvX12_copies mlX12_419 rfl (sM_0 hs) rfl rfl rfl (RmOK.of rfl) H ?_
    rintro _ _ ⟨f5, g6, rfl, rfl, H⟩
    show WP _ _ _ _ _ _ _ 16 [some (.ref B), some (.int a1)] [] (sh, f5, g6, fR)
    refine S_aload_n (pc := 16) dX12_without_16 rfl rfl ?_
    refine S_iconst (pc := 17) dX12_without_17 ic1 ?_
    refine S_iload_n (pc := 18) dX12_without_18 rfl rfl ?_
    refine S_callV (As := [.int (nI 1), .int a1]) (mc := 0) (ms := 0) (pc := 19) dX12_without_19 miX12_dies mvX12_dies mlX12_516 rfl (sM_0 hs) rfl rfl rfl (RmOK.of rfl) H ?_
    rintro _ _ ⟨f7, g8, rfl, rfl, H⟩
    show WP _ _ _ _ _ _ _ 22 [some (.ref B), some (.int a1)] [] (sh, f7, g8, fR)
    refine S_aload_n (pc := 22) dX12_without_22 rfl rfl ?_
    refine S_callV (As := []) (mc := 0) (ms := 0) (pc := 23) dX12_without_23 miX12_finished mvX12_finished mlX12_591 rfl (sM_0 hs) rfl rfl rfl (RmOK.of rfl) H ?_
    rintro _ _ ⟨x11, f9, g10, rfl, rfl, H⟩
    show WP _ _ _ _ _ _ _ 26 [some (.ref B), some (.int a1)] [.int x11] (sh, f9, g10, fR)
    exact S_ireturn dX12_without_26 rfl H
  · replace H := H.2 hc4
    refine S_iconst (pc := 8) dX12_without_8 icm1 ?_
    exact S_ireturn dX12_without_9 rfl H
abbrev LpX12_alone_18 (l : Launch) (G : Gx) (d : Nat) (Q : Option Value → Hp → Prop) (sh : Sh) (fR : FRt) (B : Nat) (f : FI) (g : FL) (a1 : Int32) (a2 : Int32) : Prop := WP l G (Zq G 0 0 Q) mX12_alone (rmd (d + 8) 0 0) 0 0 18 [some (.ref B), some (.int a1), some (.int a2)] [] (sh, f, g, fR)
abbrev LpX12_alone_42 (l : Launch) (G : Gx) (d : Nat) (Q : Option Value → Hp → Prop) (sh : Sh) (fR : FRt) (B : Nat) (f : FI) (g : FL) (a1 : Int32) (a2 : Int32) : Prop := WP l G (Zq G 0 0 Q) mX12_alone (rmd (d + 8) 0 0) 0 0 42 [some (.ref B), some (.int a1), some (.int a2)] [] (sh, f, g, fR)
set_option maxHeartbeats 2000000 in
set_option maxRecDepth 4000 in
theorem VX12_alone {l : Launch} {G : Gx} {d : Nat} {Q : Option Value → Hp → Prop} {sh : Sh} {fR : FRt} {B : Nat} {f : FI} {g : FL} {a1 : Int32} (hs : StM sh fR B)
    (H : Cl l G (d + 7) 0 0 mX12_isPath [.ref B, .int a1] (sh, f, g, fR) (qi sh fR fun x3 f1 g2 => ((¬ x3 = 0 → Cl l G (d + 7) 0 0 mX12_copies [.ref B, .int (nI 1), .int (nI 0)] (sh, f1, g2, fR) (qv sh fR fun f5 g6 => LpX12_alone_18 l G d Q sh fR B f5 g6 a1 (nI 0))) ∧ (x3 = 0 → Q (some (.int (-1))) (sh, f1, g2, fR))))) :
    Cl l G (d + 8) 0 0 mX12_alone [.ref B, .int a1] (sh, f, g, fR) Q := by
  refine Cl.of (L0 := [some (.ref B), some (.int a1), none]) miX12_alone rfl rfl ?_
  refine S_aload_n (pc := 0) dX12_alone_0 rfl rfl ?_
  refine S_iload_n (pc := 1) dX12_alone_1 rfl rfl ?_
  refine S_callV (As := [.int a1]) (mc := 0) (ms := 0) (pc := 2) dX12_alone_2 miX12_isPath mvX12_isPath mlX12_573 rfl (sM_0 hs) rfl rfl rfl (RmOK.of rfl) H ?_
  rintro _ _ ⟨x3, f1, g2, rfl, rfl, H⟩
  show WP _ _ _ _ _ _ _ 5 [some (.ref B), some (.int a1), none] [.int x3] (sh, f1, g2, fR)
  refine S_if_ne (pc := 5) (tgt := 10) dX12_alone_5 rfl (fun hc4 => ?_) (fun hc4 => ?_)
  · replace H := H.1 hc4
    refine S_aload_n (pc := 10) dX12_alone_10 rfl rfl ?_
    refine S_iconst (pc := 11) dX12_alone_11 ic1 ?_
    refine S_iconst (pc := 12) dX12_alone_12 ic0 ?_
    refine S_callV (As := [.int (nI 1), .int (nI 0)]) (mc := 0) (ms := 0) (pc := 13) dX12_alone_13 miX12_copies mvX12_copies mlX12_419 rfl (sM_0 hs) rfl rfl rfl (RmOK.of rfl) H ?_
    rintro _ _ ⟨f5, g6, rfl, rfl, H⟩
    show WP _ _ _ _ _ _ _ 16 [some (.ref B), some (.int a1), none] [] (sh, f5, g6, fR)
    refine S_iconst (pc := 16) dX12_alone_16 ic0 ?_
    refine S_istore_n (pc := 17) (L' := [some (.ref B), some (.int a1), some (.int (nI 0))]) dX12_alone_17 rfl (by decide) rfl ?_
    exact H
  · replace H := H.2 hc4
    refine S_iconst (pc := 8) dX12_alone_8 icm1 ?_
    exact S_ireturn dX12_alone_9 rfl H
set_option maxHeartbeats 2000000 in
set_option maxRecDepth 4000 in
theorem VX12_alone_18 {l : Launch} {G : Gx} {d : Nat} {Q : Option Value → Hp → Prop} {sh : Sh} {fR : FRt} {B : Nat} {f : FI} {g : FL} {a1 : Int32} {a2 : Int32} (hs : StM sh fR B)
    (H : inb (f B 13) 2 ∧ (((f (B + 6) (f B 13).toNatClampNeg) ≤ a2 → Cl l G (d + 7) 0 0 mX12_finished [.ref B] (sh, f, g, fR) (qi sh fR fun x11 f9 g10 => Q (some (.int x11)) (sh, f9, g10, fR))) ∧ (¬ (f (B + 6) (f B 13).toNatClampNeg) ≤ a2 → ((a2 = a1 → LpX12_alone_42 l G d Q sh fR B f g a1 a2) ∧ (¬ a2 = a1 → Cl l G (d + 7) 0 0 mX12_dies [.ref B, .int (nI 1), .int a2] (sh, f, g, fR) (qv sh fR fun f13 g14 => LpX12_alone_42 l G d Q sh fR B f13 g14 a1 a2)))))) :
    LpX12_alone_18 l G d Q sh fR B f g a1 a2 := by
  refine S_iload_n (pc := 18) dX12_alone_18 rfl rfl ?_
  refine S_aload_n (pc := 19) dX12_alone_19 rfl rfl ?_
  refine S_getR (pc := 20) dX12_alone_20 flX12_66 (sM_0 hs) rfl (rM_18 hs) ?_
  refine S_aload_n (pc := 23) dX12_alone_23 rfl rfl ?_
  refine S_get (pc := 24) (v := .int (f B 13)) dX12_alone_24 flX12_51 (sM_0 hs) rfl ?_
  obtain ⟨hb7, H⟩ := H
  refine S_iald (pc := 27) dX12_alone_27 (sM_6 hs) hb7 ?_
  refine S_icmp_ge (pc := 28) (tgt := 48) dX12_alone_28 rfl (fun hc8 => ?_) (fun hc8 => ?_)
  · replace H := H.1 hc8
    refine S_aload_n (pc := 48) dX12_alone_48 rfl rfl ?_
    refine S_callV (As := []) (mc := 0) (ms := 0) (pc := 49) dX12_alone_49 miX12_finished mvX12_finished mlX12_591 rfl (sM_0 hs) rfl rfl rfl (RmOK.of rfl) H ?_
    rintro _ _ ⟨x11, f9, g10, rfl, rfl, H⟩
    show WP _ _ _ _ _ _ _ 52 [some (.ref B), some (.int a1), some (.int a2)] [.int x11] (sh, f9, g10, fR)
    exact S_ireturn dX12_alone_52 rfl H
  · replace H := H.2 hc8
    refine S_iload_n (pc := 31) dX12_alone_31 rfl rfl ?_
    refine S_iload_n (pc := 32) dX12_alone_32 rfl rfl ?_
    refine S_icmp_eq (pc := 33) (tgt := 42) dX12_alone_33 rfl (fun hc12 => ?_) (fun hc12 => ?_)
    · replace H := H.1 hc12
      exact H
    · replace H := H.2 hc12
      refine S_aload_n (pc := 36) dX12_alone_36 rfl rfl ?_
      refine S_iconst (pc := 37) dX12_alone_37 ic1 ?_
      refine S_iload_n (pc := 38) dX12_alone_38 rfl rfl ?_
      refine S_callV (As := [.int (nI 1), .int a2]) (mc := 0) (ms := 0) (pc := 39) dX12_alone_39 miX12_dies mvX12_dies mlX12_516 rfl (sM_0 hs) rfl rfl rfl (RmOK.of rfl) H ?_
      rintro _ _ ⟨f13, g14, rfl, rfl, H⟩
      show WP _ _ _ _ _ _ _ 42 [some (.ref B), some (.int a1), some (.int a2)] [] (sh, f13, g14, fR)
      exact H
set_option maxHeartbeats 2000000 in
set_option maxRecDepth 4000 in
theorem VX12_alone_42 {l : Launch} {G : Gx} {d : Nat} {Q : Option Value → Hp → Prop} {sh : Sh} {fR : FRt} {B : Nat} {f : FI} {g : FL} {a1 : Int32} {a2 : Int32} (hs : StM sh fR B)
    (H : LpX12_alone_18 l G d Q sh fR B f g a1 (a2 + nI 1)) :
    LpX12_alone_42 l G d Q sh fR B f g a1 a2 := by
  refine S_iinc (pc := 42) (v := nI 1) (L' := [some (.ref B), some (.int a1), some (.int (a2 + nI 1))]) dX12_alone_42 rfl ic1 rfl ?_
  refine S_goto (pc := 45) (tgt := 18) dX12_alone_45 rfl ?_
  exact H
abbrev LpX12_isFinishedBy_13 (l : Launch) (G : Gx) (d : Nat) (Q : Option Value → Hp → Prop) (sh : Sh) (fR : FRt) (B : Nat) (f : FI) (g : FL) (a1 : Int32) (a3 : Int32) : Prop := WP l G (Zq G 0 0 Q) mX12_isFinishedBy (rmd (d + 7) 0 0) 0 0 13 [some (.ref B), some (.int a1), none, some (.int a3)] [] (sh, f, g, fR)
set_option maxHeartbeats 2000000 in
set_option maxRecDepth 4000 in
theorem VX12_isFinishedBy {l : Launch} {G : Gx} {d : Nat} {Q : Option Value → Hp → Prop} {sh : Sh} {fR : FRt} {B : Nat} {f : FI} {g : FL} {a1 : Int32} {a2 : Int32} (hs : StM sh fR B)
    (H : Cl l G (d + 6) 0 0 mX12_copies [.ref B, .int (nI 1), .int (nI 0)] (sh, f, g, fR) (qv sh fR fun f1 g2 => LpX12_isFinishedBy_13 l G d Q sh fR B (up2 f1 B 52 a2) g2 a1 (nI 0))) :
    Cl l G (d + 7) 0 0 mX12_isFinishedBy [.ref B, .int a1, .int a2] (sh, f, g, fR) Q := by
  refine Cl.of (L0 := [some (.ref B), some (.int a1), some (.int a2), none]) miX12_isFinishedBy rfl rfl ?_
  refine S_aload_n (pc := 0) dX12_isFinishedBy_0 rfl rfl ?_
  refine S_iconst (pc := 1) dX12_isFinishedBy_1 ic1 ?_
  refine S_iconst (pc := 2) dX12_isFinishedBy_2 ic0 ?_
  refine S_callV (As := [.int (nI 1), .int (nI 0)]) (mc := 0) (ms := 0) (pc := 3) dX12_isFinishedBy_3 miX12_copies mvX12_copies mlX12_419 rfl (sM_0 hs) rfl rfl rfl (RmOK.of rfl) H ?_
  rintro _ _ ⟨f1, g2, rfl, rfl, H⟩
  show WP _ _ _ _ _ _ _ 6 [some (.ref B), some (.int a1), some (.int a2), none] [] (sh, f1, g2, fR)
  refine S_aload_n (pc := 6) dX12_isFinishedBy_6 rfl rfl ?_
  refine S_iload_n (pc := 7) dX12_isFinishedBy_7 rfl rfl ?_
  refine S_putI (pc := 8) dX12_isFinishedBy_8 flX12_173 (sM_0 hs) hs.2.2 (nf_12_52) rfl rfl (fun _ => rfl) ?_
  refine S_iconst (pc := 11) dX12_isFinishedBy_11 ic0 ?_
  refine S_istore_n (pc := 12) (L' := [some (.ref B), some (.int a1), some (.int a2), some (.int (nI 0))]) dX12_isFinishedBy_12 rfl (by decide) rfl ?_
  exact S_weak (L' := [some (.ref B), some (.int a1), none, some (.int (nI 0))]) (ls_e (ls_e (ls_n (ls_e ls_0)))) H
set_option maxHeartbeats 2000000 in
set_option maxRecDepth 4000 in
theorem VX12_isFinishedBy_13 {l : Launch} {G : Gx} {d : Nat} {Q : Option Value → Hp → Prop} {sh : Sh} {fR : FRt} {B : Nat} {f : FI} {g : FL} {a1 : Int32} {a3 : Int32} (hs : StM sh fR B)
    (H : ((a1 ≤ a3 → inb (f B 13) 2 ∧ inb (((nI 40) * (nI 1)) + (nI 2)) 880 ∧ inb (f B 13) 2 ∧ ((¬ (f (B + 23) (((nI 40) * (nI 1)) + (nI 2)).toNatClampNeg) = (f (B + 2) (f B 13).toNatClampNeg) → Q (some (.int (nI 0))) (sh, (up2 f B 52 (f (B + 4) (f B 13).toNatClampNeg)), g, fR)) ∧ ((f (B + 23) (((nI 40) * (nI 1)) + (nI 2)).toNatClampNeg) = (f (B + 2) (f B 13).toNatClampNeg) → Q (some (.int (nI 1))) (sh, (up2 f B 52 (f (B + 4) (f B 13).toNatClampNeg)), g, fR)))) ∧ (¬ a1 ≤ a3 → Cl l G (d + 6) 0 0 mX12_ticksOn [.ref B, .int (nI 1)] (sh, f, g, fR) (qv sh fR fun f8 g9 => LpX12_isFinishedBy_13 l G d Q sh fR B f8 g9 a1 (a3 + nI 1))))) :
    LpX12_isFinishedBy_13 l G d Q sh fR B f g a1 a3 := by
  refine S_iload_n (pc := 13) dX12_isFinishedBy_13 rfl rfl ?_
  refine S_iload_n (pc := 14) dX12_isFinishedBy_14 rfl rfl ?_
  refine S_icmp_ge (pc := 15) (tgt := 29) dX12_isFinishedBy_15 rfl (fun hc3 => ?_) (fun hc3 => ?_)
  · replace H := H.1 hc3
    refine S_aload_n (pc := 29) dX12_isFinishedBy_29 rfl rfl ?_
    refine S_aload_n (pc := 30) dX12_isFinishedBy_30 rfl rfl ?_
    refine S_getR (pc := 31) dX12_isFinishedBy_31 flX12_60 (sM_0 hs) rfl (rM_16 hs) ?_
    refine S_aload_n (pc := 34) dX12_isFinishedBy_34 rfl rfl ?_
    refine S_get (pc := 35) (v := .int (f B 13)) dX12_isFinishedBy_35 flX12_51 (sM_0 hs) rfl ?_
    obtain ⟨hb4, H⟩ := H
    refine S_iald (pc := 38) dX12_isFinishedBy_38 (sM_4 hs) hb4 ?_
    refine S_putI (pc := 39) dX12_isFinishedBy_39 flX12_173 (sM_0 hs) hs.2.2 (nf_12_52) rfl rfl (fun _ => rfl) ?_
    refine S_aload_n (pc := 42) dX12_isFinishedBy_42 rfl rfl ?_
    refine S_iconst (pc := 43) dX12_isFinishedBy_43 ic1 ?_
    refine S_iconst (pc := 44) dX12_isFinishedBy_44 ic2 ?_
    refine S_callV (As := [.int (nI 1), .int (nI 2)]) (mc := 0) (ms := 0) (pc := 45) dX12_isFinishedBy_45 miX12_n mvX12_n mlX12_402 rfl (sM_0 hs) rfl rfl rfl (RmOK.of rfl) (Q := fun r h => WP _ _ _ _ _ _ _ 48 [some (.ref B), some (.int a1), none, some (.int a3)] (r.toList ++ []) h) (Cl.of miX12_n rfl rfl ?_) (fun _ _ q => q)
    refine S_aload_n (pc := 0) dX12_n_0 rfl rfl ?_
    refine S_getR (pc := 1) dX12_n_1 flX12_144 (sM_0 hs) rfl (rM_43 hs) ?_
    refine S_bipush (pc := 4) dX12_n_4 bp40 ?_
    refine S_iload_n (pc := 6) dX12_n_6 rfl rfl ?_
    refine S_imul (pc := 7) dX12_n_7 ?_
    refine S_iload_n (pc := 8) dX12_n_8 rfl rfl ?_
    refine S_iadd (pc := 9) dX12_n_9 ?_
    obtain ⟨hb5, H⟩ := H
    refine S_iald (pc := 10) dX12_n_10 (sM_23 hs) hb5 ?_
    refine S_eqi (x := f (B + 23) (((nI 40) * (nI 1)) + (nI 2)).toNatClampNeg) ((up2_r (by omega)).trans rfl) ?_
    refine S_ireturn dX12_n_11 rfl ?_
    show WP _ _ _ _ _ _ _ 48 [some (.ref B), some (.int a1), none, some (.int a3)] [.int (f (B + 23) (((nI 40) * (nI 1)) + (nI 2)).toNatClampNeg)] (sh, (up2 f B 52 (f (B + 4) (f B 13).toNatClampNeg)), g, fR)
    refine S_aload_n (pc := 48) dX12_isFinishedBy_48 rfl rfl ?_
    refine S_getR (pc := 49) dX12_isFinishedBy_49 flX12_54 (sM_0 hs) rfl (rM_14 hs) ?_
    refine S_aload_n (pc := 52) dX12_isFinishedBy_52 rfl rfl ?_
    refine S_get (pc := 53) (v := .int ((up2 f B 52 (f (B + 4) (f B 13).toNatClampNeg)) B 13)) dX12_isFinishedBy_53 flX12_51 (sM_0 hs) rfl ?_
    refine S_eqi (x := f B 13) ((up2_k (by decide)).trans rfl) ?_
    obtain ⟨hb6, H⟩ := H
    refine S_iald (pc := 56) dX12_isFinishedBy_56 (sM_2 hs) hb6 ?_
    refine S_eqi (x := f (B + 2) (f B 13).toNatClampNeg) ((up2_r (by omega)).trans rfl) ?_
    refine S_icmp_ne (pc := 57) (tgt := 64) dX12_isFinishedBy_57 rfl (fun hc7 => ?_) (fun hc7 => ?_)
    · replace H := H.1 hc7
      refine S_iconst (pc := 64) dX12_isFinishedBy_64 ic0 ?_
      exact S_zreturn dX12_isFinishedBy_65 rfl (Or.inl rfl) H
    · replace H := H.2 hc7
      refine S_iconst (pc := 60) dX12_isFinishedBy_60 ic1 ?_
      refine S_goto (pc := 61) (tgt := 65) dX12_isFinishedBy_61 rfl ?_
      exact S_zreturn dX12_isFinishedBy_65 rfl (Or.inr rfl) H
  · replace H := H.2 hc3
    refine S_aload_n (pc := 18) dX12_isFinishedBy_18 rfl rfl ?_
    refine S_iconst (pc := 19) dX12_isFinishedBy_19 ic1 ?_
    refine S_callV (As := [.int (nI 1)]) (mc := 0) (ms := 0) (pc := 20) dX12_isFinishedBy_20 miX12_ticksOn mvX12_ticksOn mlX12_588 rfl (sM_0 hs) rfl rfl rfl (RmOK.of rfl) H ?_
    rintro _ _ ⟨f8, g9, rfl, rfl, H⟩
    show WP _ _ _ _ _ _ _ 23 [some (.ref B), some (.int a1), none, some (.int a3)] [] (sh, f8, g9, fR)
    refine S_iinc (pc := 23) (v := nI 1) (L' := [some (.ref B), some (.int a1), none, some (.int (a3 + nI 1))]) dX12_isFinishedBy_23 rfl ic1 rfl ?_
    refine S_goto (pc := 26) (tgt := 13) dX12_isFinishedBy_26 rfl ?_
    exact H
abbrev LpX12_window_24 (l : Launch) (G : Gx) (d : Nat) (Q : Option Value → Hp → Prop) (sh : Sh) (fR : FRt) (B : Nat) (f : FI) (g : FL) (a1 : Int32) (a2 : Int32) : Prop := WP l G (Zq G 0 0 Q) mX12_window (rmd (d + 8) 0 0) 0 0 24 [some (.ref B), some (.int a1), some (.int a2)] [] (sh, f, g, fR)
set_option maxHeartbeats 2000000 in
set_option maxRecDepth 4000 in
theorem VX12_window {l : Launch} {G : Gx} {d : Nat} {Q : Option Value → Hp → Prop} {sh : Sh} {fR : FRt} {B : Nat} {f : FI} {g : FL} {a1 : Int32} (hs : StM sh fR B)
    (H : Cl l G (d + 7) 0 0 mX12_isAhead [.ref B, .int a1, .int (nI 1), .int (nI 200)] (sh, f, g, fR) (qi sh fR fun x3 f1 g2 => ((¬ x3 = 0 → inb (f1 B 13) 2 ∧ (∀ w6 : Int32, w6 = f1 (B + 3) (f1 B 13).toNatClampNeg → LpX12_window_24 l G d Q sh fR B f1 g2 a1 w6)) ∧ (x3 = 0 → Q (some (.int (-1))) (sh, f1, g2, fR))))) :
    Cl l G (d + 8) 0 0 mX12_window [.ref B, .int a1] (sh, f, g, fR) Q := by
  refine Cl.of (L0 := [some (.ref B), some (.int a1), none]) miX12_window rfl rfl ?_
  refine S_aload_n (pc := 0) dX12_window_0 rfl rfl ?_
  refine S_iload_n (pc := 1) dX12_window_1 rfl rfl ?_
  refine S_iconst (pc := 2) dX12_window_2 ic1 ?_
  refine S_sipush (pc := 3) dX12_window_3 sp200 ?_
  refine S_callV (As := [.int a1, .int (nI 1), .int (nI 200)]) (mc := 0) (ms := 0) (pc := 6) dX12_window_6 miX12_isAhead mvX12_isAhead mlX12_585 rfl (sM_0 hs) rfl rfl rfl (RmOK.of rfl) H ?_
  rintro _ _ ⟨x3, f1, g2, rfl, rfl, H⟩
  show WP _ _ _ _ _ _ _ 9 [some (.ref B), some (.int a1), none] [.int x3] (sh, f1, g2, fR)
  refine S_if_ne (pc := 9) (tgt := 14) dX12_window_9 rfl (fun hc4 => ?_) (fun hc4 => ?_)
  · replace H := H.1 hc4
    refine S_aload_n (pc := 14) dX12_window_14 rfl rfl ?_
    refine S_getR (pc := 15) dX12_window_15 flX12_57 (sM_0 hs) rfl (rM_15 hs) ?_
    refine S_aload_n (pc := 18) dX12_window_18 rfl rfl ?_
    refine S_get (pc := 19) (v := .int (f1 B 13)) dX12_window_19 flX12_51 (sM_0 hs) rfl ?_
    obtain ⟨hb5, H⟩ := H
    refine S_iald (pc := 22) dX12_window_22 (sM_3 hs) hb5 ?_
    refine S_namei (fun w6 e7 => ?_)
    replace H := H w6 e7
    refine S_istore_n (pc := 23) (L' := [some (.ref B), some (.int a1), some (.int w6)]) dX12_window_23 rfl (by decide) rfl ?_
    exact H
  · replace H := H.2 hc4
    refine S_iconst (pc := 12) dX12_window_12 icm1 ?_
    exact S_ireturn dX12_window_13 rfl H
set_option maxHeartbeats 2000000 in
set_option maxRecDepth 4000 in
theorem VX12_window_24 {l : Launch} {G : Gx} {d : Nat} {Q : Option Value → Hp → Prop} {sh : Sh} {fR : FRt} {B : Nat} {f : FI} {g : FL} {a1 : Int32} {a2 : Int32} (hs : StM sh fR B)
    (H : (((nI 99) < a2 → Q (some (.int (-1))) (sh, f, g, fR)) ∧ (¬ (nI 99) < a2 → Cl l G (d + 7) 0 0 mX12_isFinishedBy [.ref B, .int a1, .int a2] (sh, f, g, fR) (qi sh fR fun x11 f9 g10 => ((x11 = 0 → LpX12_window_24 l G d Q sh fR B f9 g10 a1 (a2 + nI 1)) ∧ (¬ x11 = 0 → Q (some (.int a2)) (sh, f9, g10, fR))))))) :
    LpX12_window_24 l G d Q sh fR B f g a1 a2 := by
  refine S_iload_n (pc := 24) dX12_window_24 rfl rfl ?_
  refine S_bipush (pc := 25) dX12_window_25 bp99 ?_
  refine S_icmp_gt (pc := 27) (tgt := 47) dX12_window_27 rfl (fun hc8 => ?_) (fun hc8 => ?_)
  · replace H := H.1 hc8
    refine S_iconst (pc := 47) dX12_window_47 icm1 ?_
    exact S_ireturn dX12_window_48 rfl H
  · replace H := H.2 hc8
    refine S_aload_n (pc := 30) dX12_window_30 rfl rfl ?_
    refine S_iload_n (pc := 31) dX12_window_31 rfl rfl ?_
    refine S_iload_n (pc := 32) dX12_window_32 rfl rfl ?_
    refine S_callV (As := [.int a1, .int a2]) (mc := 0) (ms := 0) (pc := 33) dX12_window_33 miX12_isFinishedBy mvX12_isFinishedBy mlX12_594 rfl (sM_0 hs) rfl rfl rfl (RmOK.of rfl) H ?_
    rintro _ _ ⟨x11, f9, g10, rfl, rfl, H⟩
    show WP _ _ _ _ _ _ _ 36 [some (.ref B), some (.int a1), some (.int a2)] [.int x11] (sh, f9, g10, fR)
    refine S_if_eq (pc := 36) (tgt := 41) dX12_window_36 rfl (fun hc12 => ?_) (fun hc12 => ?_)
    · replace H := H.1 hc12
      refine S_iinc (pc := 41) (v := nI 1) (L' := [some (.ref B), some (.int a1), some (.int (a2 + nI 1))]) dX12_window_41 rfl ic1 rfl ?_
      refine S_goto (pc := 44) (tgt := 24) dX12_window_44 rfl ?_
      exact H
    · replace H := H.2 hc12
      refine S_iload_n (pc := 39) dX12_window_39 rfl rfl ?_
      exact S_ireturn dX12_window_40 rfl H
set_option maxHeartbeats 2000000 in
set_option maxRecDepth 4000 in
theorem VX12_odds {l : Launch} {G : Gx} {d : Nat} {Q : Option Value → Hp → Prop} {sh : Sh} {fR : FRt} {B : Nat} {f : FI} {g : FL} {a1 : Int32} (hs : StM sh fR B)
    (H : Cl l G (d + 6) 0 0 mX12_is [.int a1, .int (nI 0), .int (nI 1)] (sh, f, g, fR) (qi sh fR fun x3 f1 g2 => ((x3 = 0 → Q (some (.int (-1))) (sh, f1, g2, fR)) ∧ (¬ x3 = 0 → Cl l G (d + 6) 0 0 mX12_isAhead [.ref B, .int (nI 1), .int (nI 1), .int (nI 1)] (sh, f1, g2, fR) (qi sh fR fun x7 f5 g6 => ((¬ x7 = 0 → Cl l G (d + 6) 0 0 mX12_copies [.ref B, .int (nI 1), .int (nI 0)] (sh, f5, g6, fR) (qv sh fR fun f9 g10 => Cl l G (d + 6) 0 0 mX12_ticksOn [.ref B, .int (nI 1)] (sh, f9, g10, fR) (qv sh fR fun f11 g12 => ((¬ (f11 B 61) = 0 → ((¬ a1 = (nI 1) → (((f11 B 63) = 0 → inb (f11 B 13) 2 ∧ Q (some (.int ((nI 100) - (f11 (B + 10) (f11 B 13).toNatClampNeg)))) (sh, f11, g12, fR)) ∧ (¬ (f11 B 63) = 0 → Q (some (.int (nI 0))) (sh, f11, g12, fR)))) ∧ (a1 = (nI 1) → Q (some (.int (nI 100))) (sh, f11, g12, fR)))) ∧ ((f11 B 61) = 0 → Q (some (.int (-1))) (sh, f11, g12, fR)))))) ∧ (x7 = 0 → Q (some (.int (-1))) (sh, f5, g6, fR)))))))) :
    Cl l G (d + 7) 0 0 mX12_odds [.ref B, .int a1] (sh, f, g, fR) Q := by
  refine Cl.of (L0 := [some (.ref B), some (.int a1)]) miX12_odds rfl rfl ?_
  refine S_iload_n (pc := 0) dX12_odds_0 rfl rfl ?_
  refine S_iconst (pc := 1) dX12_odds_1 ic0 ?_
  refine S_iconst (pc := 2) dX12_odds_2 ic1 ?_
  refine S_callS (As := [.int a1, .int (nI 0), .int (nI 1)]) (mc := 0) (ms := 0) (pc := 3) dX12_odds_3 miX12_is mvX12_is mlX12_310 rfl rfl (RmOK.of rfl) H ?_
  rintro _ _ ⟨x3, f1, g2, rfl, rfl, H⟩
  show WP _ _ _ _ _ _ _ 6 [some (.ref B), some (.int a1)] [.int x3] (sh, f1, g2, fR)
  refine S_if_eq (pc := 6) (tgt := 19) dX12_odds_6 rfl (fun hc4 => ?_) (fun hc4 => ?_)
  · replace H := H.1 hc4
    refine S_iconst (pc := 19) dX12_odds_19 icm1 ?_
    exact S_ireturn dX12_odds_20 rfl H
  · replace H := H.2 hc4
    refine S_aload_n (pc := 9) dX12_odds_9 rfl rfl ?_
    refine S_iconst (pc := 10) dX12_odds_10 ic1 ?_
    refine S_iconst (pc := 11) dX12_odds_11 ic1 ?_
    refine S_iconst (pc := 12) dX12_odds_12 ic1 ?_
    refine S_callV (As := [.int (nI 1), .int (nI 1), .int (nI 1)]) (mc := 0) (ms := 0) (pc := 13) dX12_odds_13 miX12_isAhead mvX12_isAhead mlX12_585 rfl (sM_0 hs) rfl rfl rfl (RmOK.of rfl) H ?_
    rintro _ _ ⟨x7, f5, g6, rfl, rfl, H⟩
    show WP _ _ _ _ _ _ _ 16 [some (.ref B), some (.int a1)] [.int x7] (sh, f5, g6, fR)
    refine S_if_ne (pc := 16) (tgt := 21) dX12_odds_16 rfl (fun hc8 => ?_) (fun hc8 => ?_)
    · replace H := H.1 hc8
      refine S_aload_n (pc := 21) dX12_odds_21 rfl rfl ?_
      refine S_iconst (pc := 22) dX12_odds_22 ic1 ?_
      refine S_iconst (pc := 23) dX12_odds_23 ic0 ?_
      refine S_callV (As := [.int (nI 1), .int (nI 0)]) (mc := 0) (ms := 0) (pc := 24) dX12_odds_24 miX12_copies mvX12_copies mlX12_419 rfl (sM_0 hs) rfl rfl rfl (RmOK.of rfl) H ?_
      rintro _ _ ⟨f9, g10, rfl, rfl, H⟩
      show WP _ _ _ _ _ _ _ 27 [some (.ref B), some (.int a1)] [] (sh, f9, g10, fR)
      refine S_aload_n (pc := 27) dX12_odds_27 rfl rfl ?_
      refine S_iconst (pc := 28) dX12_odds_28 ic1 ?_
      refine S_callV (As := [.int (nI 1)]) (mc := 0) (ms := 0) (pc := 29) dX12_odds_29 miX12_ticksOn mvX12_ticksOn mlX12_588 rfl (sM_0 hs) rfl rfl rfl (RmOK.of rfl) H ?_
      rintro _ _ ⟨f11, g12, rfl, rfl, H⟩
      show WP _ _ _ _ _ _ _ 32 [some (.ref B), some (.int a1)] [] (sh, f11, g12, fR)
      refine S_aload_n (pc := 32) dX12_odds_32 rfl rfl ?_
      refine S_get (pc := 33) (v := .int (f11 B 61)) dX12_odds_33 flX12_200 (sM_0 hs) rfl ?_
      refine S_if_ne (pc := 36) (tgt := 41) dX12_odds_36 rfl (fun hc13 => ?_) (fun hc13 => ?_)
      · replace H := H.1 hc13
        refine S_iload_n (pc := 41) dX12_odds_41 rfl rfl ?_
        refine S_iconst (pc := 42) dX12_odds_42 ic1 ?_
        refine S_icmp_ne (pc := 43) (tgt := 51) dX12_odds_43 rfl (fun hc14 => ?_) (fun hc14 => ?_)
        · replace H := H.1 hc14
          refine S_aload_n (pc := 51) dX12_odds_51 rfl rfl ?_
          refine S_get (pc := 52) (v := .int (f11 B 63)) dX12_odds_52 flX12_206 (sM_0 hs) rfl ?_
          refine S_if_eq (pc := 55) (tgt := 62) dX12_odds_55 rfl (fun hc15 => ?_) (fun hc15 => ?_)
          · replace H := H.1 hc15
            refine S_bipush (pc := 62) dX12_odds_62 bp100 ?_
            refine S_aload_n (pc := 64) dX12_odds_64 rfl rfl ?_
            refine S_getR (pc := 65) dX12_odds_65 flX12_78 (sM_0 hs) rfl (rM_22 hs) ?_
            refine S_aload_n (pc := 68) dX12_odds_68 rfl rfl ?_
            refine S_get (pc := 69) (v := .int (f11 B 13)) dX12_odds_69 flX12_51 (sM_0 hs) rfl ?_
            obtain ⟨hb16, H⟩ := H
            refine S_iald (pc := 72) dX12_odds_72 (sM_10 hs) hb16 ?_
            refine S_isub (pc := 73) dX12_odds_73 ?_
            exact S_ireturn dX12_odds_74 rfl H
          · replace H := H.2 hc15
            refine S_iconst (pc := 58) dX12_odds_58 ic0 ?_
            refine S_goto (pc := 59) (tgt := 74) dX12_odds_59 rfl ?_
            exact S_ireturn dX12_odds_74 rfl H
        · replace H := H.2 hc14
          refine S_bipush (pc := 46) dX12_odds_46 bp100 ?_
          refine S_goto (pc := 48) (tgt := 74) dX12_odds_48 rfl ?_
          exact S_ireturn dX12_odds_74 rfl H
      · replace H := H.2 hc13
        refine S_iconst (pc := 39) dX12_odds_39 icm1 ?_
        exact S_ireturn dX12_odds_40 rfl H
    · replace H := H.2 hc8
      refine S_iconst (pc := 19) dX12_odds_19 icm1 ?_
      exact S_ireturn dX12_odds_20 rfl H
abbrev LpX12_meet_37 (l : Launch) (G : Gx) (d : Nat) (Q : Option Value → Hp → Prop) (sh : Sh) (fR : FRt) (B : Nat) (f : FI) (g : FL) (a1 : Int32) : Prop := WP l G (Zq G 0 0 Q) mX12_meet (rmd (d + 1) 0 0) 0 0 37 [some (.ref B), some (.int a1), none, none] [] (sh, f, g, fR)
abbrev LpX12_meet_41 (l : Launch) (G : Gx) (d : Nat) (Q : Option Value → Hp → Prop) (sh : Sh) (fR : FRt) (B : Nat) (f : FI) (g : FL) (a1 : Int32) (a2 : Int32) (a3 : Int32) : Prop := WP l G (Zq G 0 0 Q) mX12_meet (rmd (d + 1) 0 0) 0 0 41 [some (.ref B), some (.int a1), some (.int a2), some (.int a3)] [] (sh, f, g, fR)
abbrev LpX12_meet_99 (l : Launch) (G : Gx) (d : Nat) (Q : Option Value → Hp → Prop) (sh : Sh) (fR : FRt) (B : Nat) (f : FI) (g : FL) (a1 : Int32) (a2 : Int32) : Prop := WP l G (Zq G 0 0 Q) mX12_meet (rmd (d + 1) 0 0) 0 0 99 [some (.ref B), some (.int a1), some (.int a2), none] [] (sh, f, g, fR)
abbrev LpX12_meet_91 (l : Launch) (G : Gx) (d : Nat) (Q : Option Value → Hp → Prop) (sh : Sh) (fR : FRt) (B : Nat) (f : FI) (g : FL) (a1 : Int32) (a3 : Int32) : Prop := WP l G (Zq G 0 0 Q) mX12_meet (rmd (d + 1) 0 0) 0 0 91 [some (.ref B), some (.int a1), none, some (.int a3)] [] (sh, f, g, fR)
abbrev LpX12_meet_118 (l : Launch) (G : Gx) (d : Nat) (Q : Option Value → Hp → Prop) (sh : Sh) (fR : FRt) (B : Nat) (f : FI) (g : FL) (a3 : Int32) : Prop := WP l G (Zq G 0 0 Q) mX12_meet (rmd (d + 1) 0 0) 0 0 118 [some (.ref B), none, none, some (.int a3)] [] (sh, f, g, fR)
set_option maxHeartbeats 2000000 in
set_option maxRecDepth 4000 in
theorem VX12_meet {l : Launch} {G : Gx} {d : Nat} {Q : Option Value → Hp → Prop} {sh : Sh} {fR : FRt} {B : Nat} {f : FI} {g : FL}  (hs : StM sh fR B)
    (H : (∀ w1 : Int32, w1 = f B 1 → (((f B 41) = 0 → LpX12_meet_37 l G d Q sh fR B (up2 f B 1 (nI 0)) g w1) ∧ (¬ (f B 41) = 0 → ((w1 ≤ 0 → LpX12_meet_37 l G d Q sh fR B (up2 f B 1 (nI 0)) g w1) ∧ (¬ w1 ≤ 0 → ((¬ (w1 - w1 / (nI 3) * (nI 3)) = 0 → LpX12_meet_37 l G d Q sh fR B (up2 f B 1 (nI 0)) g w1) ∧ ((w1 - w1 / (nI 3) * (nI 3)) = 0 → (((nI 48) < w1 → LpX12_meet_37 l G d Q sh fR B (up2 f B 1 (nI 0)) g w1) ∧ (¬ (nI 48) < w1 → LpX12_meet_41 l G d Q sh fR B (up2 f B 1 (nI 0)) g w1 (nI 1) (nI 0))))))))))) :
    Cl l G (d + 1) 0 0 mX12_meet [.ref B] (sh, f, g, fR) Q := by
  refine Cl.of (L0 := [some (.ref B), none, none, none]) miX12_meet rfl rfl ?_
  refine S_aload_n (pc := 0) dX12_meet_0 rfl rfl ?_
  refine S_get (pc := 1) (v := .int (f B 1)) dX12_meet_1 flX12_13 (sM_0 hs) rfl ?_
  refine S_namei (fun w1 e2 => ?_)
  replace H := H w1 e2
  refine S_istore_n (pc := 4) (L' := [some (.ref B), some (.int w1), none, none]) dX12_meet_4 rfl (by decide) rfl ?_
  refine S_aload_n (pc := 5) dX12_meet_5 rfl rfl ?_
  refine S_iconst (pc := 6) dX12_meet_6 ic0 ?_
  refine S_putI (pc := 7) dX12_meet_7 flX12_13 (sM_0 hs) hs.2.2 (nf_12_1) rfl rfl (fun _ => rfl) ?_
  refine S_aload_n (pc := 10) dX12_meet_10 rfl rfl ?_
  refine S_get (pc := 11) (v := .int ((up2 f B 1 (nI 0)) B 41)) dX12_meet_11 flX12_138 (sM_0 hs) rfl ?_
  refine S_eqi (x := f B 41) ((up2_k (by decide)).trans rfl) ?_
  refine S_if_eq (pc := 14) (tgt := 37) dX12_meet_14 rfl (fun hc3 => ?_) (fun hc3 => ?_)
  · replace H := H.1 hc3
    exact H
  · replace H := H.2 hc3
    refine S_iload_n (pc := 17) dX12_meet_17 rfl rfl ?_
    refine S_if_le (pc := 18) (tgt := 37) dX12_meet_18 rfl (fun hc4 => ?_) (fun hc4 => ?_)
    · replace H := H.1 hc4
      exact H
    · replace H := H.2 hc4
      refine S_iload_n (pc := 21) dX12_meet_21 rfl rfl ?_
      refine S_iconst (pc := 22) dX12_meet_22 ic3 ?_
      refine S_irem (pc := 23) dX12_meet_23 (by decide) ?_
      refine S_if_ne (pc := 24) (tgt := 37) dX12_meet_24 rfl (fun hc5 => ?_) (fun hc5 => ?_)
      · replace H := H.1 hc5
        exact H
      · replace H := H.2 hc5
        refine S_iload_n (pc := 27) dX12_meet_27 rfl rfl ?_
        refine S_bipush (pc := 28) dX12_meet_28 bp48 ?_
        refine S_icmp_gt (pc := 30) (tgt := 37) dX12_meet_30 rfl (fun hc6 => ?_) (fun hc6 => ?_)
        · replace H := H.1 hc6
          exact H
        · replace H := H.2 hc6
          refine S_iconst (pc := 33) dX12_meet_33 ic1 ?_
          refine S_goto (pc := 34) (tgt := 38) dX12_meet_34 rfl ?_
          refine S_istore_n (pc := 38) (L' := [some (.ref B), some (.int w1), some (.int (nI 1)), none]) dX12_meet_38 rfl (by decide) rfl ?_
          refine S_iconst (pc := 39) dX12_meet_39 ic0 ?_
          refine S_istore_n (pc := 40) (L' := [some (.ref B), some (.int w1), some (.int (nI 1)), some (.int (nI 0))]) dX12_meet_40 rfl (by decide) rfl ?_
          exact H
set_option maxHeartbeats 2000000 in
set_option maxRecDepth 4000 in
theorem VX12_meet_37 {l : Launch} {G : Gx} {d : Nat} {Q : Option Value → Hp → Prop} {sh : Sh} {fR : FRt} {B : Nat} {f : FI} {g : FL} {a1 : Int32} (hs : StM sh fR B)
    (H : LpX12_meet_41 l G d Q sh fR B f g a1 (nI 0) (nI 0)) :
    LpX12_meet_37 l G d Q sh fR B f g a1 := by
  refine S_iconst (pc := 37) dX12_meet_37 ic0 ?_
  refine S_istore_n (pc := 38) (L' := [some (.ref B), some (.int a1), some (.int (nI 0)), none]) dX12_meet_38 rfl (by decide) rfl ?_
  refine S_iconst (pc := 39) dX12_meet_39 ic0 ?_
  refine S_istore_n (pc := 40) (L' := [some (.ref B), some (.int a1), some (.int (nI 0)), some (.int (nI 0))]) dX12_meet_40 rfl (by decide) rfl ?_
  exact H
set_option maxHeartbeats 2000000 in
set_option maxRecDepth 4000 in
theorem VX12_meet_41 {l : Launch} {G : Gx} {d : Nat} {Q : Option Value → Hp → Prop} {sh : Sh} {fR : FRt} {B : Nat} {f : FI} {g : FL} {a1 : Int32} {a2 : Int32} {a3 : Int32} (hs : StM sh fR B)
    (H : ((a1 ≤ a3 → LpX12_meet_99 l G d Q sh fR B f g a1 a2) ∧ (¬ a1 ≤ a3 → ((a2 = 0 → LpX12_meet_99 l G d Q sh fR B f g a1 a2) ∧ (¬ a2 = 0 → inb a3 1800 ∧ (((nI 60) < (f (B + 1) a3.toNatClampNeg) → LpX12_meet_91 l G d Q sh fR B f g a1 a3) ∧ (¬ (nI 60) < (f (B + 1) a3.toNatClampNeg) → inb (a3 + (nI 1)) 1800 ∧ (((nI 1) < (f (B + 1) (a3 + (nI 1)).toNatClampNeg) → LpX12_meet_91 l G d Q sh fR B f g a1 a3) ∧ (¬ (nI 1) < (f (B + 1) (a3 + (nI 1)).toNatClampNeg) → inb (a3 + (nI 2)) 1800 ∧ (((nI 200) < (f (B + 1) (a3 + (nI 2)).toNatClampNeg) → LpX12_meet_91 l G d Q sh fR B f g a1 a3) ∧ (¬ (nI 200) < (f (B + 1) (a3 + (nI 2)).toNatClampNeg) → LpX12_meet_41 l G d Q sh fR B f g a1 (nI 1) (a3 + nI 3)))))))))))) :
    LpX12_meet_41 l G d Q sh fR B f g a1 a2 a3 := by
  refine S_iload_n (pc := 41) dX12_meet_41 rfl rfl ?_
  refine S_iload_n (pc := 42) dX12_meet_42 rfl rfl ?_
  refine S_icmp_ge (pc := 43) (tgt := 99) dX12_meet_43 rfl (fun hc7 => ?_) (fun hc7 => ?_)
  · replace H := H.1 hc7
    exact S_weak (L' := [some (.ref B), some (.int a1), some (.int a2), none]) (ls_e (ls_e (ls_e (ls_n ls_0)))) H
  · replace H := H.2 hc7
    refine S_iload_n (pc := 46) dX12_meet_46 rfl rfl ?_
    refine S_if_eq (pc := 47) (tgt := 99) dX12_meet_47 rfl (fun hc8 => ?_) (fun hc8 => ?_)
    · replace H := H.1 hc8
      exact S_weak (L' := [some (.ref B), some (.int a1), some (.int a2), none]) (ls_e (ls_e (ls_e (ls_n ls_0)))) H
    · replace H := H.2 hc8
      refine S_aload_n (pc := 50) dX12_meet_50 rfl rfl ?_
      refine S_getR (pc := 51) dX12_meet_51 flX12_7 (sM_0 hs) rfl (rM_0 hs) ?_
      refine S_iload_n (pc := 54) dX12_meet_54 rfl rfl ?_
      obtain ⟨hb9, H⟩ := H
      refine S_iald (pc := 55) dX12_meet_55 (sM_1 hs) hb9 ?_
      refine S_bipush (pc := 56) dX12_meet_56 bp60 ?_
      refine S_icmp_gt (pc := 58) (tgt := 91) dX12_meet_58 rfl (fun hc10 => ?_) (fun hc10 => ?_)
      · replace H := H.1 hc10
        exact S_weak (L' := [some (.ref B), some (.int a1), none, some (.int a3)]) (ls_e (ls_e (ls_n (ls_e ls_0)))) H
      · replace H := H.2 hc10
        refine S_aload_n (pc := 61) dX12_meet_61 rfl rfl ?_
        refine S_getR (pc := 62) dX12_meet_62 flX12_7 (sM_0 hs) rfl (rM_0 hs) ?_
        refine S_iload_n (pc := 65) dX12_meet_65 rfl rfl ?_
        refine S_iconst (pc := 66) dX12_meet_66 ic1 ?_
        refine S_iadd (pc := 67) dX12_meet_67 ?_
        obtain ⟨hb11, H⟩ := H
        refine S_iald (pc := 68) dX12_meet_68 (sM_1 hs) hb11 ?_
        refine S_iconst (pc := 69) dX12_meet_69 ic1 ?_
        refine S_icmp_gt (pc := 70) (tgt := 91) dX12_meet_70 rfl (fun hc12 => ?_) (fun hc12 => ?_)
        · replace H := H.1 hc12
          exact S_weak (L' := [some (.ref B), some (.int a1), none, some (.int a3)]) (ls_e (ls_e (ls_n (ls_e ls_0)))) H
        · replace H := H.2 hc12
          refine S_aload_n (pc := 73) dX12_meet_73 rfl rfl ?_
          refine S_getR (pc := 74) dX12_meet_74 flX12_7 (sM_0 hs) rfl (rM_0 hs) ?_
          refine S_iload_n (pc := 77) dX12_meet_77 rfl rfl ?_
          refine S_iconst (pc := 78) dX12_meet_78 ic2 ?_
          refine S_iadd (pc := 79) dX12_meet_79 ?_
          obtain ⟨hb13, H⟩ := H
          refine S_iald (pc := 80) dX12_meet_80 (sM_1 hs) hb13 ?_
          refine S_sipush (pc := 81) dX12_meet_81 sp200 ?_
          refine S_icmp_gt (pc := 84) (tgt := 91) dX12_meet_84 rfl (fun hc14 => ?_) (fun hc14 => ?_)
          · replace H := H.1 hc14
            exact S_weak (L' := [some (.ref B), some (.int a1), none, some (.int a3)]) (ls_e (ls_e (ls_n (ls_e ls_0)))) H
          · replace H := H.2 hc14
            refine S_iconst (pc := 87) dX12_meet_87 ic1 ?_
            refine S_goto (pc := 88) (tgt := 92) dX12_meet_88 rfl ?_
            refine S_istore_n (pc := 92) (L' := [some (.ref B), some (.int a1), some (.int (nI 1)), some (.int a3)]) dX12_meet_92 rfl (by decide) rfl ?_
            refine S_iinc (pc := 93) (v := nI 3) (L' := [some (.ref B), some (.int a1), some (.int (nI 1)), some (.int (a3 + nI 3))]) dX12_meet_93 rfl ic3 rfl ?_
            refine S_goto (pc := 96) (tgt := 41) dX12_meet_96 rfl ?_
            exact H
set_option maxHeartbeats 2000000 in
set_option maxRecDepth 4000 in
theorem VX12_meet_99 {l : Launch} {G : Gx} {d : Nat} {Q : Option Value → Hp → Prop} {sh : Sh} {fR : FRt} {B : Nat} {f : FI} {g : FL} {a1 : Int32} {a2 : Int32} (hs : StM sh fR B)
    (H : ((¬ a2 = 0 → LpX12_meet_118 l G d Q sh fR B (up2 f B 64 (a1 / (nI 3))) g (nI 0)) ∧ (a2 = 0 → Q (some (.int (-1))) (sh, (up2 f (B + 22) 5 ((f (B + 22) 5) + (nI 1))), g, fR)))) :
    LpX12_meet_99 l G d Q sh fR B f g a1 a2 := by
  refine S_iload_n (pc := 99) dX12_meet_99 rfl rfl ?_
  refine S_if_ne (pc := 100) (tgt := 109) dX12_meet_100 rfl (fun hc15 => ?_) (fun hc15 => ?_)
  · replace H := H.1 hc15
    refine S_aload_n (pc := 109) dX12_meet_109 rfl rfl ?_
    refine S_iload_n (pc := 110) dX12_meet_110 rfl rfl ?_
    refine S_iconst (pc := 111) dX12_meet_111 ic3 ?_
    refine S_idiv (pc := 112) dX12_meet_112 (by decide) ?_
    refine S_putI (pc := 113) dX12_meet_113 flX12_209 (sM_0 hs) hs.2.2 (nf_12_64) rfl rfl (fun _ => rfl) ?_
    refine S_iconst (pc := 116) dX12_meet_116 ic0 ?_
    refine S_istore_n (pc := 117) (L' := [some (.ref B), some (.int a1), some (.int a2), some (.int (nI 0))]) dX12_meet_117 rfl (by decide) rfl ?_
    exact S_weak (L' := [some (.ref B), none, none, some (.int (nI 0))]) (ls_e (ls_n (ls_n (ls_e ls_0)))) H
  · replace H := H.2 hc15
    refine S_aload_n (pc := 103) dX12_meet_103 rfl rfl ?_
    refine S_iconst (pc := 104) dX12_meet_104 ic5 ?_
    refine S_callV (As := [.int (nI 5)]) (mc := 0) (ms := 0) (pc := 105) dX12_meet_105 miX12_refuses mvX12_refuses mlX12_224 rfl (sM_0 hs) rfl rfl rfl (RmOK.of rfl) (Q := fun r h => WP _ _ _ _ _ _ _ 108 [some (.ref B), some (.int a1), some (.int a2), none] (r.toList ++ []) h) (Cl.of miX12_refuses rfl rfl ?_) (fun _ _ q => q)
    refine S_aload_n (pc := 0) dX12_refuses_0 rfl rfl ?_
    refine S_getR (pc := 1) dX12_refuses_1 flX12_141 (sM_0 hs) rfl (rM_42 hs) ?_
    refine S_iload_n (pc := 4) dX12_refuses_4 rfl rfl ?_
    refine S_dup2 (pc := 5) dX12_refuses_5 rfl rfl ?_
    refine S_iald (pc := 6) dX12_refuses_6 (sM_22 hs) (vp_in_nI (by decide) (by decide)) ?_
    show WP _ _ _ _ _ _ _ 7 _ (.int (f (B + 22) 5) :: _) _
    refine S_iconst (pc := 7) dX12_refuses_7 ic1 ?_
    refine S_iadd (pc := 8) dX12_refuses_8 ?_
    refine S_iast (pc := 9) dX12_refuses_9 (sM_22 hs) (Nat.succ_pos _) (vp_in_nI (by decide) (by decide)) ?_
    show WP _ _ _ _ _ _ _ 10 _ _ (sh, (up2 f (B + 22) 5 ((f (B + 22) 5) + (nI 1))), g, fR)
    refine S_iconst (pc := 10) dX12_refuses_10 icm1 ?_
    refine S_ireturn dX12_refuses_11 rfl ?_
    show WP _ _ _ _ _ _ _ 108 [some (.ref B), some (.int a1), some (.int a2), none] [.int (-1)] (sh, (up2 f (B + 22) 5 ((f (B + 22) 5) + (nI 1))), g, fR)
    exact S_ireturn dX12_meet_108 rfl H
set_option maxHeartbeats 2000000 in
set_option maxRecDepth 4000 in
theorem VX12_meet_91 {l : Launch} {G : Gx} {d : Nat} {Q : Option Value → Hp → Prop} {sh : Sh} {fR : FRt} {B : Nat} {f : FI} {g : FL} {a1 : Int32} {a3 : Int32} (hs : StM sh fR B)
    (H : LpX12_meet_41 l G d Q sh fR B f g a1 (nI 0) (a3 + nI 3)) :
    LpX12_meet_91 l G d Q sh fR B f g a1 a3 := by
  refine S_iconst (pc := 91) dX12_meet_91 ic0 ?_
  refine S_istore_n (pc := 92) (L' := [some (.ref B), some (.int a1), some (.int (nI 0)), some (.int a3)]) dX12_meet_92 rfl (by decide) rfl ?_
  refine S_iinc (pc := 93) (v := nI 3) (L' := [some (.ref B), some (.int a1), some (.int (nI 0)), some (.int (a3 + nI 3))]) dX12_meet_93 rfl ic3 rfl ?_
  refine S_goto (pc := 96) (tgt := 41) dX12_meet_96 rfl ?_
  exact H
set_option maxHeartbeats 2000000 in
set_option maxRecDepth 4000 in
theorem VX12_meet_118 {l : Launch} {G : Gx} {d : Nat} {Q : Option Value → Hp → Prop} {sh : Sh} {fR : FRt} {B : Nat} {f : FI} {g : FL} {a3 : Int32} (hs : StM sh fR B)
    (H : (((f B 64) ≤ a3 → Q (some (.int (f B 64))) (sh, f, g, fR)) ∧ (¬ (f B 64) ≤ a3 → inb ((nI 3) * a3) 1800 ∧ inb a3 16 ∧ inb (((nI 3) * a3) + (nI 1)) 1800 ∧ inb a3 16 ∧ inb (((nI 3) * a3) + (nI 2)) 1800 ∧ inb a3 16 ∧ LpX12_meet_118 l G d Q sh fR B (up2 (up2 (up2 f (B + 34) a3.toNatClampNeg (f (B + 1) ((nI 3) * a3).toNatClampNeg)) (B + 35) a3.toNatClampNeg (f (B + 1) (((nI 3) * a3) + (nI 1)).toNatClampNeg)) (B + 36) a3.toNatClampNeg (f (B + 1) (((nI 3) * a3) + (nI 2)).toNatClampNeg)) g (a3 + nI 1)))) :
    LpX12_meet_118 l G d Q sh fR B f g a3 := by
  refine S_iload_n (pc := 118) dX12_meet_118 rfl rfl ?_
  refine S_aload_n (pc := 119) dX12_meet_119 rfl rfl ?_
  refine S_get (pc := 120) (v := .int (f B 64)) dX12_meet_120 flX12_209 (sM_0 hs) rfl ?_
  refine S_icmp_ge (pc := 123) (tgt := 178) dX12_meet_123 rfl (fun hc16 => ?_) (fun hc16 => ?_)
  · replace H := H.1 hc16
    refine S_aload_n (pc := 178) dX12_meet_178 rfl rfl ?_
    refine S_get (pc := 179) (v := .int (f B 64)) dX12_meet_179 flX12_209 (sM_0 hs) rfl ?_
    exact S_ireturn dX12_meet_182 rfl H
  · replace H := H.2 hc16
    refine S_aload_n (pc := 126) dX12_meet_126 rfl rfl ?_
    refine S_getR (pc := 127) dX12_meet_127 flX12_212 (sM_0 hs) rfl (rM_65 hs) ?_
    refine S_iload_n (pc := 130) dX12_meet_130 rfl rfl ?_
    refine S_aload_n (pc := 131) dX12_meet_131 rfl rfl ?_
    refine S_getR (pc := 132) dX12_meet_132 flX12_7 (sM_0 hs) rfl (rM_0 hs) ?_
    refine S_iconst (pc := 135) dX12_meet_135 ic3 ?_
    refine S_iload_n (pc := 136) dX12_meet_136 rfl rfl ?_
    refine S_imul (pc := 137) dX12_meet_137 ?_
    obtain ⟨hb17, H⟩ := H
    refine S_iald (pc := 138) dX12_meet_138 (sM_1 hs) hb17 ?_
    obtain ⟨hb18, H⟩ := H
    refine S_iast (pc := 139) dX12_meet_139 (sM_34 hs) (Nat.succ_pos _) hb18 ?_
    refine S_aload_n (pc := 140) dX12_meet_140 rfl rfl ?_
    refine S_getR (pc := 141) dX12_meet_141 flX12_215 (sM_0 hs) rfl (rM_66 hs) ?_
    refine S_iload_n (pc := 144) dX12_meet_144 rfl rfl ?_
    refine S_aload_n (pc := 145) dX12_meet_145 rfl rfl ?_
    refine S_getR (pc := 146) dX12_meet_146 flX12_7 (sM_0 hs) rfl (rM_0 hs) ?_
    refine S_iconst (pc := 149) dX12_meet_149 ic3 ?_
    refine S_iload_n (pc := 150) dX12_meet_150 rfl rfl ?_
    refine S_imul (pc := 151) dX12_meet_151 ?_
    refine S_iconst (pc := 152) dX12_meet_152 ic1 ?_
    refine S_iadd (pc := 153) dX12_meet_153 ?_
    obtain ⟨hb19, H⟩ := H
    refine S_iald (pc := 154) dX12_meet_154 (sM_1 hs) hb19 ?_
    refine S_eqi (x := f (B + 1) (((nI 3) * a3) + (nI 1)).toNatClampNeg) ((up2_r (by omega)).trans rfl) ?_
    obtain ⟨hb20, H⟩ := H
    refine S_iast (pc := 155) dX12_meet_155 (sM_35 hs) (Nat.succ_pos _) hb20 ?_
    refine S_aload_n (pc := 156) dX12_meet_156 rfl rfl ?_
    refine S_getR (pc := 157) dX12_meet_157 flX12_218 (sM_0 hs) rfl (rM_67 hs) ?_
    refine S_iload_n (pc := 160) dX12_meet_160 rfl rfl ?_
    refine S_aload_n (pc := 161) dX12_meet_161 rfl rfl ?_
    refine S_getR (pc := 162) dX12_meet_162 flX12_7 (sM_0 hs) rfl (rM_0 hs) ?_
    refine S_iconst (pc := 165) dX12_meet_165 ic3 ?_
    refine S_iload_n (pc := 166) dX12_meet_166 rfl rfl ?_
    refine S_imul (pc := 167) dX12_meet_167 ?_
    refine S_iconst (pc := 168) dX12_meet_168 ic2 ?_
    refine S_iadd (pc := 169) dX12_meet_169 ?_
    obtain ⟨hb21, H⟩ := H
    refine S_iald (pc := 170) dX12_meet_170 (sM_1 hs) hb21 ?_
    refine S_eqi (x := f (B + 1) (((nI 3) * a3) + (nI 2)).toNatClampNeg) ((up2_r (by omega)).trans ((up2_r (by omega)).trans rfl)) ?_
    obtain ⟨hb22, H⟩ := H
    refine S_iast (pc := 171) dX12_meet_171 (sM_36 hs) (Nat.succ_pos _) hb22 ?_
    refine S_iinc (pc := 172) (v := nI 1) (L' := [some (.ref B), none, none, some (.int (a3 + nI 1))]) dX12_meet_172 rfl ic1 rfl ?_
    refine S_goto (pc := 175) (tgt := 118) dX12_meet_175 rfl ?_
    exact H
abbrev LpX12_canBe_18 (l : Launch) (G : Gx) (d : Nat) (Q : Option Value → Hp → Prop) (sh : Sh) (fR : FRt) (B : Nat) (f : FI) (g : FL) (a1 : Int32) (a2 : Int32) (a3 : Int32) (a4 : Int32) : Prop := WP l G (Zq G 0 0 Q) mX12_canBe (rmd (d + 7) 0 0) 0 0 18 [some (.ref B), some (.int a1), some (.int a2), some (.int a3), some (.int a4), none] [] (sh, f, g, fR)
abbrev LpX12_canBe_75 (l : Launch) (G : Gx) (d : Nat) (Q : Option Value → Hp → Prop) (sh : Sh) (fR : FRt) (B : Nat) (f : FI) (g : FL) (a1 : Int32) (a2 : Int32) (a3 : Int32) (a4 : Int32) (a5 : Int32) : Prop := WP l G (Zq G 0 0 Q) mX12_canBe (rmd (d + 7) 0 0) 0 0 75 [some (.ref B), some (.int a1), some (.int a2), some (.int a3), some (.int a4), some (.int a5)] [] (sh, f, g, fR)
set_option maxHeartbeats 2000000 in
set_option maxRecDepth 4000 in
theorem VX12_canBe {l : Launch} {G : Gx} {d : Nat} {Q : Option Value → Hp → Prop} {sh : Sh} {fR : FRt} {B : Nat} {f : FI} {g : FL} {a1 : Int32} {a2 : Int32} (hs : StM sh fR B)
    (H : Cl l G (d + 6) 0 0 mX12_copies [.ref B, .int (nI 1), .int (nI 0)] (sh, f, g, fR) (qv sh fR fun f1 g2 => inb a1 4 ∧ LpX12_canBe_18 l G d Q sh fR B (up2 f1 (B + 29) a1.toNatClampNeg a2) g2 a1 a2 (nI 0) (nI 0))) :
    Cl l G (d + 7) 0 0 mX12_canBe [.ref B, .int a1, .int a2] (sh, f, g, fR) Q := by
  refine Cl.of (L0 := [some (.ref B), some (.int a1), some (.int a2), none, none, none]) miX12_canBe rfl rfl ?_
  refine S_aload_n (pc := 0) dX12_canBe_0 rfl rfl ?_
  refine S_iconst (pc := 1) dX12_canBe_1 ic1 ?_
  refine S_iconst (pc := 2) dX12_canBe_2 ic0 ?_
  refine S_callV (As := [.int (nI 1), .int (nI 0)]) (mc := 0) (ms := 0) (pc := 3) dX12_canBe_3 miX12_copies mvX12_copies mlX12_419 rfl (sM_0 hs) rfl rfl rfl (RmOK.of rfl) H ?_
  rintro _ _ ⟨f1, g2, rfl, rfl, H⟩
  show WP _ _ _ _ _ _ _ 6 [some (.ref B), some (.int a1), some (.int a2), none, none, none] [] (sh, f1, g2, fR)
  refine S_aload_n (pc := 6) dX12_canBe_6 rfl rfl ?_
  refine S_getR (pc := 7) dX12_canBe_7 flX12_176 (sM_0 hs) rfl (rM_53 hs) ?_
  refine S_iload_n (pc := 10) dX12_canBe_10 rfl rfl ?_
  refine S_iload_n (pc := 11) dX12_canBe_11 rfl rfl ?_
  obtain ⟨hb3, H⟩ := H
  refine S_iast (pc := 12) dX12_canBe_12 (sM_29 hs) (Nat.succ_pos _) hb3 ?_
  refine S_iconst (pc := 13) dX12_canBe_13 ic0 ?_
  refine S_istore_n (pc := 14) (L' := [some (.ref B), some (.int a1), some (.int a2), some (.int (nI 0)), none, none]) dX12_canBe_14 rfl (by decide) rfl ?_
  refine S_iconst (pc := 15) dX12_canBe_15 ic0 ?_
  refine S_istore (pc := 16) (L' := [some (.ref B), some (.int a1), some (.int a2), some (.int (nI 0)), some (.int (nI 0)), none]) dX12_canBe_16 (by decide) rfl ?_
  exact H
set_option maxHeartbeats 2000000 in
set_option maxRecDepth 4000 in
theorem VX12_canBe_18 {l : Launch} {G : Gx} {d : Nat} {Q : Option Value → Hp → Prop} {sh : Sh} {fR : FRt} {B : Nat} {f : FI} {g : FL} {a1 : Int32} {a2 : Int32} {a3 : Int32} {a4 : Int32} (hs : StM sh fR B)
    (H : Cl l G (d + 6) 0 0 mX12_isAhead [.ref B, .int a4, .int (nI 0), .int (nI 60)] (sh, f, g, fR) (qi sh fR fun x6 f4 g5 => ((x6 = 0 → inb (((nI 4) * (f4 B 13)) + a1) 8 ∧ inb a1 4 ∧ ((¬ a3 = (f4 B 64) → Q (some (.int (nI 0))) (sh, (up2 f4 (B + 29) a1.toNatClampNeg (f4 (B + 7) (((nI 4) * (f4 B 13)) + a1).toNatClampNeg)), g5, fR)) ∧ (a3 = (f4 B 64) → Q (some (.int (nI 1))) (sh, (up2 f4 (B + 29) a1.toNatClampNeg (f4 (B + 7) (((nI 4) * (f4 B 13)) + a1).toNatClampNeg)), g5, fR)))) ∧ (¬ x6 = 0 → inb (((nI 40) * (nI 1)) + (nI 2)) 880 ∧ inb (((nI 122) * a2) + ((nI 2) * a4)) 1220 ∧ inb (((nI 40) * (nI 1)) + (nI 4)) 880 ∧ inb ((((nI 122) * a2) + ((nI 2) * a4)) + (nI 1)) 1220 ∧ LpX12_canBe_75 l G d Q sh fR B (up2 (up2 f4 (B + 37) (((nI 122) * a2) + ((nI 2) * a4)).toNatClampNeg (f4 (B + 23) (((nI 40) * (nI 1)) + (nI 2)).toNatClampNeg)) (B + 37) ((((nI 122) * a2) + ((nI 2) * a4)) + (nI 1)).toNatClampNeg (f4 (B + 23) (((nI 40) * (nI 1)) + (nI 4)).toNatClampNeg)) g5 a1 a2 a3 a4 (nI 0))))) :
    LpX12_canBe_18 l G d Q sh fR B f g a1 a2 a3 a4 := by
  refine S_aload_n (pc := 18) dX12_canBe_18 rfl rfl ?_
  refine S_iload (pc := 19) dX12_canBe_19 rfl ?_
  refine S_iconst (pc := 21) dX12_canBe_21 ic0 ?_
  refine S_bipush (pc := 22) dX12_canBe_22 bp60 ?_
  refine S_callV (As := [.int a4, .int (nI 0), .int (nI 60)]) (mc := 0) (ms := 0) (pc := 24) dX12_canBe_24 miX12_isAhead mvX12_isAhead mlX12_585 rfl (sM_0 hs) rfl rfl rfl (RmOK.of rfl) H ?_
  rintro _ _ ⟨x6, f4, g5, rfl, rfl, H⟩
  show WP _ _ _ _ _ _ _ 27 [some (.ref B), some (.int a1), some (.int a2), some (.int a3), some (.int a4), none] [.int x6] (sh, f4, g5, fR)
  refine S_if_eq (pc := 27) (tgt := 153) dX12_canBe_27 rfl (fun hc7 => ?_) (fun hc7 => ?_)
  · replace H := H.1 hc7
    refine S_aload_n (pc := 153) dX12_canBe_153 rfl rfl ?_
    refine S_getR (pc := 154) dX12_canBe_154 flX12_176 (sM_0 hs) rfl (rM_53 hs) ?_
    refine S_iload_n (pc := 157) dX12_canBe_157 rfl rfl ?_
    refine S_aload_n (pc := 158) dX12_canBe_158 rfl rfl ?_
    refine S_getR (pc := 159) dX12_canBe_159 flX12_69 (sM_0 hs) rfl (rM_19 hs) ?_
    refine S_iconst (pc := 162) dX12_canBe_162 ic4 ?_
    refine S_aload_n (pc := 163) dX12_canBe_163 rfl rfl ?_
    refine S_get (pc := 164) (v := .int (f4 B 13)) dX12_canBe_164 flX12_51 (sM_0 hs) rfl ?_
    refine S_imul (pc := 167) dX12_canBe_167 ?_
    refine S_iload_n (pc := 168) dX12_canBe_168 rfl rfl ?_
    refine S_iadd (pc := 169) dX12_canBe_169 ?_
    obtain ⟨hb8, H⟩ := H
    refine S_iald (pc := 170) dX12_canBe_170 (sM_7 hs) hb8 ?_
    obtain ⟨hb9, H⟩ := H
    refine S_iast (pc := 171) dX12_canBe_171 (sM_29 hs) (Nat.succ_pos _) hb9 ?_
    refine S_iload_n (pc := 172) dX12_canBe_172 rfl rfl ?_
    refine S_aload_n (pc := 173) dX12_canBe_173 rfl rfl ?_
    refine S_get (pc := 174) (v := .int ((up2 f4 (B + 29) a1.toNatClampNeg (f4 (B + 7) (((nI 4) * (f4 B 13)) + a1).toNatClampNeg)) B 64)) dX12_canBe_174 flX12_209 (sM_0 hs) rfl ?_
    refine S_eqi (x := f4 B 64) ((up2_r (by omega)).trans rfl) ?_
    refine S_icmp_ne (pc := 177) (tgt := 184) dX12_canBe_177 rfl (fun hc10 => ?_) (fun hc10 => ?_)
    · replace H := H.1 hc10
      refine S_iconst (pc := 184) dX12_canBe_184 ic0 ?_
      exact S_zreturn dX12_canBe_185 rfl (Or.inl rfl) H
    · replace H := H.2 hc10
      refine S_iconst (pc := 180) dX12_canBe_180 ic1 ?_
      refine S_goto (pc := 181) (tgt := 185) dX12_canBe_181 rfl ?_
      exact S_zreturn dX12_canBe_185 rfl (Or.inr rfl) H
  · replace H := H.2 hc7
    refine S_aload_n (pc := 30) dX12_canBe_30 rfl rfl ?_
    refine S_getR (pc := 31) dX12_canBe_31 flX12_221 (sM_0 hs) rfl (rM_68 hs) ?_
    refine S_bipush (pc := 34) dX12_canBe_34 bp122 ?_
    refine S_iload_n (pc := 36) dX12_canBe_36 rfl rfl ?_
    refine S_imul (pc := 37) dX12_canBe_37 ?_
    refine S_iconst (pc := 38) dX12_canBe_38 ic2 ?_
    refine S_iload (pc := 39) dX12_canBe_39 rfl ?_
    refine S_imul (pc := 41) dX12_canBe_41 ?_
    refine S_iadd (pc := 42) dX12_canBe_42 ?_
    refine S_aload_n (pc := 43) dX12_canBe_43 rfl rfl ?_
    refine S_iconst (pc := 44) dX12_canBe_44 ic1 ?_
    refine S_iconst (pc := 45) dX12_canBe_45 ic2 ?_
    refine S_callV (As := [.int (nI 1), .int (nI 2)]) (mc := 0) (ms := 0) (pc := 46) dX12_canBe_46 miX12_n mvX12_n mlX12_402 rfl (sM_0 hs) rfl rfl rfl (RmOK.of rfl) (Q := fun r h => WP _ _ _ _ _ _ _ 49 [some (.ref B), some (.int a1), some (.int a2), some (.int a3), some (.int a4), none] (r.toList ++ [.int (((nI 122) * a2) + ((nI 2) * a4)), .ref (B + 37)]) h) (Cl.of miX12_n rfl rfl ?_) (fun _ _ q => q)
    refine S_aload_n (pc := 0) dX12_n_0 rfl rfl ?_
    refine S_getR (pc := 1) dX12_n_1 flX12_144 (sM_0 hs) rfl (rM_43 hs) ?_
    refine S_bipush (pc := 4) dX12_n_4 bp40 ?_
    refine S_iload_n (pc := 6) dX12_n_6 rfl rfl ?_
    refine S_imul (pc := 7) dX12_n_7 ?_
    refine S_iload_n (pc := 8) dX12_n_8 rfl rfl ?_
    refine S_iadd (pc := 9) dX12_n_9 ?_
    obtain ⟨hb11, H⟩ := H
    refine S_iald (pc := 10) dX12_n_10 (sM_23 hs) hb11 ?_
    refine S_ireturn dX12_n_11 rfl ?_
    show WP _ _ _ _ _ _ _ 49 [some (.ref B), some (.int a1), some (.int a2), some (.int a3), some (.int a4), none] [.int (f4 (B + 23) (((nI 40) * (nI 1)) + (nI 2)).toNatClampNeg), .int (((nI 122) * a2) + ((nI 2) * a4)), .ref (B + 37)] (sh, f4, g5, fR)
    obtain ⟨hb12, H⟩ := H
    refine S_iast (pc := 49) dX12_canBe_49 (sM_37 hs) (Nat.succ_pos _) hb12 ?_
    refine S_aload_n (pc := 50) dX12_canBe_50 rfl rfl ?_
    refine S_getR (pc := 51) dX12_canBe_51 flX12_221 (sM_0 hs) rfl (rM_68 hs) ?_
    refine S_bipush (pc := 54) dX12_canBe_54 bp122 ?_
    refine S_iload_n (pc := 56) dX12_canBe_56 rfl rfl ?_
    refine S_imul (pc := 57) dX12_canBe_57 ?_
    refine S_iconst (pc := 58) dX12_canBe_58 ic2 ?_
    refine S_iload (pc := 59) dX12_canBe_59 rfl ?_
    refine S_imul (pc := 61) dX12_canBe_61 ?_
    refine S_iadd (pc := 62) dX12_canBe_62 ?_
    refine S_iconst (pc := 63) dX12_canBe_63 ic1 ?_
    refine S_iadd (pc := 64) dX12_canBe_64 ?_
    refine S_aload_n (pc := 65) dX12_canBe_65 rfl rfl ?_
    refine S_iconst (pc := 66) dX12_canBe_66 ic1 ?_
    refine S_iconst (pc := 67) dX12_canBe_67 ic4 ?_
    refine S_callV (As := [.int (nI 1), .int (nI 4)]) (mc := 0) (ms := 0) (pc := 68) dX12_canBe_68 miX12_n mvX12_n mlX12_402 rfl (sM_0 hs) rfl rfl rfl (RmOK.of rfl) (Q := fun r h => WP _ _ _ _ _ _ _ 71 [some (.ref B), some (.int a1), some (.int a2), some (.int a3), some (.int a4), none] (r.toList ++ [.int ((((nI 122) * a2) + ((nI 2) * a4)) + (nI 1)), .ref (B + 37)]) h) (Cl.of miX12_n rfl rfl ?_) (fun _ _ q => q)
    refine S_aload_n (pc := 0) dX12_n_0 rfl rfl ?_
    refine S_getR (pc := 1) dX12_n_1 flX12_144 (sM_0 hs) rfl (rM_43 hs) ?_
    refine S_bipush (pc := 4) dX12_n_4 bp40 ?_
    refine S_iload_n (pc := 6) dX12_n_6 rfl rfl ?_
    refine S_imul (pc := 7) dX12_n_7 ?_
    refine S_iload_n (pc := 8) dX12_n_8 rfl rfl ?_
    refine S_iadd (pc := 9) dX12_n_9 ?_
    obtain ⟨hb13, H⟩ := H
    refine S_iald (pc := 10) dX12_n_10 (sM_23 hs) hb13 ?_
    refine S_eqi (x := f4 (B + 23) (((nI 40) * (nI 1)) + (nI 4)).toNatClampNeg) ((up2_r (by omega)).trans rfl) ?_
    refine S_ireturn dX12_n_11 rfl ?_
    show WP _ _ _ _ _ _ _ 71 [some (.ref B), some (.int a1), some (.int a2), some (.int a3), some (.int a4), none] [.int (f4 (B + 23) (((nI 40) * (nI 1)) + (nI 4)).toNatClampNeg), .int ((((nI 122) * a2) + ((nI 2) * a4)) + (nI 1)), .ref (B + 37)] (sh, (up2 f4 (B + 37) (((nI 122) * a2) + ((nI 2) * a4)).toNatClampNeg (f4 (B + 23) (((nI 40) * (nI 1)) + (nI 2)).toNatClampNeg)), g5, fR)
    obtain ⟨hb14, H⟩ := H
    refine S_iast (pc := 71) dX12_canBe_71 (sM_37 hs) (Nat.succ_pos _) hb14 ?_
    refine S_iconst (pc := 72) dX12_canBe_72 ic0 ?_
    refine S_istore (pc := 73) (L' := [some (.ref B), some (.int a1), some (.int a2), some (.int a3), some (.int a4), some (.int (nI 0))]) dX12_canBe_73 (by decide) rfl ?_
    exact H
set_option maxHeartbeats 2000000 in
set_option maxRecDepth 4000 in
theorem VX12_canBe_75 {l : Launch} {G : Gx} {d : Nat} {Q : Option Value → Hp → Prop} {sh : Sh} {fR : FRt} {B : Nat} {f : FI} {g : FL} {a1 : Int32} {a2 : Int32} {a3 : Int32} {a4 : Int32} {a5 : Int32} (hs : StM sh fR B)
    (H : (((f B 64) ≤ a5 → Cl l G (d + 6) 0 0 mX12_ticksOn [.ref B, .int (nI 1)] (sh, f, g, fR) (qv sh fR fun f16 g17 => LpX12_canBe_18 l G d Q sh fR B f16 g17 a1 a2 a3 (a4 + nI 1))) ∧ (¬ (f B 64) ≤ a5 → inb a5 16 ∧ ((¬ (f (B + 34) a5.toNatClampNeg) = a4 → (∀ w20 : Int32, w20 = a3 + (nI 0) → LpX12_canBe_75 l G d Q sh fR B f g a1 a2 w20 a4 (a5 + nI 1))) ∧ ((f (B + 34) a5.toNatClampNeg) = a4 → inb a5 16 ∧ inb ((((nI 122) * a2) + ((nI 2) * a4)) + (f (B + 35) a5.toNatClampNeg)) 1220 ∧ inb a5 16 ∧ ((¬ (f (B + 37) ((((nI 122) * a2) + ((nI 2) * a4)) + (f (B + 35) a5.toNatClampNeg)).toNatClampNeg) = (f (B + 36) a5.toNatClampNeg) → (∀ w26 : Int32, w26 = a3 + (nI 0) → LpX12_canBe_75 l G d Q sh fR B f g a1 a2 w26 a4 (a5 + nI 1))) ∧ ((f (B + 37) ((((nI 122) * a2) + ((nI 2) * a4)) + (f (B + 35) a5.toNatClampNeg)).toNatClampNeg) = (f (B + 36) a5.toNatClampNeg) → (∀ w28 : Int32, w28 = a3 + (nI 1) → LpX12_canBe_75 l G d Q sh fR B f g a1 a2 w28 a4 (a5 + nI 1))))))))) :
    LpX12_canBe_75 l G d Q sh fR B f g a1 a2 a3 a4 a5 := by
  refine S_iload (pc := 75) dX12_canBe_75 rfl ?_
  refine S_aload_n (pc := 77) dX12_canBe_77 rfl rfl ?_
  refine S_get (pc := 78) (v := .int (f B 64)) dX12_canBe_78 flX12_209 (sM_0 hs) rfl ?_
  refine S_icmp_ge (pc := 81) (tgt := 142) dX12_canBe_81 rfl (fun hc15 => ?_) (fun hc15 => ?_)
  · replace H := H.1 hc15
    refine S_aload_n (pc := 142) dX12_canBe_142 rfl rfl ?_
    refine S_iconst (pc := 143) dX12_canBe_143 ic1 ?_
    refine S_callV (As := [.int (nI 1)]) (mc := 0) (ms := 0) (pc := 144) dX12_canBe_144 miX12_ticksOn mvX12_ticksOn mlX12_588 rfl (sM_0 hs) rfl rfl rfl (RmOK.of rfl) H ?_
    rintro _ _ ⟨f16, g17, rfl, rfl, H⟩
    show WP _ _ _ _ _ _ _ 147 [some (.ref B), some (.int a1), some (.int a2), some (.int a3), some (.int a4), some (.int a5)] [] (sh, f16, g17, fR)
    refine S_iinc (pc := 147) (v := nI 1) (L' := [some (.ref B), some (.int a1), some (.int a2), some (.int a3), some (.int (a4 + nI 1)), some (.int a5)]) dX12_canBe_147 rfl ic1 rfl ?_
    refine S_goto (pc := 150) (tgt := 18) dX12_canBe_150 rfl ?_
    exact S_weak (L' := [some (.ref B), some (.int a1), some (.int a2), some (.int a3), some (.int (a4 + nI 1)), none]) (ls_e (ls_e (ls_e (ls_e (ls_e (ls_n ls_0)))))) H
  · replace H := H.2 hc15
    refine S_iload_n (pc := 84) dX12_canBe_84 rfl rfl ?_
    refine S_aload_n (pc := 85) dX12_canBe_85 rfl rfl ?_
    refine S_getR (pc := 86) dX12_canBe_86 flX12_212 (sM_0 hs) rfl (rM_65 hs) ?_
    refine S_iload (pc := 89) dX12_canBe_89 rfl ?_
    obtain ⟨hb18, H⟩ := H
    refine S_iald (pc := 91) dX12_canBe_91 (sM_34 hs) hb18 ?_
    refine S_iload (pc := 92) dX12_canBe_92 rfl ?_
    refine S_icmp_ne (pc := 94) (tgt := 133) dX12_canBe_94 rfl (fun hc19 => ?_) (fun hc19 => ?_)
    · replace H := H.1 hc19
      refine S_iconst (pc := 133) dX12_canBe_133 ic0 ?_
      refine S_iadd (pc := 134) dX12_canBe_134 ?_
      refine S_namei (fun w20 e21 => ?_)
      replace H := H w20 e21
      refine S_istore_n (pc := 135) (L' := [some (.ref B), some (.int a1), some (.int a2), some (.int w20), some (.int a4), some (.int a5)]) dX12_canBe_135 rfl (by decide) rfl ?_
      refine S_iinc (pc := 136) (v := nI 1) (L' := [some (.ref B), some (.int a1), some (.int a2), some (.int w20), some (.int a4), some (.int (a5 + nI 1))]) dX12_canBe_136 rfl ic1 rfl ?_
      refine S_goto (pc := 139) (tgt := 75) dX12_canBe_139 rfl ?_
      exact H
    · replace H := H.2 hc19
      refine S_aload_n (pc := 97) dX12_canBe_97 rfl rfl ?_
      refine S_getR (pc := 98) dX12_canBe_98 flX12_221 (sM_0 hs) rfl (rM_68 hs) ?_
      refine S_bipush (pc := 101) dX12_canBe_101 bp122 ?_
      refine S_iload_n (pc := 103) dX12_canBe_103 rfl rfl ?_
      refine S_imul (pc := 104) dX12_canBe_104 ?_
      refine S_iconst (pc := 105) dX12_canBe_105 ic2 ?_
      refine S_iload (pc := 106) dX12_canBe_106 rfl ?_
      refine S_imul (pc := 108) dX12_canBe_108 ?_
      refine S_iadd (pc := 109) dX12_canBe_109 ?_
      refine S_aload_n (pc := 110) dX12_canBe_110 rfl rfl ?_
      refine S_getR (pc := 111) dX12_canBe_111 flX12_215 (sM_0 hs) rfl (rM_66 hs) ?_
      refine S_iload (pc := 114) dX12_canBe_114 rfl ?_
      obtain ⟨hb22, H⟩ := H
      refine S_iald (pc := 116) dX12_canBe_116 (sM_35 hs) hb22 ?_
      refine S_iadd (pc := 117) dX12_canBe_117 ?_
      obtain ⟨hb23, H⟩ := H
      refine S_iald (pc := 118) dX12_canBe_118 (sM_37 hs) hb23 ?_
      refine S_aload_n (pc := 119) dX12_canBe_119 rfl rfl ?_
      refine S_getR (pc := 120) dX12_canBe_120 flX12_218 (sM_0 hs) rfl (rM_67 hs) ?_
      refine S_iload (pc := 123) dX12_canBe_123 rfl ?_
      obtain ⟨hb24, H⟩ := H
      refine S_iald (pc := 125) dX12_canBe_125 (sM_36 hs) hb24 ?_
      refine S_icmp_ne (pc := 126) (tgt := 133) dX12_canBe_126 rfl (fun hc25 => ?_) (fun hc25 => ?_)
      · replace H := H.1 hc25
        refine S_iconst (pc := 133) dX12_canBe_133 ic0 ?_
        refine S_iadd (pc := 134) dX12_canBe_134 ?_
        refine S_namei (fun w26 e27 => ?_)
        replace H := H w26 e27
        refine S_istore_n (pc := 135) (L' := [some (.ref B), some (.int a1), some (.int a2), some (.int w26), some (.int a4), some (.int a5)]) dX12_canBe_135 rfl (by decide) rfl ?_
        refine S_iinc (pc := 136) (v := nI 1) (L' := [some (.ref B), some (.int a1), some (.int a2), some (.int w26), some (.int a4), some (.int (a5 + nI 1))]) dX12_canBe_136 rfl ic1 rfl ?_
        refine S_goto (pc := 139) (tgt := 75) dX12_canBe_139 rfl ?_
        exact H
      · replace H := H.2 hc25
        refine S_iconst (pc := 129) dX12_canBe_129 ic1 ?_
        refine S_goto (pc := 130) (tgt := 134) dX12_canBe_130 rfl ?_
        refine S_iadd (pc := 134) dX12_canBe_134 ?_
        refine S_namei (fun w28 e29 => ?_)
        replace H := H w28 e29
        refine S_istore_n (pc := 135) (L' := [some (.ref B), some (.int a1), some (.int a2), some (.int w28), some (.int a4), some (.int a5)]) dX12_canBe_135 rfl (by decide) rfl ?_
        refine S_iinc (pc := 136) (v := nI 1) (L' := [some (.ref B), some (.int a1), some (.int a2), some (.int w28), some (.int a4), some (.int (a5 + nI 1))]) dX12_canBe_136 rfl ic1 rfl ?_
        refine S_goto (pc := 139) (tgt := 75) dX12_canBe_139 rfl ?_
        exact H
abbrev LpX12_delayBits_4 (l : Launch) (G : Gx) (d : Nat) (Q : Option Value → Hp → Prop) (sh : Sh) (fR : FRt) (B : Nat) (f : FI) (g : FL) (a1 : Int32) (a2 : Int32) (a3 : Int32) : Prop := WP l G (Zq G 0 0 Q) mX12_delayBits (rmd (d + 8) 0 0) 0 0 4 [some (.ref B), some (.int a1), some (.int a2), some (.int a3)] [] (sh, f, g, fR)
set_option maxHeartbeats 2000000 in
set_option maxRecDepth 4000 in
theorem VX12_delayBits {l : Launch} {G : Gx} {d : Nat} {Q : Option Value → Hp → Prop} {sh : Sh} {fR : FRt} {B : Nat} {f : FI} {g : FL} {a1 : Int32} (hs : StM sh fR B)
    (H : LpX12_delayBits_4 l G d Q sh fR B f g a1 (nI 0) (nI 1)) :
    Cl l G (d + 8) 0 0 mX12_delayBits [.ref B, .int a1] (sh, f, g, fR) Q := by
  refine Cl.of (L0 := [some (.ref B), some (.int a1), none, none]) miX12_delayBits rfl rfl ?_
  refine S_iconst (pc := 0) dX12_delayBits_0 ic0 ?_
  refine S_istore_n (pc := 1) (L' := [some (.ref B), some (.int a1), some (.int (nI 0)), none]) dX12_delayBits_1 rfl (by decide) rfl ?_
  refine S_iconst (pc := 2) dX12_delayBits_2 ic1 ?_
  refine S_istore_n (pc := 3) (L' := [some (.ref B), some (.int a1), some (.int (nI 0)), some (.int (nI 1))]) dX12_delayBits_3 rfl (by decide) rfl ?_
  exact H
set_option maxHeartbeats 2000000 in
set_option maxRecDepth 4000 in
theorem VX12_delayBits_4 {l : Launch} {G : Gx} {d : Nat} {Q : Option Value → Hp → Prop} {sh : Sh} {fR : FRt} {B : Nat} {f : FI} {g : FL} {a1 : Int32} {a2 : Int32} {a3 : Int32} (hs : StM sh fR B)
    (H : (((nI 9) < a3 → Q (some (.int a2)) (sh, f, g, fR)) ∧ (¬ (nI 9) < a3 → Cl l G (d + 7) 0 0 mX12_canBe [.ref B, .int a1, .int a3] (sh, f, g, fR) (qi sh fR fun x4 f2 g3 => ((x4 = 0 → (∀ w6 : Int32, w6 = a2 ||| (nI 0) → LpX12_delayBits_4 l G d Q sh fR B f2 g3 a1 w6 (a3 + nI 1))) ∧ (¬ x4 = 0 → (∀ w8 : Int32, w8 = a2 ||| ((nI 1) <<< (a3 &&& 31)) → LpX12_delayBits_4 l G d Q sh fR B f2 g3 a1 w8 (a3 + nI 1)))))))) :
    LpX12_delayBits_4 l G d Q sh fR B f g a1 a2 a3 := by
  refine S_iload_n (pc := 4) dX12_delayBits_4 rfl rfl ?_
  refine S_bipush (pc := 5) dX12_delayBits_5 bp9 ?_
  refine S_icmp_gt (pc := 7) (tgt := 35) dX12_delayBits_7 rfl (fun hc1 => ?_) (fun hc1 => ?_)
  · replace H := H.1 hc1
    refine S_iload_n (pc := 35) dX12_delayBits_35 rfl rfl ?_
    exact S_ireturn dX12_delayBits_36 rfl H
  · replace H := H.2 hc1
    refine S_iload_n (pc := 10) dX12_delayBits_10 rfl rfl ?_
    refine S_aload_n (pc := 11) dX12_delayBits_11 rfl rfl ?_
    refine S_iload_n (pc := 12) dX12_delayBits_12 rfl rfl ?_
    refine S_iload_n (pc := 13) dX12_delayBits_13 rfl rfl ?_
    refine S_callV (As := [.int a1, .int a3]) (mc := 0) (ms := 0) (pc := 14) dX12_delayBits_14 miX12_canBe mvX12_canBe mlX12_597 rfl (sM_0 hs) rfl rfl rfl (RmOK.of rfl) H ?_
    rintro _ _ ⟨x4, f2, g3, rfl, rfl, H⟩
    show WP _ _ _ _ _ _ _ 17 [some (.ref B), some (.int a1), some (.int a2), some (.int a3)] [.int x4, .int a2] (sh, f2, g3, fR)
    refine S_if_eq (pc := 17) (tgt := 26) dX12_delayBits_17 rfl (fun hc5 => ?_) (fun hc5 => ?_)
    · replace H := H.1 hc5
      refine S_iconst (pc := 26) dX12_delayBits_26 ic0 ?_
      refine S_ior (pc := 27) dX12_delayBits_27 ?_
      refine S_namei (fun w6 e7 => ?_)
      replace H := H w6 e7
      refine S_istore_n (pc := 28) (L' := [some (.ref B), some (.int a1), some (.int w6), some (.int a3)]) dX12_delayBits_28 rfl (by decide) rfl ?_
      refine S_iinc (pc := 29) (v := nI 1) (L' := [some (.ref B), some (.int a1), some (.int w6), some (.int (a3 + nI 1))]) dX12_delayBits_29 rfl ic1 rfl ?_
      refine S_goto (pc := 32) (tgt := 4) dX12_delayBits_32 rfl ?_
      exact H
    · replace H := H.2 hc5
      refine S_iconst (pc := 20) dX12_delayBits_20 ic1 ?_
      refine S_iload_n (pc := 21) dX12_delayBits_21 rfl rfl ?_
      refine S_ishl (pc := 22) dX12_delayBits_22 ?_
      refine S_goto (pc := 23) (tgt := 27) dX12_delayBits_23 rfl ?_
      refine S_ior (pc := 27) dX12_delayBits_27 ?_
      refine S_namei (fun w8 e9 => ?_)
      replace H := H w8 e9
      refine S_istore_n (pc := 28) (L' := [some (.ref B), some (.int a1), some (.int w8), some (.int a3)]) dX12_delayBits_28 rfl (by decide) rfl ?_
      refine S_iinc (pc := 29) (v := nI 1) (L' := [some (.ref B), some (.int a1), some (.int w8), some (.int (a3 + nI 1))]) dX12_delayBits_29 rfl ic1 rfl ?_
      refine S_goto (pc := 32) (tgt := 4) dX12_delayBits_32 rfl ?_
      exact H
set_option maxHeartbeats 2000000 in
set_option maxRecDepth 4000 in
theorem VX12_delays {l : Launch} {G : Gx} {d : Nat} {Q : Option Value → Hp → Prop} {sh : Sh} {fR : FRt} {B : Nat} {f : FI} {g : FL} {a1 : Int32} (hs : StM sh fR B)
    (H : Cl l G (d + 8) 0 0 mX12_isPath [.ref B, .int a1] (sh, f, g, fR) (qi sh fR fun x3 f1 g2 => ((x3 = 0 → Q (some (.int (-1))) (sh, f1, g2, fR)) ∧ (¬ x3 = 0 → Cl l G (d + 8) 0 0 mX12_delayBits [.ref B, .int a1] (sh, f1, g2, fR) (qi sh fR fun x7 f5 g6 => Q (some (.int x7)) (sh, f5, g6, fR)))))) :
    Cl l G (d + 9) 0 0 mX12_delays [.ref B, .int a1] (sh, f, g, fR) Q := by
  refine Cl.of (L0 := [some (.ref B), some (.int a1)]) miX12_delays rfl rfl ?_
  refine S_aload_n (pc := 0) dX12_delays_0 rfl rfl ?_
  refine S_iload_n (pc := 1) dX12_delays_1 rfl rfl ?_
  refine S_callV (As := [.int a1]) (mc := 0) (ms := 0) (pc := 2) dX12_delays_2 miX12_isPath mvX12_isPath mlX12_573 rfl (sM_0 hs) rfl rfl rfl (RmOK.of rfl) H ?_
  rintro _ _ ⟨x3, f1, g2, rfl, rfl, H⟩
  show WP _ _ _ _ _ _ _ 5 [some (.ref B), some (.int a1)] [.int x3] (sh, f1, g2, fR)
  refine S_if_eq (pc := 5) (tgt := 16) dX12_delays_5 rfl (fun hc4 => ?_) (fun hc4 => ?_)
  · replace H := H.1 hc4
    refine S_iconst (pc := 16) dX12_delays_16 icm1 ?_
    exact S_ireturn dX12_delays_17 rfl H
  · replace H := H.2 hc4
    refine S_aload_n (pc := 8) dX12_delays_8 rfl rfl ?_
    refine S_iload_n (pc := 9) dX12_delays_9 rfl rfl ?_
    refine S_callV (As := [.int a1]) (mc := 0) (ms := 0) (pc := 10) dX12_delays_10 miX12_delayBits mvX12_delayBits mlX12_600 rfl (sM_0 hs) rfl rfl rfl (RmOK.of rfl) H ?_
    rintro _ _ ⟨x7, f5, g6, rfl, rfl, H⟩
    show WP _ _ _ _ _ _ _ 13 [some (.ref B), some (.int a1)] [.int x7] (sh, f5, g6, fR)
    refine S_goto (pc := 13) (tgt := 17) dX12_delays_13 rfl ?_
    exact S_ireturn dX12_delays_17 rfl H
abbrev LpX12_mostBy_6 (l : Launch) (G : Gx) (d : Nat) (Q : Option Value → Hp → Prop) (sh : Sh) (fR : FRt) (B : Nat) (f : FI) (g : FL) (a1 : Int32) (a2 : Int32) (a3 : Int32) (a4 : Int32) (a5 : Int32) : Prop := WP l G (Zq G 0 0 Q) mX12_mostBy (rmd (d + 1) 0 0) 0 0 6 [some (.ref B), some (.int a1), some (.int a2), some (.int a3), some (.int a4), some (.int a5), none, none] [] (sh, f, g, fR)
abbrev LpX12_mostBy_19 (l : Launch) (G : Gx) (d : Nat) (Q : Option Value → Hp → Prop) (sh : Sh) (fR : FRt) (B : Nat) (f : FI) (g : FL) (a1 : Int32) (a2 : Int32) (a3 : Int32) (a4 : Int32) (a5 : Int32) (a6 : Int32) (a7 : Int32) : Prop := WP l G (Zq G 0 0 Q) mX12_mostBy (rmd (d + 1) 0 0) 0 0 19 [some (.ref B), some (.int a1), some (.int a2), some (.int a3), some (.int a4), some (.int a5), some (.int a6), some (.int a7)] [] (sh, f, g, fR)
set_option maxHeartbeats 2000000 in
set_option maxRecDepth 4000 in
theorem VX12_mostBy {l : Launch} {G : Gx} {d : Nat} {Q : Option Value → Hp → Prop} {sh : Sh} {fR : FRt} {B : Nat} {f : FI} {g : FL} {a1 : Int32} {a2 : Int32} {a3 : Int32} (hs : StM sh fR B)
    (H : LpX12_mostBy_6 l G d Q sh fR B f g a1 a2 a3 (nI 0) (nI 1)) :
    Cl l G (d + 1) 0 0 mX12_mostBy [.ref B, .int a1, .int a2, .int a3] (sh, f, g, fR) Q := by
  refine Cl.of (L0 := [some (.ref B), some (.int a1), some (.int a2), some (.int a3), none, none, none, none]) miX12_mostBy rfl rfl ?_
  refine S_iconst (pc := 0) dX12_mostBy_0 ic0 ?_
  refine S_istore (pc := 1) (L' := [some (.ref B), some (.int a1), some (.int a2), some (.int a3), some (.int (nI 0)), none, none, none]) dX12_mostBy_1 (by decide) rfl ?_
  refine S_iconst (pc := 3) dX12_mostBy_3 ic1 ?_
  refine S_istore (pc := 4) (L' := [some (.ref B), some (.int a1), some (.int a2), some (.int a3), some (.int (nI 0)), some (.int (nI 1)), none, none]) dX12_mostBy_4 (by decide) rfl ?_
  exact H
set_option maxHeartbeats 2000000 in
set_option maxRecDepth 4000 in
theorem VX12_mostBy_6 {l : Launch} {G : Gx} {d : Nat} {Q : Option Value → Hp → Prop} {sh : Sh} {fR : FRt} {B : Nat} {f : FI} {g : FL} {a1 : Int32} {a2 : Int32} {a3 : Int32} {a4 : Int32} {a5 : Int32} (hs : StM sh fR B)
    (H : (((nI 9) < a5 → Q (some (.int a4)) (sh, f, g, fR)) ∧ (¬ (nI 9) < a5 → LpX12_mostBy_19 l G d Q sh fR B f g a1 a2 a3 a4 a5 (nI 0) (nI 1)))) :
    LpX12_mostBy_6 l G d Q sh fR B f g a1 a2 a3 a4 a5 := by
  refine S_iload (pc := 6) dX12_mostBy_6 rfl ?_
  refine S_bipush (pc := 8) dX12_mostBy_8 bp9 ?_
  refine S_icmp_gt (pc := 10) (tgt := 117) dX12_mostBy_10 rfl (fun hc1 => ?_) (fun hc1 => ?_)
  · replace H := H.1 hc1
    refine S_iload (pc := 117) dX12_mostBy_117 rfl ?_
    exact S_ireturn dX12_mostBy_119 rfl H
  · replace H := H.2 hc1
    refine S_iconst (pc := 13) dX12_mostBy_13 ic0 ?_
    refine S_istore (pc := 14) (L' := [some (.ref B), some (.int a1), some (.int a2), some (.int a3), some (.int a4), some (.int a5), some (.int (nI 0)), none]) dX12_mostBy_14 (by decide) rfl ?_
    refine S_iconst (pc := 16) dX12_mostBy_16 ic1 ?_
    refine S_istore (pc := 17) (L' := [some (.ref B), some (.int a1), some (.int a2), some (.int a3), some (.int a4), some (.int a5), some (.int (nI 0)), some (.int (nI 1))]) dX12_mostBy_17 (by decide) rfl ?_
    exact H
set_option maxHeartbeats 2000000 in
set_option maxRecDepth 4000 in
theorem VX12_mostBy_19 {l : Launch} {G : Gx} {d : Nat} {Q : Option Value → Hp → Prop} {sh : Sh} {fR : FRt} {B : Nat} {f : FI} {g : FL} {a1 : Int32} {a2 : Int32} {a3 : Int32} {a4 : Int32} {a5 : Int32} {a6 : Int32} {a7 : Int32} (hs : StM sh fR B)
    (H : (((nI 9) < a7 → ((a6 ≤ a4 → LpX12_mostBy_6 l G d Q sh fR B f g a1 a2 a3 a4 (a5 + nI 1)) ∧ (¬ a6 ≤ a4 → LpX12_mostBy_6 l G d Q sh fR B f g a1 a2 a3 a6 (a5 + nI 1)))) ∧ (¬ (nI 9) < a7 → Cl l G d 0 0 mX12_has2 [.int a1, .int a5] (sh, f, g, fR) (qi sh fR fun x6 f4 g5 => ((x6 = 0 → (∀ w8 : Int32, w8 = a6 + (nI 0) → LpX12_mostBy_19 l G d Q sh fR B f4 g5 a1 a2 a3 a4 a5 w8 (a7 + nI 1))) ∧ (¬ x6 = 0 → Cl l G d 0 0 mX12_has2 [.int a1, .int a7] (sh, f4, g5, fR) (qi sh fR fun x12 f10 g11 => ((x12 = 0 → (∀ w14 : Int32, w14 = a6 + (nI 0) → LpX12_mostBy_19 l G d Q sh fR B f10 g11 a1 a2 a3 a4 a5 w14 (a7 + nI 1))) ∧ (¬ x12 = 0 → inb ((((nI 122) * a5) + ((nI 2) * a2)) + a3) 1220 ∧ inb ((((nI 122) * a7) + ((nI 2) * a2)) + a3) 1220 ∧ ((¬ (f10 (B + 37) ((((nI 122) * a5) + ((nI 2) * a2)) + a3).toNatClampNeg) = (f10 (B + 37) ((((nI 122) * a7) + ((nI 2) * a2)) + a3).toNatClampNeg) → (∀ w19 : Int32, w19 = a6 + (nI 0) → LpX12_mostBy_19 l G d Q sh fR B f10 g11 a1 a2 a3 a4 a5 w19 (a7 + nI 1))) ∧ ((f10 (B + 37) ((((nI 122) * a5) + ((nI 2) * a2)) + a3).toNatClampNeg) = (f10 (B + 37) ((((nI 122) * a7) + ((nI 2) * a2)) + a3).toNatClampNeg) → (∀ w21 : Int32, w21 = a6 + (nI 1) → LpX12_mostBy_19 l G d Q sh fR B f10 g11 a1 a2 a3 a4 a5 w21 (a7 + nI 1))))))))))))) :
    LpX12_mostBy_19 l G d Q sh fR B f g a1 a2 a3 a4 a5 a6 a7 := by
  refine S_iload (pc := 19) dX12_mostBy_19 rfl ?_
  refine S_bipush (pc := 21) dX12_mostBy_21 bp9 ?_
  refine S_icmp_gt (pc := 23) (tgt := 95) dX12_mostBy_23 rfl (fun hc2 => ?_) (fun hc2 => ?_)
  · replace H := H.1 hc2
    refine S_iload (pc := 95) dX12_mostBy_95 rfl ?_
    refine S_iload (pc := 97) dX12_mostBy_97 rfl ?_
    refine S_icmp_le (pc := 99) (tgt := 107) dX12_mostBy_99 rfl (fun hc3 => ?_) (fun hc3 => ?_)
    · replace H := H.1 hc3
      refine S_iload (pc := 107) dX12_mostBy_107 rfl ?_
      refine S_istore (pc := 109) (L' := [some (.ref B), some (.int a1), some (.int a2), some (.int a3), some (.int a4), some (.int a5), some (.int a6), some (.int a7)]) dX12_mostBy_109 (by decide) rfl ?_
      refine S_iinc (pc := 111) (v := nI 1) (L' := [some (.ref B), some (.int a1), some (.int a2), some (.int a3), some (.int a4), some (.int (a5 + nI 1)), some (.int a6), some (.int a7)]) dX12_mostBy_111 rfl ic1 rfl ?_
      refine S_goto (pc := 114) (tgt := 6) dX12_mostBy_114 rfl ?_
      exact S_weak (L' := [some (.ref B), some (.int a1), some (.int a2), some (.int a3), some (.int a4), some (.int (a5 + nI 1)), none, none]) (ls_e (ls_e (ls_e (ls_e (ls_e (ls_e (ls_n (ls_n ls_0)))))))) H
    · replace H := H.2 hc3
      refine S_iload (pc := 102) dX12_mostBy_102 rfl ?_
      refine S_goto (pc := 104) (tgt := 109) dX12_mostBy_104 rfl ?_
      refine S_istore (pc := 109) (L' := [some (.ref B), some (.int a1), some (.int a2), some (.int a3), some (.int a6), some (.int a5), some (.int a6), some (.int a7)]) dX12_mostBy_109 (by decide) rfl ?_
      refine S_iinc (pc := 111) (v := nI 1) (L' := [some (.ref B), some (.int a1), some (.int a2), some (.int a3), some (.int a6), some (.int (a5 + nI 1)), some (.int a6), some (.int a7)]) dX12_mostBy_111 rfl ic1 rfl ?_
      refine S_goto (pc := 114) (tgt := 6) dX12_mostBy_114 rfl ?_
      exact S_weak (L' := [some (.ref B), some (.int a1), some (.int a2), some (.int a3), some (.int a6), some (.int (a5 + nI 1)), none, none]) (ls_e (ls_e (ls_e (ls_e (ls_e (ls_e (ls_n (ls_n ls_0)))))))) H
  · replace H := H.2 hc2
    refine S_iload (pc := 26) dX12_mostBy_26 rfl ?_
    refine S_iload_n (pc := 28) dX12_mostBy_28 rfl rfl ?_
    refine S_iload (pc := 29) dX12_mostBy_29 rfl ?_
    refine S_callS (As := [.int a1, .int a5]) (mc := 0) (ms := 0) (pc := 31) dX12_mostBy_31 miX12_has2 mvX12_has2 mlX12_339 rfl rfl (RmOK.of rfl) H ?_
    rintro _ _ ⟨x6, f4, g5, rfl, rfl, H⟩
    show WP _ _ _ _ _ _ _ 34 [some (.ref B), some (.int a1), some (.int a2), some (.int a3), some (.int a4), some (.int a5), some (.int a6), some (.int a7)] [.int x6, .int a6] (sh, f4, g5, fR)
    refine S_if_eq (pc := 34) (tgt := 85) dX12_mostBy_34 rfl (fun hc7 => ?_) (fun hc7 => ?_)
    · replace H := H.1 hc7
      refine S_iconst (pc := 85) dX12_mostBy_85 ic0 ?_
      refine S_iadd (pc := 86) dX12_mostBy_86 ?_
      refine S_namei (fun w8 e9 => ?_)
      replace H := H w8 e9
      refine S_istore (pc := 87) (L' := [some (.ref B), some (.int a1), some (.int a2), some (.int a3), some (.int a4), some (.int a5), some (.int w8), some (.int a7)]) dX12_mostBy_87 (by decide) rfl ?_
      refine S_iinc (pc := 89) (v := nI 1) (L' := [some (.ref B), some (.int a1), some (.int a2), some (.int a3), some (.int a4), some (.int a5), some (.int w8), some (.int (a7 + nI 1))]) dX12_mostBy_89 rfl ic1 rfl ?_
      refine S_goto (pc := 92) (tgt := 19) dX12_mostBy_92 rfl ?_
      exact H
    · replace H := H.2 hc7
      refine S_iload_n (pc := 37) dX12_mostBy_37 rfl rfl ?_
      refine S_iload (pc := 38) dX12_mostBy_38 rfl ?_
      refine S_callS (As := [.int a1, .int a7]) (mc := 0) (ms := 0) (pc := 40) dX12_mostBy_40 miX12_has2 mvX12_has2 mlX12_339 rfl rfl (RmOK.of rfl) H ?_
      rintro _ _ ⟨x12, f10, g11, rfl, rfl, H⟩
      show WP _ _ _ _ _ _ _ 43 [some (.ref B), some (.int a1), some (.int a2), some (.int a3), some (.int a4), some (.int a5), some (.int a6), some (.int a7)] [.int x12, .int a6] (sh, f10, g11, fR)
      refine S_if_eq (pc := 43) (tgt := 85) dX12_mostBy_43 rfl (fun hc13 => ?_) (fun hc13 => ?_)
      · replace H := H.1 hc13
        refine S_iconst (pc := 85) dX12_mostBy_85 ic0 ?_
        refine S_iadd (pc := 86) dX12_mostBy_86 ?_
        refine S_namei (fun w14 e15 => ?_)
        replace H := H w14 e15
        refine S_istore (pc := 87) (L' := [some (.ref B), some (.int a1), some (.int a2), some (.int a3), some (.int a4), some (.int a5), some (.int w14), some (.int a7)]) dX12_mostBy_87 (by decide) rfl ?_
        refine S_iinc (pc := 89) (v := nI 1) (L' := [some (.ref B), some (.int a1), some (.int a2), some (.int a3), some (.int a4), some (.int a5), some (.int w14), some (.int (a7 + nI 1))]) dX12_mostBy_89 rfl ic1 rfl ?_
        refine S_goto (pc := 92) (tgt := 19) dX12_mostBy_92 rfl ?_
        exact H
      · replace H := H.2 hc13
        refine S_aload_n (pc := 46) dX12_mostBy_46 rfl rfl ?_
        refine S_getR (pc := 47) dX12_mostBy_47 flX12_221 (sM_0 hs) rfl (rM_68 hs) ?_
        refine S_bipush (pc := 50) dX12_mostBy_50 bp122 ?_
        refine S_iload (pc := 52) dX12_mostBy_52 rfl ?_
        refine S_imul (pc := 54) dX12_mostBy_54 ?_
        refine S_iconst (pc := 55) dX12_mostBy_55 ic2 ?_
        refine S_iload_n (pc := 56) dX12_mostBy_56 rfl rfl ?_
        refine S_imul (pc := 57) dX12_mostBy_57 ?_
        refine S_iadd (pc := 58) dX12_mostBy_58 ?_
        refine S_iload_n (pc := 59) dX12_mostBy_59 rfl rfl ?_
        refine S_iadd (pc := 60) dX12_mostBy_60 ?_
        obtain ⟨hb16, H⟩ := H
        refine S_iald (pc := 61) dX12_mostBy_61 (sM_37 hs) hb16 ?_
        refine S_aload_n (pc := 62) dX12_mostBy_62 rfl rfl ?_
        refine S_getR (pc := 63) dX12_mostBy_63 flX12_221 (sM_0 hs) rfl (rM_68 hs) ?_
        refine S_bipush (pc := 66) dX12_mostBy_66 bp122 ?_
        refine S_iload (pc := 68) dX12_mostBy_68 rfl ?_
        refine S_imul (pc := 70) dX12_mostBy_70 ?_
        refine S_iconst (pc := 71) dX12_mostBy_71 ic2 ?_
        refine S_iload_n (pc := 72) dX12_mostBy_72 rfl rfl ?_
        refine S_imul (pc := 73) dX12_mostBy_73 ?_
        refine S_iadd (pc := 74) dX12_mostBy_74 ?_
        refine S_iload_n (pc := 75) dX12_mostBy_75 rfl rfl ?_
        refine S_iadd (pc := 76) dX12_mostBy_76 ?_
        obtain ⟨hb17, H⟩ := H
        refine S_iald (pc := 77) dX12_mostBy_77 (sM_37 hs) hb17 ?_
        refine S_icmp_ne (pc := 78) (tgt := 85) dX12_mostBy_78 rfl (fun hc18 => ?_) (fun hc18 => ?_)
        · replace H := H.1 hc18
          refine S_iconst (pc := 85) dX12_mostBy_85 ic0 ?_
          refine S_iadd (pc := 86) dX12_mostBy_86 ?_
          refine S_namei (fun w19 e20 => ?_)
          replace H := H w19 e20
          refine S_istore (pc := 87) (L' := [some (.ref B), some (.int a1), some (.int a2), some (.int a3), some (.int a4), some (.int a5), some (.int w19), some (.int a7)]) dX12_mostBy_87 (by decide) rfl ?_
          refine S_iinc (pc := 89) (v := nI 1) (L' := [some (.ref B), some (.int a1), some (.int a2), some (.int a3), some (.int a4), some (.int a5), some (.int w19), some (.int (a7 + nI 1))]) dX12_mostBy_89 rfl ic1 rfl ?_
          refine S_goto (pc := 92) (tgt := 19) dX12_mostBy_92 rfl ?_
          exact H
        · replace H := H.2 hc18
          refine S_iconst (pc := 81) dX12_mostBy_81 ic1 ?_
          refine S_goto (pc := 82) (tgt := 86) dX12_mostBy_82 rfl ?_
          refine S_iadd (pc := 86) dX12_mostBy_86 ?_
          refine S_namei (fun w21 e22 => ?_)
          replace H := H w21 e22
          refine S_istore (pc := 87) (L' := [some (.ref B), some (.int a1), some (.int a2), some (.int a3), some (.int a4), some (.int a5), some (.int w21), some (.int a7)]) dX12_mostBy_87 (by decide) rfl ?_
          refine S_iinc (pc := 89) (v := nI 1) (L' := [some (.ref B), some (.int a1), some (.int a2), some (.int a3), some (.int a4), some (.int a5), some (.int w21), some (.int (a7 + nI 1))]) dX12_mostBy_89 rfl ic1 rfl ?_
          refine S_goto (pc := 92) (tgt := 19) dX12_mostBy_92 rfl ?_
          exact H
abbrev LpX12_tells_36 (l : Launch) (G : Gx) (d : Nat) (Q : Option Value → Hp → Prop) (sh : Sh) (fR : FRt) (B : Nat) (f : FI) (g : FL) (a2 : Int32) (a3 : Int32) (a4 : Int32) (a5 : Int32) (a6 : Int32) : Prop := WP l G (Zq G 0 0 Q) mX12_tells (rmd (d + 9) 0 0) 0 0 36 [some (.ref B), none, some (.int a2), some (.int a3), some (.int a4), some (.int a5), some (.int a6), none, none] [] (sh, f, g, fR)
abbrev LpX12_tells_107 (l : Launch) (G : Gx) (d : Nat) (Q : Option Value → Hp → Prop) (sh : Sh) (fR : FRt) (B : Nat) (f : FI) (g : FL) (a2 : Int32) (a4 : Int32) (a5 : Int32) : Prop := WP l G (Zq G 0 0 Q) mX12_tells (rmd (d + 9) 0 0) 0 0 107 [none, none, some (.int a2), none, some (.int a4), some (.int a5), none, none, none] [] (sh, f, g, fR)
abbrev LpX12_tells_55 (l : Launch) (G : Gx) (d : Nat) (Q : Option Value → Hp → Prop) (sh : Sh) (fR : FRt) (B : Nat) (f : FI) (g : FL) (a2 : Int32) (a3 : Int32) (a4 : Int32) (a5 : Int32) (a6 : Int32) (a7 : Int32) : Prop := WP l G (Zq G 0 0 Q) mX12_tells (rmd (d + 9) 0 0) 0 0 55 [some (.ref B), none, some (.int a2), some (.int a3), some (.int a4), some (.int a5), some (.int a6), some (.int a7), none] [] (sh, f, g, fR)
abbrev LpX12_tells_95 (l : Launch) (G : Gx) (d : Nat) (Q : Option Value → Hp → Prop) (sh : Sh) (fR : FRt) (B : Nat) (f : FI) (g : FL) (a2 : Int32) (a3 : Int32) (a4 : Int32) (a5 : Int32) (a6 : Int32) (a7 : Int32) : Prop := WP l G (Zq G 0 0 Q) mX12_tells (rmd (d + 9) 0 0) 0 0 95 [some (.ref B), none, some (.int a2), some (.int a3), some (.int a4), some (.int a5), some (.int a6), some (.int a7), none] [] (sh, f, g, fR)
set_option maxHeartbeats 2000000 in
set_option maxRecDepth 4000 in
theorem VX12_tells {l : Launch} {G : Gx} {d : Nat} {Q : Option Value → Hp → Prop} {sh : Sh} {fR : FRt} {B : Nat} {f : FI} {g : FL} {a1 : Int32} {a2 : Int32} (hs : StM sh fR B)
    (H : Cl l G (d + 8) 0 0 mX12_isPath [.ref B, .int a1] (sh, f, g, fR) (qi sh fR fun x3 f1 g2 => ((x3 = 0 → Q (some (.int (-1))) (sh, f1, g2, fR)) ∧ (¬ x3 = 0 → Cl l G (d + 8) 0 0 mX12_is [.int a2, .int (nI 0), .int (nI 2)] (sh, f1, g2, fR) (qi sh fR fun x7 f5 g6 => ((¬ x7 = 0 → Cl l G (d + 8) 0 0 mX12_delayBits [.ref B, .int a1] (sh, f5, g6, fR) (qi sh fR fun x11 f9 g10 => LpX12_tells_36 l G d Q sh fR B f9 g10 a2 x11 (-1) (nI 100000000) (nI 1))) ∧ (x7 = 0 → Q (some (.int (-1))) (sh, f5, g6, fR)))))))) :
    Cl l G (d + 9) 0 0 mX12_tells [.ref B, .int a1, .int a2] (sh, f, g, fR) Q := by
  refine Cl.of (L0 := [some (.ref B), some (.int a1), some (.int a2), none, none, none, none, none, none]) miX12_tells rfl rfl ?_
  refine S_aload_n (pc := 0) dX12_tells_0 rfl rfl ?_
  refine S_iload_n (pc := 1) dX12_tells_1 rfl rfl ?_
  refine S_callV (As := [.int a1]) (mc := 0) (ms := 0) (pc := 2) dX12_tells_2 miX12_isPath mvX12_isPath mlX12_573 rfl (sM_0 hs) rfl rfl rfl (RmOK.of rfl) H ?_
  rintro _ _ ⟨x3, f1, g2, rfl, rfl, H⟩
  show WP _ _ _ _ _ _ _ 5 [some (.ref B), some (.int a1), some (.int a2), none, none, none, none, none, none] [.int x3] (sh, f1, g2, fR)
  refine S_if_eq (pc := 5) (tgt := 17) dX12_tells_5 rfl (fun hc4 => ?_) (fun hc4 => ?_)
  · replace H := H.1 hc4
    refine S_iconst (pc := 17) dX12_tells_17 icm1 ?_
    exact S_ireturn dX12_tells_18 rfl H
  · replace H := H.2 hc4
    refine S_iload_n (pc := 8) dX12_tells_8 rfl rfl ?_
    refine S_iconst (pc := 9) dX12_tells_9 ic0 ?_
    refine S_iconst (pc := 10) dX12_tells_10 ic2 ?_
    refine S_callS (As := [.int a2, .int (nI 0), .int (nI 2)]) (mc := 0) (ms := 0) (pc := 11) dX12_tells_11 miX12_is mvX12_is mlX12_310 rfl rfl (RmOK.of rfl) H ?_
    rintro _ _ ⟨x7, f5, g6, rfl, rfl, H⟩
    show WP _ _ _ _ _ _ _ 14 [some (.ref B), some (.int a1), some (.int a2), none, none, none, none, none, none] [.int x7] (sh, f5, g6, fR)
    refine S_if_ne (pc := 14) (tgt := 19) dX12_tells_14 rfl (fun hc8 => ?_) (fun hc8 => ?_)
    · replace H := H.1 hc8
      refine S_aload_n (pc := 19) dX12_tells_19 rfl rfl ?_
      refine S_iload_n (pc := 20) dX12_tells_20 rfl rfl ?_
      refine S_callV (As := [.int a1]) (mc := 0) (ms := 0) (pc := 21) dX12_tells_21 miX12_delayBits mvX12_delayBits mlX12_600 rfl (sM_0 hs) rfl rfl rfl (RmOK.of rfl) H ?_
      rintro _ _ ⟨x11, f9, g10, rfl, rfl, H⟩
      show WP _ _ _ _ _ _ _ 24 [some (.ref B), some (.int a1), some (.int a2), none, none, none, none, none, none] [.int x11] (sh, f9, g10, fR)
      refine S_istore_n (pc := 24) (L' := [some (.ref B), some (.int a1), some (.int a2), some (.int x11), none, none, none, none, none]) dX12_tells_24 rfl (by decide) rfl ?_
      refine S_iconst (pc := 25) dX12_tells_25 icm1 ?_
      refine S_istore (pc := 26) (L' := [some (.ref B), some (.int a1), some (.int a2), some (.int x11), some (.int (-1)), none, none, none, none]) dX12_tells_26 (by decide) rfl ?_
      refine S_ldcw (pc := 28) (v := nI 100000000) dX12_tells_28 (gw 1877 rfl rfl) ?_
      refine S_istore (pc := 31) (L' := [some (.ref B), some (.int a1), some (.int a2), some (.int x11), some (.int (-1)), some (.int (nI 100000000)), none, none, none]) dX12_tells_31 (by decide) rfl ?_
      refine S_iconst (pc := 33) dX12_tells_33 ic1 ?_
      refine S_istore (pc := 34) (L' := [some (.ref B), some (.int a1), some (.int a2), some (.int x11), some (.int (-1)), some (.int (nI 100000000)), some (.int (nI 1)), none, none]) dX12_tells_34 (by decide) rfl ?_
      exact S_weak (L' := [some (.ref B), none, some (.int a2), some (.int x11), some (.int (-1)), some (.int (nI 100000000)), some (.int (nI 1)), none, none]) (ls_e (ls_n (ls_e (ls_e (ls_e (ls_e (ls_e (ls_e (ls_e ls_0))))))))) H
    · replace H := H.2 hc8
      refine S_iconst (pc := 17) dX12_tells_17 icm1 ?_
      exact S_ireturn dX12_tells_18 rfl H
set_option maxHeartbeats 2000000 in
set_option maxRecDepth 4000 in
theorem VX12_tells_36 {l : Launch} {G : Gx} {d : Nat} {Q : Option Value → Hp → Prop} {sh : Sh} {fR : FRt} {B : Nat} {f : FI} {g : FL} {a2 : Int32} {a3 : Int32} {a4 : Int32} {a5 : Int32} {a6 : Int32} (hs : StM sh fR B)
    (H : Cl l G (d + 8) 0 0 mX12_isAhead [.ref B, .int a6, .int (nI 1), .int (nI 60)] (sh, f, g, fR) (qi sh fR fun x14 f12 g13 => ((x14 = 0 → LpX12_tells_107 l G d Q sh fR B f12 g13 a2 a4 a5) ∧ (¬ x14 = 0 → ((a3 = 0 → LpX12_tells_107 l G d Q sh fR B f12 g13 a2 a4 a5) ∧ (¬ a3 = 0 → LpX12_tells_55 l G d Q sh fR B f12 g13 a2 a3 a4 a5 a6 (nI 0))))))) :
    LpX12_tells_36 l G d Q sh fR B f g a2 a3 a4 a5 a6 := by
  refine S_aload_n (pc := 36) dX12_tells_36 rfl rfl ?_
  refine S_iload (pc := 37) dX12_tells_37 rfl ?_
  refine S_iconst (pc := 39) dX12_tells_39 ic1 ?_
  refine S_bipush (pc := 40) dX12_tells_40 bp60 ?_
  refine S_callV (As := [.int a6, .int (nI 1), .int (nI 60)]) (mc := 0) (ms := 0) (pc := 42) dX12_tells_42 miX12_isAhead mvX12_isAhead mlX12_585 rfl (sM_0 hs) rfl rfl rfl (RmOK.of rfl) H ?_
  rintro _ _ ⟨x14, f12, g13, rfl, rfl, H⟩
  show WP _ _ _ _ _ _ _ 45 [some (.ref B), none, some (.int a2), some (.int a3), some (.int a4), some (.int a5), some (.int a6), none, none] [.int x14] (sh, f12, g13, fR)
  refine S_if_eq (pc := 45) (tgt := 107) dX12_tells_45 rfl (fun hc15 => ?_) (fun hc15 => ?_)
  · replace H := H.1 hc15
    exact S_weak (L' := [none, none, some (.int a2), none, some (.int a4), some (.int a5), none, none, none]) (ls_n (ls_e (ls_e (ls_n (ls_e (ls_e (ls_n (ls_e (ls_e ls_0))))))))) H
  · replace H := H.2 hc15
    refine S_iload_n (pc := 48) dX12_tells_48 rfl rfl ?_
    refine S_if_eq (pc := 49) (tgt := 107) dX12_tells_49 rfl (fun hc16 => ?_) (fun hc16 => ?_)
    · replace H := H.1 hc16
      exact S_weak (L' := [none, none, some (.int a2), none, some (.int a4), some (.int a5), none, none, none]) (ls_n (ls_e (ls_e (ls_n (ls_e (ls_e (ls_n (ls_e (ls_e ls_0))))))))) H
    · replace H := H.2 hc16
      refine S_iconst (pc := 52) dX12_tells_52 ic0 ?_
      refine S_istore (pc := 53) (L' := [some (.ref B), none, some (.int a2), some (.int a3), some (.int a4), some (.int a5), some (.int a6), some (.int (nI 0)), none]) dX12_tells_53 (by decide) rfl ?_
      exact H
set_option maxHeartbeats 2000000 in
set_option maxRecDepth 4000 in
theorem VX12_tells_107 {l : Launch} {G : Gx} {d : Nat} {Q : Option Value → Hp → Prop} {sh : Sh} {fR : FRt} {B : Nat} {f : FI} {g : FL} {a2 : Int32} {a4 : Int32} {a5 : Int32} (hs : StM sh fR B)
    (H : ((¬ a4 = (-1) → ((¬ a2 = 0 → ((¬ a2 = (nI 1) → Q (some (.int a5)) (sh, f, g, fR)) ∧ (a2 = (nI 1) → Q (some (.int (a4 - a4 / (nI 2) * (nI 2)))) (sh, f, g, fR)))) ∧ (a2 = 0 → Q (some (.int (a4 / (nI 2)))) (sh, f, g, fR)))) ∧ (a4 = (-1) → Q (some (.int (-1))) (sh, f, g, fR)))) :
    LpX12_tells_107 l G d Q sh fR B f g a2 a4 a5 := by
  refine S_iload (pc := 107) dX12_tells_107 rfl ?_
  refine S_iconst (pc := 109) dX12_tells_109 icm1 ?_
  refine S_icmp_ne (pc := 110) (tgt := 117) dX12_tells_110 rfl (fun hc17 => ?_) (fun hc17 => ?_)
  · replace H := H.1 hc17
    refine S_iload_n (pc := 117) dX12_tells_117 rfl rfl ?_
    refine S_if_ne (pc := 118) (tgt := 128) dX12_tells_118 rfl (fun hc18 => ?_) (fun hc18 => ?_)
    · replace H := H.1 hc18
      refine S_iload_n (pc := 128) dX12_tells_128 rfl rfl ?_
      refine S_iconst (pc := 129) dX12_tells_129 ic1 ?_
      refine S_icmp_ne (pc := 130) (tgt := 140) dX12_tells_130 rfl (fun hc19 => ?_) (fun hc19 => ?_)
      · replace H := H.1 hc19
        refine S_iload (pc := 140) dX12_tells_140 rfl ?_
        exact S_ireturn dX12_tells_142 rfl H
      · replace H := H.2 hc19
        refine S_iload (pc := 133) dX12_tells_133 rfl ?_
        refine S_iconst (pc := 135) dX12_tells_135 ic2 ?_
        refine S_irem (pc := 136) dX12_tells_136 (by decide) ?_
        refine S_goto (pc := 137) (tgt := 142) dX12_tells_137 rfl ?_
        exact S_ireturn dX12_tells_142 rfl H
    · replace H := H.2 hc18
      refine S_iload (pc := 121) dX12_tells_121 rfl ?_
      refine S_iconst (pc := 123) dX12_tells_123 ic2 ?_
      refine S_idiv (pc := 124) dX12_tells_124 (by decide) ?_
      refine S_goto (pc := 125) (tgt := 142) dX12_tells_125 rfl ?_
      exact S_ireturn dX12_tells_142 rfl H
  · replace H := H.2 hc17
    refine S_iconst (pc := 113) dX12_tells_113 icm1 ?_
    refine S_goto (pc := 114) (tgt := 142) dX12_tells_114 rfl ?_
    exact S_ireturn dX12_tells_142 rfl H
set_option maxHeartbeats 2000000 in
set_option maxRecDepth 4000 in
theorem VX12_tells_55 {l : Launch} {G : Gx} {d : Nat} {Q : Option Value → Hp → Prop} {sh : Sh} {fR : FRt} {B : Nat} {f : FI} {g : FL} {a2 : Int32} {a3 : Int32} {a4 : Int32} {a5 : Int32} {a6 : Int32} {a7 : Int32} (hs : StM sh fR B)
    (H : (((nI 2) ≤ a7 → LpX12_tells_36 l G d Q sh fR B f g a2 a3 a4 a5 (a6 + nI 1)) ∧ (¬ (nI 2) ≤ a7 → Cl l G (d + 8) 0 0 mX12_mostBy [.ref B, .int a3, .int a6, .int a7] (sh, f, g, fR) (qi sh fR fun x23 f21 g22 => ((x23 < a5 → (∀ w25 : Int32, w25 = ((nI 2) * a6) + a7 → LpX12_tells_95 l G d Q sh fR B f21 g22 a2 a3 w25 x23 a6 a7)) ∧ (¬ x23 < a5 → LpX12_tells_95 l G d Q sh fR B f21 g22 a2 a3 a4 a5 a6 a7)))))) :
    LpX12_tells_55 l G d Q sh fR B f g a2 a3 a4 a5 a6 a7 := by
  refine S_iload (pc := 55) dX12_tells_55 rfl ?_
  refine S_iconst (pc := 57) dX12_tells_57 ic2 ?_
  refine S_icmp_ge (pc := 58) (tgt := 101) dX12_tells_58 rfl (fun hc20 => ?_) (fun hc20 => ?_)
  · replace H := H.1 hc20
    refine S_iinc (pc := 101) (v := nI 1) (L' := [some (.ref B), none, some (.int a2), some (.int a3), some (.int a4), some (.int a5), some (.int (a6 + nI 1)), some (.int a7), none]) dX12_tells_101 rfl ic1 rfl ?_
    refine S_goto (pc := 104) (tgt := 36) dX12_tells_104 rfl ?_
    exact S_weak (L' := [some (.ref B), none, some (.int a2), some (.int a3), some (.int a4), some (.int a5), some (.int (a6 + nI 1)), none, none]) (ls_e (ls_e (ls_e (ls_e (ls_e (ls_e (ls_e (ls_n (ls_e ls_0))))))))) H
  · replace H := H.2 hc20
    refine S_aload_n (pc := 61) dX12_tells_61 rfl rfl ?_
    refine S_iload_n (pc := 62) dX12_tells_62 rfl rfl ?_
    refine S_iload (pc := 63) dX12_tells_63 rfl ?_
    refine S_iload (pc := 65) dX12_tells_65 rfl ?_
    refine S_callV (As := [.int a3, .int a6, .int a7]) (mc := 0) (ms := 0) (pc := 67) dX12_tells_67 miX12_mostBy mvX12_mostBy mlX12_604 rfl (sM_0 hs) rfl rfl rfl (RmOK.of rfl) H ?_
    rintro _ _ ⟨x23, f21, g22, rfl, rfl, H⟩
    show WP _ _ _ _ _ _ _ 70 [some (.ref B), none, some (.int a2), some (.int a3), some (.int a4), some (.int a5), some (.int a6), some (.int a7), none] [.int x23] (sh, f21, g22, fR)
    refine S_istore (pc := 70) (L' := [some (.ref B), none, some (.int a2), some (.int a3), some (.int a4), some (.int a5), some (.int a6), some (.int a7), some (.int x23)]) dX12_tells_70 (by decide) rfl ?_
    refine S_iload (pc := 72) dX12_tells_72 rfl ?_
    refine S_iload (pc := 74) dX12_tells_74 rfl ?_
    refine S_icmp_lt (pc := 76) (tgt := 82) dX12_tells_76 rfl (fun hc24 => ?_) (fun hc24 => ?_)
    · replace H := H.1 hc24
      refine S_iload (pc := 82) dX12_tells_82 rfl ?_
      refine S_istore (pc := 84) (L' := [some (.ref B), none, some (.int a2), some (.int a3), some (.int a4), some (.int x23), some (.int a6), some (.int a7), some (.int x23)]) dX12_tells_84 (by decide) rfl ?_
      refine S_iconst (pc := 86) dX12_tells_86 ic2 ?_
      refine S_iload (pc := 87) dX12_tells_87 rfl ?_
      refine S_imul (pc := 89) dX12_tells_89 ?_
      refine S_iload (pc := 90) dX12_tells_90 rfl ?_
      refine S_iadd (pc := 92) dX12_tells_92 ?_
      refine S_namei (fun w25 e26 => ?_)
      replace H := H w25 e26
      refine S_istore (pc := 93) (L' := [some (.ref B), none, some (.int a2), some (.int a3), some (.int w25), some (.int x23), some (.int a6), some (.int a7), some (.int x23)]) dX12_tells_93 (by decide) rfl ?_
      exact S_weak (L' := [some (.ref B), none, some (.int a2), some (.int a3), some (.int w25), some (.int x23), some (.int a6), some (.int a7), none]) (ls_e (ls_e (ls_e (ls_e (ls_e (ls_e (ls_e (ls_e (ls_n ls_0))))))))) H
    · replace H := H.2 hc24
      refine S_goto (pc := 79) (tgt := 95) dX12_tells_79 rfl ?_
      exact S_weak (L' := [some (.ref B), none, some (.int a2), some (.int a3), some (.int a4), some (.int a5), some (.int a6), some (.int a7), none]) (ls_e (ls_e (ls_e (ls_e (ls_e (ls_e (ls_e (ls_e (ls_n ls_0))))))))) H
set_option maxHeartbeats 2000000 in
set_option maxRecDepth 4000 in
theorem VX12_tells_95 {l : Launch} {G : Gx} {d : Nat} {Q : Option Value → Hp → Prop} {sh : Sh} {fR : FRt} {B : Nat} {f : FI} {g : FL} {a2 : Int32} {a3 : Int32} {a4 : Int32} {a5 : Int32} {a6 : Int32} {a7 : Int32} (hs : StM sh fR B)
    (H : LpX12_tells_55 l G d Q sh fR B f g a2 a3 a4 a5 a6 (a7 + nI 1)) :
    LpX12_tells_95 l G d Q sh fR B f g a2 a3 a4 a5 a6 a7 := by
  refine S_iinc (pc := 95) (v := nI 1) (L' := [some (.ref B), none, some (.int a2), some (.int a3), some (.int a4), some (.int a5), some (.int a6), some (.int (a7 + nI 1)), none]) dX12_tells_95 rfl ic1 rfl ?_
  refine S_goto (pc := 98) (tgt := 55) dX12_tells_98 rfl ?_
  exact H
abbrev LpX12_ticks_25 (l : Launch) (G : Gx) (d : Nat) (Q : Option Value → Hp → Prop) (sh : Sh) (fR : FRt) (B : Nat) (f : FI) (g : FL) (a1 : Int32) (a2 : Int32) (a3 : Int32) : Prop := WP l G (Zq G 0 0 Q) mX12_ticks (rmd (d + 7) 0 0) 0 0 25 [some (.ref B), some (.int a1), some (.int a2), some (.int a3)] [] (sh, f, g, fR)
set_option maxHeartbeats 2000000 in
set_option maxRecDepth 4000 in
theorem VX12_ticks {l : Launch} {G : Gx} {d : Nat} {Q : Option Value → Hp → Prop} {sh : Sh} {fR : FRt} {B : Nat} {f : FI} {g : FL} {a1 : Int32} (hs : StM sh fR B)
    (H : Cl l G (d + 6) 0 0 mX12_isAhead [.ref B, .int a1, .int (nI 1), .int (nI 100)] (sh, f, g, fR) (qi sh fR fun x3 f1 g2 => ((¬ x3 = 0 → Cl l G (d + 6) 0 0 mX12_keeps [.ref B] (sh, f1, g2, fR) (qv sh fR fun f5 g6 => LpX12_ticks_25 l G d Q sh fR B f5 g6 a1 (nI 0) (nI 0))) ∧ (x3 = 0 → Q (some (.int (-1))) (sh, (up2 f1 (B + 22) 2 ((f1 (B + 22) 2) + (nI 1))), g2, fR))))) :
    Cl l G (d + 7) 0 0 mX12_ticks [.ref B, .int a1] (sh, f, g, fR) Q := by
  refine Cl.of (L0 := [some (.ref B), some (.int a1), none, none]) miX12_ticks rfl rfl ?_
  refine S_aload_n (pc := 0) dX12_ticks_0 rfl rfl ?_
  refine S_iload_n (pc := 1) dX12_ticks_1 rfl rfl ?_
  refine S_iconst (pc := 2) dX12_ticks_2 ic1 ?_
  refine S_bipush (pc := 3) dX12_ticks_3 bp100 ?_
  refine S_callV (As := [.int a1, .int (nI 1), .int (nI 100)]) (mc := 0) (ms := 0) (pc := 5) dX12_ticks_5 miX12_isAhead mvX12_isAhead mlX12_585 rfl (sM_0 hs) rfl rfl rfl (RmOK.of rfl) H ?_
  rintro _ _ ⟨x3, f1, g2, rfl, rfl, H⟩
  show WP _ _ _ _ _ _ _ 8 [some (.ref B), some (.int a1), none, none] [.int x3] (sh, f1, g2, fR)
  refine S_if_ne (pc := 8) (tgt := 17) dX12_ticks_8 rfl (fun hc4 => ?_) (fun hc4 => ?_)
  · replace H := H.1 hc4
    refine S_aload_n (pc := 17) dX12_ticks_17 rfl rfl ?_
    refine S_callV (As := []) (mc := 0) (ms := 0) (pc := 18) dX12_ticks_18 miX12_keeps mvX12_keeps mlX12_607 rfl (sM_0 hs) rfl rfl rfl (RmOK.of rfl) H ?_
    rintro _ _ ⟨f5, g6, rfl, rfl, H⟩
    show WP _ _ _ _ _ _ _ 21 [some (.ref B), some (.int a1), none, none] [] (sh, f5, g6, fR)
    refine S_iconst (pc := 21) dX12_ticks_21 ic0 ?_
    refine S_istore_n (pc := 22) (L' := [some (.ref B), some (.int a1), some (.int (nI 0)), none]) dX12_ticks_22 rfl (by decide) rfl ?_
    refine S_iconst (pc := 23) dX12_ticks_23 ic0 ?_
    refine S_istore_n (pc := 24) (L' := [some (.ref B), some (.int a1), some (.int (nI 0)), some (.int (nI 0))]) dX12_ticks_24 rfl (by decide) rfl ?_
    exact H
  · replace H := H.2 hc4
    refine S_aload_n (pc := 11) dX12_ticks_11 rfl rfl ?_
    refine S_iconst (pc := 12) dX12_ticks_12 ic2 ?_
    refine S_callV (As := [.int (nI 2)]) (mc := 0) (ms := 0) (pc := 13) dX12_ticks_13 miX12_refuses mvX12_refuses mlX12_224 rfl (sM_0 hs) rfl rfl rfl (RmOK.of rfl) (Q := fun r h => WP _ _ _ _ _ _ _ 16 [some (.ref B), some (.int a1), none, none] (r.toList ++ []) h) (Cl.of miX12_refuses rfl rfl ?_) (fun _ _ q => q)
    refine S_aload_n (pc := 0) dX12_refuses_0 rfl rfl ?_
    refine S_getR (pc := 1) dX12_refuses_1 flX12_141 (sM_0 hs) rfl (rM_42 hs) ?_
    refine S_iload_n (pc := 4) dX12_refuses_4 rfl rfl ?_
    refine S_dup2 (pc := 5) dX12_refuses_5 rfl rfl ?_
    refine S_iald (pc := 6) dX12_refuses_6 (sM_22 hs) (vp_in_nI (by decide) (by decide)) ?_
    show WP _ _ _ _ _ _ _ 7 _ (.int (f1 (B + 22) 2) :: _) _
    refine S_iconst (pc := 7) dX12_refuses_7 ic1 ?_
    refine S_iadd (pc := 8) dX12_refuses_8 ?_
    refine S_iast (pc := 9) dX12_refuses_9 (sM_22 hs) (Nat.succ_pos _) (vp_in_nI (by decide) (by decide)) ?_
    show WP _ _ _ _ _ _ _ 10 _ _ (sh, (up2 f1 (B + 22) 2 ((f1 (B + 22) 2) + (nI 1))), g2, fR)
    refine S_iconst (pc := 10) dX12_refuses_10 icm1 ?_
    refine S_ireturn dX12_refuses_11 rfl ?_
    show WP _ _ _ _ _ _ _ 16 [some (.ref B), some (.int a1), none, none] [.int (-1)] (sh, (up2 f1 (B + 22) 2 ((f1 (B + 22) 2) + (nI 1))), g2, fR)
    exact S_ireturn dX12_ticks_16 rfl H
set_option maxHeartbeats 2000000 in
set_option maxRecDepth 4000 in
theorem VX12_ticks_25 {l : Launch} {G : Gx} {d : Nat} {Q : Option Value → Hp → Prop} {sh : Sh} {fR : FRt} {B : Nat} {f : FI} {g : FL} {a1 : Int32} {a2 : Int32} {a3 : Int32} (hs : StM sh fR B)
    (H : ((a1 ≤ a3 → Q (some (.int a2)) (sh, f, g, fR)) ∧ (¬ a1 ≤ a3 → Cl l G (d + 6) 0 0 mX12_ticksOn [.ref B, .int (nI 0)] (sh, f, g, fR) (qv sh fR fun f8 g9 => (∀ w10 : Int32, w10 = a2 + (f8 B 61) → LpX12_ticks_25 l G d Q sh fR B f8 g9 a1 w10 (a3 + nI 1)))))) :
    LpX12_ticks_25 l G d Q sh fR B f g a1 a2 a3 := by
  refine S_iload_n (pc := 25) dX12_ticks_25 rfl rfl ?_
  refine S_iload_n (pc := 26) dX12_ticks_26 rfl rfl ?_
  refine S_icmp_ge (pc := 27) (tgt := 48) dX12_ticks_27 rfl (fun hc7 => ?_) (fun hc7 => ?_)
  · replace H := H.1 hc7
    refine S_iload_n (pc := 48) dX12_ticks_48 rfl rfl ?_
    exact S_ireturn dX12_ticks_49 rfl H
  · replace H := H.2 hc7
    refine S_aload_n (pc := 30) dX12_ticks_30 rfl rfl ?_
    refine S_iconst (pc := 31) dX12_ticks_31 ic0 ?_
    refine S_callV (As := [.int (nI 0)]) (mc := 0) (ms := 0) (pc := 32) dX12_ticks_32 miX12_ticksOn mvX12_ticksOn mlX12_588 rfl (sM_0 hs) rfl rfl rfl (RmOK.of rfl) H ?_
    rintro _ _ ⟨f8, g9, rfl, rfl, H⟩
    show WP _ _ _ _ _ _ _ 35 [some (.ref B), some (.int a1), some (.int a2), some (.int a3)] [] (sh, f8, g9, fR)
    refine S_iload_n (pc := 35) dX12_ticks_35 rfl rfl ?_
    refine S_aload_n (pc := 36) dX12_ticks_36 rfl rfl ?_
    refine S_get (pc := 37) (v := .int (f8 B 61)) dX12_ticks_37 flX12_200 (sM_0 hs) rfl ?_
    refine S_iadd (pc := 40) dX12_ticks_40 ?_
    refine S_namei (fun w10 e11 => ?_)
    replace H := H w10 e11
    refine S_istore_n (pc := 41) (L' := [some (.ref B), some (.int a1), some (.int w10), some (.int a3)]) dX12_ticks_41 rfl (by decide) rfl ?_
    refine S_iinc (pc := 42) (v := nI 1) (L' := [some (.ref B), some (.int a1), some (.int w10), some (.int (a3 + nI 1))]) dX12_ticks_42 rfl ic1 rfl ?_
    refine S_goto (pc := 45) (tgt := 25) dX12_ticks_45 rfl ?_
    exact H
set_option maxHeartbeats 2000000 in
set_option maxRecDepth 4000 in
theorem VX12_draw {l : Launch} {G : Gx} {d : Nat} {Q : Option Value → Hp → Prop} {sh : Sh} {fR : FRt} {B : Nat} {f : FI} {g : FL} {a1 : Int32} (hs : StM sh fR B)
    (H : ¬ a1.toInt64 = 0 ∧ Q (some (.int (((((((lN 1103515245) * (g B 51)) + (lN 12345)) - (((lN 1103515245) * (g B 51)) + (lN 12345)) / (lN 2147483648) * (lN 2147483648)) / (lN 64)) - (((((lN 1103515245) * (g B 51)) + (lN 12345)) - (((lN 1103515245) * (g B 51)) + (lN 12345)) / (lN 2147483648) * (lN 2147483648)) / (lN 64)) / a1.toInt64 * a1.toInt64).toInt32))) (sh, f, (up2 g B 51 ((((lN 1103515245) * (g B 51)) + (lN 12345)) - (((lN 1103515245) * (g B 51)) + (lN 12345)) / (lN 2147483648) * (lN 2147483648))), fR)) :
    Cl l G d 0 0 mX12_draw [.ref B, .int a1] (sh, f, g, fR) Q := by
  refine Cl.of (L0 := [some (.ref B), some (.int a1)]) miX12_draw rfl rfl ?_
  refine S_aload_n (pc := 0) dX12_draw_0 rfl rfl ?_
  refine S_ldc2 (pc := 1) (v := lN 1103515245) dX12_draw_1 (gw 1825 rfl rfl) ?_
  refine S_aload_n (pc := 4) dX12_draw_4 rfl rfl ?_
  refine S_get (pc := 5) (v := .long (g B 51)) dX12_draw_5 flX12_170 (sM_0 hs) rfl ?_
  refine S_lmul (pc := 8) dX12_draw_8 ?_
  refine S_ldc2 (pc := 9) (v := lN 12345) dX12_draw_9 (gw 1826 rfl rfl) ?_
  refine S_ladd (pc := 12) dX12_draw_12 ?_
  refine S_ldc2 (pc := 13) (v := lN 2147483648) dX12_draw_13 (gw 1827 rfl rfl) ?_
  refine S_lrem (pc := 16) dX12_draw_16 (by decide) ?_
  refine S_putL (pc := 17) dX12_draw_17 flX12_170 (sM_0 hs) hs.2.2 (nf_12_51) rfl ?_
  refine S_aload_n (pc := 20) dX12_draw_20 rfl rfl ?_
  refine S_get (pc := 21) (v := .long ((up2 g B 51 ((((lN 1103515245) * (g B 51)) + (lN 12345)) - (((lN 1103515245) * (g B 51)) + (lN 12345)) / (lN 2147483648) * (lN 2147483648))) B 51)) dX12_draw_21 flX12_170 (sM_0 hs) rfl ?_
  refine S_eql (x := (((lN 1103515245) * (g B 51)) + (lN 12345)) - (((lN 1103515245) * (g B 51)) + (lN 12345)) / (lN 2147483648) * (lN 2147483648)) up2_eq ?_
  refine S_ldc2 (pc := 24) (v := lN 64) dX12_draw_24 (gw 1828 rfl rfl) ?_
  refine S_ldiv (pc := 27) dX12_draw_27 (by decide) ?_
  refine S_iload_n (pc := 28) dX12_draw_28 rfl rfl ?_
  refine S_i2l (pc := 29) dX12_draw_29 ?_
  obtain ⟨hc1, H⟩ := H
  refine S_lrem (pc := 30) dX12_draw_30 hc1 ?_
  refine S_l2i (pc := 31) dX12_draw_31 ?_
  exact S_ireturn dX12_draw_32 rfl H
abbrev LpX12_chance_30 (l : Launch) (G : Gx) (d : Nat) (Q : Option Value → Hp → Prop) (sh : Sh) (fR : FRt) (B : Nat) (f : FI) (g : FL) (a1 : Int32) (a2 : Int32) (a3 : Int32) : Prop := WP l G (Zq G 0 0 Q) mX12_chance (rmd (d + 7) 0 0) 0 0 30 [some (.ref B), some (.int a1), some (.int a2), some (.int a3)] [] (sh, f, g, fR)
set_option maxHeartbeats 2000000 in
set_option maxRecDepth 4000 in
theorem VX12_chance {l : Launch} {G : Gx} {d : Nat} {Q : Option Value → Hp → Prop} {sh : Sh} {fR : FRt} {B : Nat} {f : FI} {g : FL} {a1 : Int32} (hs : StM sh fR B)
    (H : Cl l G (d + 6) 0 0 mX12_isAhead [.ref B, .int a1, .int (nI 1), .int (nI 100)] (sh, f, g, fR) (qi sh fR fun x3 f1 g2 => ((¬ x3 = 0 → Cl l G (d + 6) 0 0 mX12_keeps [.ref B] (sh, f1, g2, fR) (qv sh fR fun f5 g6 => LpX12_chance_30 l G d Q sh fR B (up2 f5 B 60 (nI 1)) g6 a1 (nI 0) (nI 0))) ∧ (x3 = 0 → Q (some (.int (-1))) (sh, (up2 f1 (B + 22) 2 ((f1 (B + 22) 2) + (nI 1))), g2, fR))))) :
    Cl l G (d + 7) 0 0 mX12_chance [.ref B, .int a1] (sh, f, g, fR) Q := by
  refine Cl.of (L0 := [some (.ref B), some (.int a1), none, none]) miX12_chance rfl rfl ?_
  refine S_aload_n (pc := 0) dX12_chance_0 rfl rfl ?_
  refine S_iload_n (pc := 1) dX12_chance_1 rfl rfl ?_
  refine S_iconst (pc := 2) dX12_chance_2 ic1 ?_
  refine S_bipush (pc := 3) dX12_chance_3 bp100 ?_
  refine S_callV (As := [.int a1, .int (nI 1), .int (nI 100)]) (mc := 0) (ms := 0) (pc := 5) dX12_chance_5 miX12_isAhead mvX12_isAhead mlX12_585 rfl (sM_0 hs) rfl rfl rfl (RmOK.of rfl) H ?_
  rintro _ _ ⟨x3, f1, g2, rfl, rfl, H⟩
  show WP _ _ _ _ _ _ _ 8 [some (.ref B), some (.int a1), none, none] [.int x3] (sh, f1, g2, fR)
  refine S_if_ne (pc := 8) (tgt := 17) dX12_chance_8 rfl (fun hc4 => ?_) (fun hc4 => ?_)
  · replace H := H.1 hc4
    refine S_aload_n (pc := 17) dX12_chance_17 rfl rfl ?_
    refine S_callV (As := []) (mc := 0) (ms := 0) (pc := 18) dX12_chance_18 miX12_keeps mvX12_keeps mlX12_607 rfl (sM_0 hs) rfl rfl rfl (RmOK.of rfl) H ?_
    rintro _ _ ⟨f5, g6, rfl, rfl, H⟩
    show WP _ _ _ _ _ _ _ 21 [some (.ref B), some (.int a1), none, none] [] (sh, f5, g6, fR)
    refine S_iconst (pc := 21) dX12_chance_21 ic0 ?_
    refine S_istore_n (pc := 22) (L' := [some (.ref B), some (.int a1), some (.int (nI 0)), none]) dX12_chance_22 rfl (by decide) rfl ?_
    refine S_aload_n (pc := 23) dX12_chance_23 rfl rfl ?_
    refine S_iconst (pc := 24) dX12_chance_24 ic1 ?_
    refine S_putI (pc := 25) dX12_chance_25 flX12_197 (sM_0 hs) hs.2.2 (nf_12_60) nb1 rfl (fun _ => rfl) ?_
    refine S_iconst (pc := 28) dX12_chance_28 ic0 ?_
    refine S_istore_n (pc := 29) (L' := [some (.ref B), some (.int a1), some (.int (nI 0)), some (.int (nI 0))]) dX12_chance_29 rfl (by decide) rfl ?_
    exact H
  · replace H := H.2 hc4
    refine S_aload_n (pc := 11) dX12_chance_11 rfl rfl ?_
    refine S_iconst (pc := 12) dX12_chance_12 ic2 ?_
    refine S_callV (As := [.int (nI 2)]) (mc := 0) (ms := 0) (pc := 13) dX12_chance_13 miX12_refuses mvX12_refuses mlX12_224 rfl (sM_0 hs) rfl rfl rfl (RmOK.of rfl) (Q := fun r h => WP _ _ _ _ _ _ _ 16 [some (.ref B), some (.int a1), none, none] (r.toList ++ []) h) (Cl.of miX12_refuses rfl rfl ?_) (fun _ _ q => q)
    refine S_aload_n (pc := 0) dX12_refuses_0 rfl rfl ?_
    refine S_getR (pc := 1) dX12_refuses_1 flX12_141 (sM_0 hs) rfl (rM_42 hs) ?_
    refine S_iload_n (pc := 4) dX12_refuses_4 rfl rfl ?_
    refine S_dup2 (pc := 5) dX12_refuses_5 rfl rfl ?_
    refine S_iald (pc := 6) dX12_refuses_6 (sM_22 hs) (vp_in_nI (by decide) (by decide)) ?_
    show WP _ _ _ _ _ _ _ 7 _ (.int (f1 (B + 22) 2) :: _) _
    refine S_iconst (pc := 7) dX12_refuses_7 ic1 ?_
    refine S_iadd (pc := 8) dX12_refuses_8 ?_
    refine S_iast (pc := 9) dX12_refuses_9 (sM_22 hs) (Nat.succ_pos _) (vp_in_nI (by decide) (by decide)) ?_
    show WP _ _ _ _ _ _ _ 10 _ _ (sh, (up2 f1 (B + 22) 2 ((f1 (B + 22) 2) + (nI 1))), g2, fR)
    refine S_iconst (pc := 10) dX12_refuses_10 icm1 ?_
    refine S_ireturn dX12_refuses_11 rfl ?_
    show WP _ _ _ _ _ _ _ 16 [some (.ref B), some (.int a1), none, none] [.int (-1)] (sh, (up2 f1 (B + 22) 2 ((f1 (B + 22) 2) + (nI 1))), g2, fR)
    exact S_ireturn dX12_chance_16 rfl H
set_option maxHeartbeats 2000000 in
set_option maxRecDepth 4000 in
theorem VX12_chance_30 {l : Launch} {G : Gx} {d : Nat} {Q : Option Value → Hp → Prop} {sh : Sh} {fR : FRt} {B : Nat} {f : FI} {g : FL} {a1 : Int32} {a2 : Int32} {a3 : Int32} (hs : StM sh fR B)
    (H : ((a1 ≤ a3 → Q (some (.int a2)) (sh, (up2 f B 60 (nI 0)), g, fR)) ∧ (¬ a1 ≤ a3 → Cl l G (d + 6) 0 0 mX12_ticksOn [.ref B, .int (nI 0)] (sh, f, g, fR) (qv sh fR fun f8 g9 => (∀ w10 : Int32, w10 = a2 + (f8 B 62) → LpX12_chance_30 l G d Q sh fR B f8 g9 a1 w10 (a3 + nI 1)))))) :
    LpX12_chance_30 l G d Q sh fR B f g a1 a2 a3 := by
  refine S_iload_n (pc := 30) dX12_chance_30 rfl rfl ?_
  refine S_iload_n (pc := 31) dX12_chance_31 rfl rfl ?_
  refine S_icmp_ge (pc := 32) (tgt := 53) dX12_chance_32 rfl (fun hc7 => ?_) (fun hc7 => ?_)
  · replace H := H.1 hc7
    refine S_aload_n (pc := 53) dX12_chance_53 rfl rfl ?_
    refine S_iconst (pc := 54) dX12_chance_54 ic0 ?_
    refine S_putI (pc := 55) dX12_chance_55 flX12_197 (sM_0 hs) hs.2.2 (nf_12_60) nb0 rfl (fun _ => rfl) ?_
    refine S_iload_n (pc := 58) dX12_chance_58 rfl rfl ?_
    exact S_ireturn dX12_chance_59 rfl H
  · replace H := H.2 hc7
    refine S_aload_n (pc := 35) dX12_chance_35 rfl rfl ?_
    refine S_iconst (pc := 36) dX12_chance_36 ic0 ?_
    refine S_callV (As := [.int (nI 0)]) (mc := 0) (ms := 0) (pc := 37) dX12_chance_37 miX12_ticksOn mvX12_ticksOn mlX12_588 rfl (sM_0 hs) rfl rfl rfl (RmOK.of rfl) H ?_
    rintro _ _ ⟨f8, g9, rfl, rfl, H⟩
    show WP _ _ _ _ _ _ _ 40 [some (.ref B), some (.int a1), some (.int a2), some (.int a3)] [] (sh, f8, g9, fR)
    refine S_iload_n (pc := 40) dX12_chance_40 rfl rfl ?_
    refine S_aload_n (pc := 41) dX12_chance_41 rfl rfl ?_
    refine S_get (pc := 42) (v := .int (f8 B 62)) dX12_chance_42 flX12_203 (sM_0 hs) rfl ?_
    refine S_iadd (pc := 45) dX12_chance_45 ?_
    refine S_namei (fun w10 e11 => ?_)
    replace H := H w10 e11
    refine S_istore_n (pc := 46) (L' := [some (.ref B), some (.int a1), some (.int w10), some (.int a3)]) dX12_chance_46 rfl (by decide) rfl ?_
    refine S_iinc (pc := 47) (v := nI 1) (L' := [some (.ref B), some (.int a1), some (.int w10), some (.int (a3 + nI 1))]) dX12_chance_47 rfl ic1 rfl ?_
    refine S_goto (pc := 50) (tgt := 30) dX12_chance_50 rfl ?_
    exact H
set_option maxHeartbeats 2000000 in
set_option maxRecDepth 4000 in
theorem VX12_join {l : Launch} {G : Gx} {d : Nat} {Q : Option Value → Hp → Prop} {sh : Sh} {fR : FRt} {B : Nat} {f : FI} {g : FL} {a1 : Int32} {a2 : Int32} (hs : StM sh fR B)
    (H : Cl l G (d + 2) 0 0 mX12_isPath [.ref B, .int a1] (sh, f, g, fR) (qi sh fR fun x3 f1 g2 => ((x3 = 0 → Q (some (.int (nI 0))) (sh, (up2 f1 (B + 22) 3 ((f1 (B + 22) 3) + (nI 1))), g2, fR)) ∧ (¬ x3 = 0 → inb (((((nI 40) * (nI 0)) + (nI 14)) + ((nI 6) * a1)) + (nI 0)) 880 ∧ (((f1 (B + 23) (((((nI 40) * (nI 0)) + (nI 14)) + ((nI 6) * a1)) + (nI 0)).toNatClampNeg) = (nI 1) → Q (some (.int (nI 0))) (sh, (up2 f1 (B + 22) 3 ((f1 (B + 22) 3) + (nI 1))), g2, fR)) ∧ (¬ (f1 (B + 23) (((((nI 40) * (nI 0)) + (nI 14)) + ((nI 6) * a1)) + (nI 0)).toNatClampNeg) = (nI 1) → inb (((((nI 40) * (nI 0)) + (nI 14)) + ((nI 6) * a1)) + (nI 1)) 880 ∧ (((f1 (B + 23) (((((nI 40) * (nI 0)) + (nI 14)) + ((nI 6) * a1)) + (nI 1)).toNatClampNeg) = (nI 1) → Q (some (.int (nI 0))) (sh, (up2 f1 (B + 22) 3 ((f1 (B + 22) 3) + (nI 1))), g2, fR)) ∧ (¬ (f1 (B + 23) (((((nI 40) * (nI 0)) + (nI 14)) + ((nI 6) * a1)) + (nI 1)).toNatClampNeg) = (nI 1) → Cl l G (d + 2) 0 0 mX12_is [.int a2, .int (nI 0), .int (nI 999)] (sh, f1, g2, fR) (qi sh fR fun x14 f12 g13 => ((¬ x14 = 0 → Cl l G (d + 2) 0 0 mX12_keeps [.ref B] (sh, f12, g13, fR) (qv sh fR fun f16 g17 => Cl l G (d + 2) 0 0 mX12_isJoining [.ref B, .int (nI 0), .int a1, .int a2] (sh, f16, g17, fR) (qi sh fR fun x20 f18 g19 => (x20 = 0 ∨ x20 = 1) ∧ Q (some (.int x20)) (sh, f18, g19, fR)))) ∧ (x14 = 0 → Q (some (.int (nI 0))) (sh, (up2 f12 (B + 22) 3 ((f12 (B + 22) 3) + (nI 1))), g13, fR)))))))))))) :
    Cl l G (d + 3) 0 0 mX12_join [.ref B, .int a1, .int a2] (sh, f, g, fR) Q := by
  refine Cl.of (L0 := [some (.ref B), some (.int a1), some (.int a2)]) miX12_join rfl rfl ?_
  refine S_aload_n (pc := 0) dX12_join_0 rfl rfl ?_
  refine S_iload_n (pc := 1) dX12_join_1 rfl rfl ?_
  refine S_callV (As := [.int a1]) (mc := 0) (ms := 0) (pc := 2) dX12_join_2 miX12_isPath mvX12_isPath mlX12_573 rfl (sM_0 hs) rfl rfl rfl (RmOK.of rfl) H ?_
  rintro _ _ ⟨x3, f1, g2, rfl, rfl, H⟩
  show WP _ _ _ _ _ _ _ 5 [some (.ref B), some (.int a1), some (.int a2)] [.int x3] (sh, f1, g2, fR)
  refine S_if_eq (pc := 5) (tgt := 41) dX12_join_5 rfl (fun hc4 => ?_) (fun hc4 => ?_)
  · replace H := H.1 hc4
    refine S_aload_n (pc := 41) dX12_join_41 rfl rfl ?_
    refine S_iconst (pc := 42) dX12_join_42 ic3 ?_
    refine S_callV (As := [.int (nI 3)]) (mc := 0) (ms := 0) (pc := 43) dX12_join_43 miX12_refuses mvX12_refuses mlX12_224 rfl (sM_0 hs) rfl rfl rfl (RmOK.of rfl) (Q := fun r h => WP _ _ _ _ _ _ _ 46 [some (.ref B), some (.int a1), some (.int a2)] (r.toList ++ []) h) (Cl.of miX12_refuses rfl rfl ?_) (fun _ _ q => q)
    refine S_aload_n (pc := 0) dX12_refuses_0 rfl rfl ?_
    refine S_getR (pc := 1) dX12_refuses_1 flX12_141 (sM_0 hs) rfl (rM_42 hs) ?_
    refine S_iload_n (pc := 4) dX12_refuses_4 rfl rfl ?_
    refine S_dup2 (pc := 5) dX12_refuses_5 rfl rfl ?_
    refine S_iald (pc := 6) dX12_refuses_6 (sM_22 hs) (vp_in_nI (by decide) (by decide)) ?_
    show WP _ _ _ _ _ _ _ 7 _ (.int (f1 (B + 22) 3) :: _) _
    refine S_iconst (pc := 7) dX12_refuses_7 ic1 ?_
    refine S_iadd (pc := 8) dX12_refuses_8 ?_
    refine S_iast (pc := 9) dX12_refuses_9 (sM_22 hs) (Nat.succ_pos _) (vp_in_nI (by decide) (by decide)) ?_
    show WP _ _ _ _ _ _ _ 10 _ _ (sh, (up2 f1 (B + 22) 3 ((f1 (B + 22) 3) + (nI 1))), g2, fR)
    refine S_iconst (pc := 10) dX12_refuses_10 icm1 ?_
    refine S_ireturn dX12_refuses_11 rfl ?_
    show WP _ _ _ _ _ _ _ 46 [some (.ref B), some (.int a1), some (.int a2)] [.int (-1)] (sh, (up2 f1 (B + 22) 3 ((f1 (B + 22) 3) + (nI 1))), g2, fR)
    refine S_if_lt (pc := 46) (tgt := 53) dX12_join_46 rfl (fun _ => ?_) (fun hc5 => by first | exact absurd (by decide) hc5 | exact absurd hc5 (by decide))
    refine S_iconst (pc := 53) dX12_join_53 ic0 ?_
    exact S_zreturn dX12_join_54 rfl (Or.inl rfl) H
  · replace H := H.2 hc4
    refine S_aload_n (pc := 8) dX12_join_8 rfl rfl ?_
    refine S_iconst (pc := 9) dX12_join_9 ic0 ?_
    refine S_iload_n (pc := 10) dX12_join_10 rfl rfl ?_
    refine S_iconst (pc := 11) dX12_join_11 ic0 ?_
    refine S_callV (As := [.int (nI 0), .int a1, .int (nI 0)]) (mc := 0) (ms := 0) (pc := 12) dX12_join_12 miX12_p mvX12_p mlX12_438 rfl (sM_0 hs) rfl rfl rfl (RmOK.of rfl) (Q := fun r h => WP _ _ _ _ _ _ _ 15 [some (.ref B), some (.int a1), some (.int a2)] (r.toList ++ []) h) (Cl.of miX12_p rfl rfl ?_) (fun _ _ q => q)
    refine S_aload_n (pc := 0) dX12_p_0 rfl rfl ?_
    refine S_getR (pc := 1) dX12_p_1 flX12_144 (sM_0 hs) rfl (rM_43 hs) ?_
    refine S_bipush (pc := 4) dX12_p_4 bp40 ?_
    refine S_iload_n (pc := 6) dX12_p_6 rfl rfl ?_
    refine S_imul (pc := 7) dX12_p_7 ?_
    refine S_bipush (pc := 8) dX12_p_8 bp14 ?_
    refine S_iadd (pc := 10) dX12_p_10 ?_
    refine S_bipush (pc := 11) dX12_p_11 bp6 ?_
    refine S_iload_n (pc := 13) dX12_p_13 rfl rfl ?_
    refine S_imul (pc := 14) dX12_p_14 ?_
    refine S_iadd (pc := 15) dX12_p_15 ?_
    refine S_iload_n (pc := 16) dX12_p_16 rfl rfl ?_
    refine S_iadd (pc := 17) dX12_p_17 ?_
    obtain ⟨hb6, H⟩ := H
    refine S_iald (pc := 18) dX12_p_18 (sM_23 hs) hb6 ?_
    refine S_ireturn dX12_p_19 rfl ?_
    show WP _ _ _ _ _ _ _ 15 [some (.ref B), some (.int a1), some (.int a2)] [.int (f1 (B + 23) (((((nI 40) * (nI 0)) + (nI 14)) + ((nI 6) * a1)) + (nI 0)).toNatClampNeg)] (sh, f1, g2, fR)
    refine S_iconst (pc := 15) dX12_join_15 ic1 ?_
    refine S_icmp_eq (pc := 16) (tgt := 41) dX12_join_16 rfl (fun hc7 => ?_) (fun hc7 => ?_)
    · replace H := H.1 hc7
      refine S_aload_n (pc := 41) dX12_join_41 rfl rfl ?_
      refine S_iconst (pc := 42) dX12_join_42 ic3 ?_
      refine S_callV (As := [.int (nI 3)]) (mc := 0) (ms := 0) (pc := 43) dX12_join_43 miX12_refuses mvX12_refuses mlX12_224 rfl (sM_0 hs) rfl rfl rfl (RmOK.of rfl) (Q := fun r h => WP _ _ _ _ _ _ _ 46 [some (.ref B), some (.int a1), some (.int a2)] (r.toList ++ []) h) (Cl.of miX12_refuses rfl rfl ?_) (fun _ _ q => q)
      refine S_aload_n (pc := 0) dX12_refuses_0 rfl rfl ?_
      refine S_getR (pc := 1) dX12_refuses_1 flX12_141 (sM_0 hs) rfl (rM_42 hs) ?_
      refine S_iload_n (pc := 4) dX12_refuses_4 rfl rfl ?_
      refine S_dup2 (pc := 5) dX12_refuses_5 rfl rfl ?_
      refine S_iald (pc := 6) dX12_refuses_6 (sM_22 hs) (vp_in_nI (by decide) (by decide)) ?_
      show WP _ _ _ _ _ _ _ 7 _ (.int (f1 (B + 22) 3) :: _) _
      refine S_iconst (pc := 7) dX12_refuses_7 ic1 ?_
      refine S_iadd (pc := 8) dX12_refuses_8 ?_
      refine S_iast (pc := 9) dX12_refuses_9 (sM_22 hs) (Nat.succ_pos _) (vp_in_nI (by decide) (by decide)) ?_
      show WP _ _ _ _ _ _ _ 10 _ _ (sh, (up2 f1 (B + 22) 3 ((f1 (B + 22) 3) + (nI 1))), g2, fR)
      refine S_iconst (pc := 10) dX12_refuses_10 icm1 ?_
      refine S_ireturn dX12_refuses_11 rfl ?_
      show WP _ _ _ _ _ _ _ 46 [some (.ref B), some (.int a1), some (.int a2)] [.int (-1)] (sh, (up2 f1 (B + 22) 3 ((f1 (B + 22) 3) + (nI 1))), g2, fR)
      refine S_if_lt (pc := 46) (tgt := 53) dX12_join_46 rfl (fun _ => ?_) (fun hc8 => by first | exact absurd (by decide) hc8 | exact absurd hc8 (by decide))
      refine S_iconst (pc := 53) dX12_join_53 ic0 ?_
      exact S_zreturn dX12_join_54 rfl (Or.inl rfl) H
    · replace H := H.2 hc7
      refine S_aload_n (pc := 19) dX12_join_19 rfl rfl ?_
      refine S_iconst (pc := 20) dX12_join_20 ic0 ?_
      refine S_iload_n (pc := 21) dX12_join_21 rfl rfl ?_
      refine S_iconst (pc := 22) dX12_join_22 ic1 ?_
      refine S_callV (As := [.int (nI 0), .int a1, .int (nI 1)]) (mc := 0) (ms := 0) (pc := 23) dX12_join_23 miX12_p mvX12_p mlX12_438 rfl (sM_0 hs) rfl rfl rfl (RmOK.of rfl) (Q := fun r h => WP _ _ _ _ _ _ _ 26 [some (.ref B), some (.int a1), some (.int a2)] (r.toList ++ []) h) (Cl.of miX12_p rfl rfl ?_) (fun _ _ q => q)
      refine S_aload_n (pc := 0) dX12_p_0 rfl rfl ?_
      refine S_getR (pc := 1) dX12_p_1 flX12_144 (sM_0 hs) rfl (rM_43 hs) ?_
      refine S_bipush (pc := 4) dX12_p_4 bp40 ?_
      refine S_iload_n (pc := 6) dX12_p_6 rfl rfl ?_
      refine S_imul (pc := 7) dX12_p_7 ?_
      refine S_bipush (pc := 8) dX12_p_8 bp14 ?_
      refine S_iadd (pc := 10) dX12_p_10 ?_
      refine S_bipush (pc := 11) dX12_p_11 bp6 ?_
      refine S_iload_n (pc := 13) dX12_p_13 rfl rfl ?_
      refine S_imul (pc := 14) dX12_p_14 ?_
      refine S_iadd (pc := 15) dX12_p_15 ?_
      refine S_iload_n (pc := 16) dX12_p_16 rfl rfl ?_
      refine S_iadd (pc := 17) dX12_p_17 ?_
      obtain ⟨hb9, H⟩ := H
      refine S_iald (pc := 18) dX12_p_18 (sM_23 hs) hb9 ?_
      refine S_ireturn dX12_p_19 rfl ?_
      show WP _ _ _ _ _ _ _ 26 [some (.ref B), some (.int a1), some (.int a2)] [.int (f1 (B + 23) (((((nI 40) * (nI 0)) + (nI 14)) + ((nI 6) * a1)) + (nI 1)).toNatClampNeg)] (sh, f1, g2, fR)
      refine S_iconst (pc := 26) dX12_join_26 ic1 ?_
      refine S_icmp_eq (pc := 27) (tgt := 41) dX12_join_27 rfl (fun hc10 => ?_) (fun hc10 => ?_)
      · replace H := H.1 hc10
        refine S_aload_n (pc := 41) dX12_join_41 rfl rfl ?_
        refine S_iconst (pc := 42) dX12_join_42 ic3 ?_
        refine S_callV (As := [.int (nI 3)]) (mc := 0) (ms := 0) (pc := 43) dX12_join_43 miX12_refuses mvX12_refuses mlX12_224 rfl (sM_0 hs) rfl rfl rfl (RmOK.of rfl) (Q := fun r h => WP _ _ _ _ _ _ _ 46 [some (.ref B), some (.int a1), some (.int a2)] (r.toList ++ []) h) (Cl.of miX12_refuses rfl rfl ?_) (fun _ _ q => q)
        refine S_aload_n (pc := 0) dX12_refuses_0 rfl rfl ?_
        refine S_getR (pc := 1) dX12_refuses_1 flX12_141 (sM_0 hs) rfl (rM_42 hs) ?_
        refine S_iload_n (pc := 4) dX12_refuses_4 rfl rfl ?_
        refine S_dup2 (pc := 5) dX12_refuses_5 rfl rfl ?_
        refine S_iald (pc := 6) dX12_refuses_6 (sM_22 hs) (vp_in_nI (by decide) (by decide)) ?_
        show WP _ _ _ _ _ _ _ 7 _ (.int (f1 (B + 22) 3) :: _) _
        refine S_iconst (pc := 7) dX12_refuses_7 ic1 ?_
        refine S_iadd (pc := 8) dX12_refuses_8 ?_
        refine S_iast (pc := 9) dX12_refuses_9 (sM_22 hs) (Nat.succ_pos _) (vp_in_nI (by decide) (by decide)) ?_
        show WP _ _ _ _ _ _ _ 10 _ _ (sh, (up2 f1 (B + 22) 3 ((f1 (B + 22) 3) + (nI 1))), g2, fR)
        refine S_iconst (pc := 10) dX12_refuses_10 icm1 ?_
        refine S_ireturn dX12_refuses_11 rfl ?_
        show WP _ _ _ _ _ _ _ 46 [some (.ref B), some (.int a1), some (.int a2)] [.int (-1)] (sh, (up2 f1 (B + 22) 3 ((f1 (B + 22) 3) + (nI 1))), g2, fR)
        refine S_if_lt (pc := 46) (tgt := 53) dX12_join_46 rfl (fun _ => ?_) (fun hc11 => by first | exact absurd (by decide) hc11 | exact absurd hc11 (by decide))
        refine S_iconst (pc := 53) dX12_join_53 ic0 ?_
        exact S_zreturn dX12_join_54 rfl (Or.inl rfl) H
      · replace H := H.2 hc10
        refine S_iload_n (pc := 30) dX12_join_30 rfl rfl ?_
        refine S_iconst (pc := 31) dX12_join_31 ic0 ?_
        refine S_sipush (pc := 32) dX12_join_32 sp999 ?_
        refine S_callS (As := [.int a2, .int (nI 0), .int (nI 999)]) (mc := 0) (ms := 0) (pc := 35) dX12_join_35 miX12_is mvX12_is mlX12_310 rfl rfl (RmOK.of rfl) H ?_
        rintro _ _ ⟨x14, f12, g13, rfl, rfl, H⟩
        show WP _ _ _ _ _ _ _ 38 [some (.ref B), some (.int a1), some (.int a2)] [.int x14] (sh, f12, g13, fR)
        refine S_if_ne (pc := 38) (tgt := 55) dX12_join_38 rfl (fun hc15 => ?_) (fun hc15 => ?_)
        · replace H := H.1 hc15
          refine S_aload_n (pc := 55) dX12_join_55 rfl rfl ?_
          refine S_callV (As := []) (mc := 0) (ms := 0) (pc := 56) dX12_join_56 miX12_keeps mvX12_keeps mlX12_607 rfl (sM_0 hs) rfl rfl rfl (RmOK.of rfl) H ?_
          rintro _ _ ⟨f16, g17, rfl, rfl, H⟩
          show WP _ _ _ _ _ _ _ 59 [some (.ref B), some (.int a1), some (.int a2)] [] (sh, f16, g17, fR)
          refine S_aload_n (pc := 59) dX12_join_59 rfl rfl ?_
          refine S_iconst (pc := 60) dX12_join_60 ic0 ?_
          refine S_iload_n (pc := 61) dX12_join_61 rfl rfl ?_
          refine S_iload_n (pc := 62) dX12_join_62 rfl rfl ?_
          refine S_callV (As := [.int (nI 0), .int a1, .int a2]) (mc := 0) (ms := 0) (pc := 63) dX12_join_63 miX12_isJoining mvX12_isJoining mlX12_540 rfl (sM_0 hs) rfl rfl rfl (RmOK.of rfl) H ?_
          rintro _ _ ⟨x20, f18, g19, rfl, rfl, H⟩
          show WP _ _ _ _ _ _ _ 66 [some (.ref B), some (.int a1), some (.int a2)] [.int x20] (sh, f18, g19, fR)
          obtain ⟨hc21, H⟩ := H
          exact S_zreturn dX12_join_66 rfl hc21 H
        · replace H := H.2 hc15
          refine S_aload_n (pc := 41) dX12_join_41 rfl rfl ?_
          refine S_iconst (pc := 42) dX12_join_42 ic3 ?_
          refine S_callV (As := [.int (nI 3)]) (mc := 0) (ms := 0) (pc := 43) dX12_join_43 miX12_refuses mvX12_refuses mlX12_224 rfl (sM_0 hs) rfl rfl rfl (RmOK.of rfl) (Q := fun r h => WP _ _ _ _ _ _ _ 46 [some (.ref B), some (.int a1), some (.int a2)] (r.toList ++ []) h) (Cl.of miX12_refuses rfl rfl ?_) (fun _ _ q => q)
          refine S_aload_n (pc := 0) dX12_refuses_0 rfl rfl ?_
          refine S_getR (pc := 1) dX12_refuses_1 flX12_141 (sM_0 hs) rfl (rM_42 hs) ?_
          refine S_iload_n (pc := 4) dX12_refuses_4 rfl rfl ?_
          refine S_dup2 (pc := 5) dX12_refuses_5 rfl rfl ?_
          refine S_iald (pc := 6) dX12_refuses_6 (sM_22 hs) (vp_in_nI (by decide) (by decide)) ?_
          show WP _ _ _ _ _ _ _ 7 _ (.int (f12 (B + 22) 3) :: _) _
          refine S_iconst (pc := 7) dX12_refuses_7 ic1 ?_
          refine S_iadd (pc := 8) dX12_refuses_8 ?_
          refine S_iast (pc := 9) dX12_refuses_9 (sM_22 hs) (Nat.succ_pos _) (vp_in_nI (by decide) (by decide)) ?_
          show WP _ _ _ _ _ _ _ 10 _ _ (sh, (up2 f12 (B + 22) 3 ((f12 (B + 22) 3) + (nI 1))), g13, fR)
          refine S_iconst (pc := 10) dX12_refuses_10 icm1 ?_
          refine S_ireturn dX12_refuses_11 rfl ?_
          show WP _ _ _ _ _ _ _ 46 [some (.ref B), some (.int a1), some (.int a2)] [.int (-1)] (sh, (up2 f12 (B + 22) 3 ((f12 (B + 22) 3) + (nI 1))), g13, fR)
          refine S_if_lt (pc := 46) (tgt := 53) dX12_join_46 rfl (fun _ => ?_) (fun hc22 => by first | exact absurd (by decide) hc22 | exact absurd hc22 (by decide))
          refine S_iconst (pc := 53) dX12_join_53 ic0 ?_
          exact S_zreturn dX12_join_54 rfl (Or.inl rfl) H
set_option maxHeartbeats 2000000 in
set_option maxRecDepth 4000 in
theorem VX12_kill {l : Launch} {G : Gx} {d : Nat} {Q : Option Value → Hp → Prop} {sh : Sh} {fR : FRt} {B : Nat} {f : FI} {g : FL} {a1 : Int32} (hs : StM sh fR B)
    (H : Cl l G (d + 2) 0 0 mX12_isPath [.ref B, .int a1] (sh, f, g, fR) (qi sh fR fun x3 f1 g2 => ((x3 = 0 → Q (some (.int (nI 0))) (sh, (up2 f1 (B + 22) 3 ((f1 (B + 22) 3) + (nI 1))), g2, fR)) ∧ (¬ x3 = 0 → Cl l G (d + 2) 0 0 mX12_isFree [.ref B, .int (nI 0), .int a1] (sh, f1, g2, fR) (qi sh fR fun x8 f6 g7 => ((¬ x8 = 0 → Cl l G (d + 2) 0 0 mX12_keeps [.ref B] (sh, f6, g7, fR) (qv sh fR fun f10 g11 => Cl l G (d + 2) 0 0 mX12_dies [.ref B, .int (nI 0), .int a1] (sh, f10, g11, fR) (qv sh fR fun f12 g13 => Q (some (.int (nI 1))) (sh, f12, g13, fR)))) ∧ (x8 = 0 → Q (some (.int (nI 0))) (sh, (up2 f6 (B + 22) 3 ((f6 (B + 22) 3) + (nI 1))), g7, fR)))))))) :
    Cl l G (d + 3) 0 0 mX12_kill [.ref B, .int a1] (sh, f, g, fR) Q := by
  refine Cl.of (L0 := [some (.ref B), some (.int a1)]) miX12_kill rfl rfl ?_
  refine S_aload_n (pc := 0) dX12_kill_0 rfl rfl ?_
  refine S_iload_n (pc := 1) dX12_kill_1 rfl rfl ?_
  refine S_callV (As := [.int a1]) (mc := 0) (ms := 0) (pc := 2) dX12_kill_2 miX12_isPath mvX12_isPath mlX12_573 rfl (sM_0 hs) rfl rfl rfl (RmOK.of rfl) H ?_
  rintro _ _ ⟨x3, f1, g2, rfl, rfl, H⟩
  show WP _ _ _ _ _ _ _ 5 [some (.ref B), some (.int a1)] [.int x3] (sh, f1, g2, fR)
  refine S_if_eq (pc := 5) (tgt := 17) dX12_kill_5 rfl (fun hc4 => ?_) (fun hc4 => ?_)
  · replace H := H.1 hc4
    refine S_aload_n (pc := 17) dX12_kill_17 rfl rfl ?_
    refine S_iconst (pc := 18) dX12_kill_18 ic3 ?_
    refine S_callV (As := [.int (nI 3)]) (mc := 0) (ms := 0) (pc := 19) dX12_kill_19 miX12_refuses mvX12_refuses mlX12_224 rfl (sM_0 hs) rfl rfl rfl (RmOK.of rfl) (Q := fun r h => WP _ _ _ _ _ _ _ 22 [some (.ref B), some (.int a1)] (r.toList ++ []) h) (Cl.of miX12_refuses rfl rfl ?_) (fun _ _ q => q)
    refine S_aload_n (pc := 0) dX12_refuses_0 rfl rfl ?_
    refine S_getR (pc := 1) dX12_refuses_1 flX12_141 (sM_0 hs) rfl (rM_42 hs) ?_
    refine S_iload_n (pc := 4) dX12_refuses_4 rfl rfl ?_
    refine S_dup2 (pc := 5) dX12_refuses_5 rfl rfl ?_
    refine S_iald (pc := 6) dX12_refuses_6 (sM_22 hs) (vp_in_nI (by decide) (by decide)) ?_
    show WP _ _ _ _ _ _ _ 7 _ (.int (f1 (B + 22) 3) :: _) _
    refine S_iconst (pc := 7) dX12_refuses_7 ic1 ?_
    refine S_iadd (pc := 8) dX12_refuses_8 ?_
    refine S_iast (pc := 9) dX12_refuses_9 (sM_22 hs) (Nat.succ_pos _) (vp_in_nI (by decide) (by decide)) ?_
    show WP _ _ _ _ _ _ _ 10 _ _ (sh, (up2 f1 (B + 22) 3 ((f1 (B + 22) 3) + (nI 1))), g2, fR)
    refine S_iconst (pc := 10) dX12_refuses_10 icm1 ?_
    refine S_ireturn dX12_refuses_11 rfl ?_
    show WP _ _ _ _ _ _ _ 22 [some (.ref B), some (.int a1)] [.int (-1)] (sh, (up2 f1 (B + 22) 3 ((f1 (B + 22) 3) + (nI 1))), g2, fR)
    refine S_if_lt (pc := 22) (tgt := 29) dX12_kill_22 rfl (fun _ => ?_) (fun hc5 => by first | exact absurd (by decide) hc5 | exact absurd hc5 (by decide))
    refine S_iconst (pc := 29) dX12_kill_29 ic0 ?_
    exact S_zreturn dX12_kill_30 rfl (Or.inl rfl) H
  · replace H := H.2 hc4
    refine S_aload_n (pc := 8) dX12_kill_8 rfl rfl ?_
    refine S_iconst (pc := 9) dX12_kill_9 ic0 ?_
    refine S_iload_n (pc := 10) dX12_kill_10 rfl rfl ?_
    refine S_callV (As := [.int (nI 0), .int a1]) (mc := 0) (ms := 0) (pc := 11) dX12_kill_11 miX12_isFree mvX12_isFree mlX12_470 rfl (sM_0 hs) rfl rfl rfl (RmOK.of rfl) H ?_
    rintro _ _ ⟨x8, f6, g7, rfl, rfl, H⟩
    show WP _ _ _ _ _ _ _ 14 [some (.ref B), some (.int a1)] [.int x8] (sh, f6, g7, fR)
    refine S_if_ne (pc := 14) (tgt := 31) dX12_kill_14 rfl (fun hc9 => ?_) (fun hc9 => ?_)
    · replace H := H.1 hc9
      refine S_aload_n (pc := 31) dX12_kill_31 rfl rfl ?_
      refine S_callV (As := []) (mc := 0) (ms := 0) (pc := 32) dX12_kill_32 miX12_keeps mvX12_keeps mlX12_607 rfl (sM_0 hs) rfl rfl rfl (RmOK.of rfl) H ?_
      rintro _ _ ⟨f10, g11, rfl, rfl, H⟩
      show WP _ _ _ _ _ _ _ 35 [some (.ref B), some (.int a1)] [] (sh, f10, g11, fR)
      refine S_aload_n (pc := 35) dX12_kill_35 rfl rfl ?_
      refine S_iconst (pc := 36) dX12_kill_36 ic0 ?_
      refine S_iload_n (pc := 37) dX12_kill_37 rfl rfl ?_
      refine S_callV (As := [.int (nI 0), .int a1]) (mc := 0) (ms := 0) (pc := 38) dX12_kill_38 miX12_dies mvX12_dies mlX12_516 rfl (sM_0 hs) rfl rfl rfl (RmOK.of rfl) H ?_
      rintro _ _ ⟨f12, g13, rfl, rfl, H⟩
      show WP _ _ _ _ _ _ _ 41 [some (.ref B), some (.int a1)] [] (sh, f12, g13, fR)
      refine S_iconst (pc := 41) dX12_kill_41 ic1 ?_
      exact S_zreturn dX12_kill_42 rfl (Or.inr rfl) H
    · replace H := H.2 hc9
      refine S_aload_n (pc := 17) dX12_kill_17 rfl rfl ?_
      refine S_iconst (pc := 18) dX12_kill_18 ic3 ?_
      refine S_callV (As := [.int (nI 3)]) (mc := 0) (ms := 0) (pc := 19) dX12_kill_19 miX12_refuses mvX12_refuses mlX12_224 rfl (sM_0 hs) rfl rfl rfl (RmOK.of rfl) (Q := fun r h => WP _ _ _ _ _ _ _ 22 [some (.ref B), some (.int a1)] (r.toList ++ []) h) (Cl.of miX12_refuses rfl rfl ?_) (fun _ _ q => q)
      refine S_aload_n (pc := 0) dX12_refuses_0 rfl rfl ?_
      refine S_getR (pc := 1) dX12_refuses_1 flX12_141 (sM_0 hs) rfl (rM_42 hs) ?_
      refine S_iload_n (pc := 4) dX12_refuses_4 rfl rfl ?_
      refine S_dup2 (pc := 5) dX12_refuses_5 rfl rfl ?_
      refine S_iald (pc := 6) dX12_refuses_6 (sM_22 hs) (vp_in_nI (by decide) (by decide)) ?_
      show WP _ _ _ _ _ _ _ 7 _ (.int (f6 (B + 22) 3) :: _) _
      refine S_iconst (pc := 7) dX12_refuses_7 ic1 ?_
      refine S_iadd (pc := 8) dX12_refuses_8 ?_
      refine S_iast (pc := 9) dX12_refuses_9 (sM_22 hs) (Nat.succ_pos _) (vp_in_nI (by decide) (by decide)) ?_
      show WP _ _ _ _ _ _ _ 10 _ _ (sh, (up2 f6 (B + 22) 3 ((f6 (B + 22) 3) + (nI 1))), g7, fR)
      refine S_iconst (pc := 10) dX12_refuses_10 icm1 ?_
      refine S_ireturn dX12_refuses_11 rfl ?_
      show WP _ _ _ _ _ _ _ 22 [some (.ref B), some (.int a1)] [.int (-1)] (sh, (up2 f6 (B + 22) 3 ((f6 (B + 22) 3) + (nI 1))), g7, fR)
      refine S_if_lt (pc := 22) (tgt := 29) dX12_kill_22 rfl (fun _ => ?_) (fun hc14 => by first | exact absurd (by decide) hc14 | exact absurd hc14 (by decide))
      refine S_iconst (pc := 29) dX12_kill_29 ic0 ?_
      exact S_zreturn dX12_kill_30 rfl (Or.inl rfl) H
set_option maxHeartbeats 2000000 in
set_option maxRecDepth 4000 in
theorem VX12_spoil {l : Launch} {G : Gx} {d : Nat} {Q : Option Value → Hp → Prop} {sh : Sh} {fR : FRt} {B : Nat} {f : FI} {g : FL} {a1 : Int32} (hs : StM sh fR B)
    (H : Cl l G (d + 2) 0 0 mX12_isPath [.ref B, .int a1] (sh, f, g, fR) (qi sh fR fun x3 f1 g2 => ((x3 = 0 → Q (some (.int (nI 0))) (sh, (up2 f1 (B + 22) 3 ((f1 (B + 22) 3) + (nI 1))), g2, fR)) ∧ (¬ x3 = 0 → Cl l G (d + 2) 0 0 mX12_isFree [.ref B, .int (nI 0), .int a1] (sh, f1, g2, fR) (qi sh fR fun x8 f6 g7 => ((x8 = 0 → Q (some (.int (nI 0))) (sh, (up2 f6 (B + 22) 3 ((f6 (B + 22) 3) + (nI 1))), g7, fR)) ∧ (¬ x8 = 0 → inb (((((nI 40) * (nI 0)) + (nI 14)) + ((nI 6) * a1)) + (nI 5)) 880 ∧ ((¬ (f6 (B + 23) (((((nI 40) * (nI 0)) + (nI 14)) + ((nI 6) * a1)) + (nI 5)).toNatClampNeg) = (nI 1) → Cl l G (d + 2) 0 0 mX12_keeps [.ref B] (sh, f6, g7, fR) (qv sh fR fun f13 g14 => inb (((((nI 40) * (nI 0)) + (nI 14)) + ((nI 6) * a1)) + (nI 5)) 880 ∧ Q (some (.int (nI 1))) (sh, (up2 f13 (B + 23) (((((nI 40) * (nI 0)) + (nI 14)) + ((nI 6) * a1)) + (nI 5)).toNatClampNeg (nI 1)), g14, fR))) ∧ ((f6 (B + 23) (((((nI 40) * (nI 0)) + (nI 14)) + ((nI 6) * a1)) + (nI 5)).toNatClampNeg) = (nI 1) → Q (some (.int (nI 0))) (sh, (up2 f6 (B + 22) 3 ((f6 (B + 22) 3) + (nI 1))), g7, fR)))))))))) :
    Cl l G (d + 3) 0 0 mX12_spoil [.ref B, .int a1] (sh, f, g, fR) Q := by
  refine Cl.of (L0 := [some (.ref B), some (.int a1)]) miX12_spoil rfl rfl ?_
  refine S_aload_n (pc := 0) dX12_spoil_0 rfl rfl ?_
  refine S_iload_n (pc := 1) dX12_spoil_1 rfl rfl ?_
  refine S_callV (As := [.int a1]) (mc := 0) (ms := 0) (pc := 2) dX12_spoil_2 miX12_isPath mvX12_isPath mlX12_573 rfl (sM_0 hs) rfl rfl rfl (RmOK.of rfl) H ?_
  rintro _ _ ⟨x3, f1, g2, rfl, rfl, H⟩
  show WP _ _ _ _ _ _ _ 5 [some (.ref B), some (.int a1)] [.int x3] (sh, f1, g2, fR)
  refine S_if_eq (pc := 5) (tgt := 28) dX12_spoil_5 rfl (fun hc4 => ?_) (fun hc4 => ?_)
  · replace H := H.1 hc4
    refine S_aload_n (pc := 28) dX12_spoil_28 rfl rfl ?_
    refine S_iconst (pc := 29) dX12_spoil_29 ic3 ?_
    refine S_callV (As := [.int (nI 3)]) (mc := 0) (ms := 0) (pc := 30) dX12_spoil_30 miX12_refuses mvX12_refuses mlX12_224 rfl (sM_0 hs) rfl rfl rfl (RmOK.of rfl) (Q := fun r h => WP _ _ _ _ _ _ _ 33 [some (.ref B), some (.int a1)] (r.toList ++ []) h) (Cl.of miX12_refuses rfl rfl ?_) (fun _ _ q => q)
    refine S_aload_n (pc := 0) dX12_refuses_0 rfl rfl ?_
    refine S_getR (pc := 1) dX12_refuses_1 flX12_141 (sM_0 hs) rfl (rM_42 hs) ?_
    refine S_iload_n (pc := 4) dX12_refuses_4 rfl rfl ?_
    refine S_dup2 (pc := 5) dX12_refuses_5 rfl rfl ?_
    refine S_iald (pc := 6) dX12_refuses_6 (sM_22 hs) (vp_in_nI (by decide) (by decide)) ?_
    show WP _ _ _ _ _ _ _ 7 _ (.int (f1 (B + 22) 3) :: _) _
    refine S_iconst (pc := 7) dX12_refuses_7 ic1 ?_
    refine S_iadd (pc := 8) dX12_refuses_8 ?_
    refine S_iast (pc := 9) dX12_refuses_9 (sM_22 hs) (Nat.succ_pos _) (vp_in_nI (by decide) (by decide)) ?_
    show WP _ _ _ _ _ _ _ 10 _ _ (sh, (up2 f1 (B + 22) 3 ((f1 (B + 22) 3) + (nI 1))), g2, fR)
    refine S_iconst (pc := 10) dX12_refuses_10 icm1 ?_
    refine S_ireturn dX12_refuses_11 rfl ?_
    show WP _ _ _ _ _ _ _ 33 [some (.ref B), some (.int a1)] [.int (-1)] (sh, (up2 f1 (B + 22) 3 ((f1 (B + 22) 3) + (nI 1))), g2, fR)
    refine S_if_lt (pc := 33) (tgt := 40) dX12_spoil_33 rfl (fun _ => ?_) (fun hc5 => by first | exact absurd (by decide) hc5 | exact absurd hc5 (by decide))
    refine S_iconst (pc := 40) dX12_spoil_40 ic0 ?_
    exact S_zreturn dX12_spoil_41 rfl (Or.inl rfl) H
  · replace H := H.2 hc4
    refine S_aload_n (pc := 8) dX12_spoil_8 rfl rfl ?_
    refine S_iconst (pc := 9) dX12_spoil_9 ic0 ?_
    refine S_iload_n (pc := 10) dX12_spoil_10 rfl rfl ?_
    refine S_callV (As := [.int (nI 0), .int a1]) (mc := 0) (ms := 0) (pc := 11) dX12_spoil_11 miX12_isFree mvX12_isFree mlX12_470 rfl (sM_0 hs) rfl rfl rfl (RmOK.of rfl) H ?_
    rintro _ _ ⟨x8, f6, g7, rfl, rfl, H⟩
    show WP _ _ _ _ _ _ _ 14 [some (.ref B), some (.int a1)] [.int x8] (sh, f6, g7, fR)
    refine S_if_eq (pc := 14) (tgt := 28) dX12_spoil_14 rfl (fun hc9 => ?_) (fun hc9 => ?_)
    · replace H := H.1 hc9
      refine S_aload_n (pc := 28) dX12_spoil_28 rfl rfl ?_
      refine S_iconst (pc := 29) dX12_spoil_29 ic3 ?_
      refine S_callV (As := [.int (nI 3)]) (mc := 0) (ms := 0) (pc := 30) dX12_spoil_30 miX12_refuses mvX12_refuses mlX12_224 rfl (sM_0 hs) rfl rfl rfl (RmOK.of rfl) (Q := fun r h => WP _ _ _ _ _ _ _ 33 [some (.ref B), some (.int a1)] (r.toList ++ []) h) (Cl.of miX12_refuses rfl rfl ?_) (fun _ _ q => q)
      refine S_aload_n (pc := 0) dX12_refuses_0 rfl rfl ?_
      refine S_getR (pc := 1) dX12_refuses_1 flX12_141 (sM_0 hs) rfl (rM_42 hs) ?_
      refine S_iload_n (pc := 4) dX12_refuses_4 rfl rfl ?_
      refine S_dup2 (pc := 5) dX12_refuses_5 rfl rfl ?_
      refine S_iald (pc := 6) dX12_refuses_6 (sM_22 hs) (vp_in_nI (by decide) (by decide)) ?_
      show WP _ _ _ _ _ _ _ 7 _ (.int (f6 (B + 22) 3) :: _) _
      refine S_iconst (pc := 7) dX12_refuses_7 ic1 ?_
      refine S_iadd (pc := 8) dX12_refuses_8 ?_
      refine S_iast (pc := 9) dX12_refuses_9 (sM_22 hs) (Nat.succ_pos _) (vp_in_nI (by decide) (by decide)) ?_
      show WP _ _ _ _ _ _ _ 10 _ _ (sh, (up2 f6 (B + 22) 3 ((f6 (B + 22) 3) + (nI 1))), g7, fR)
      refine S_iconst (pc := 10) dX12_refuses_10 icm1 ?_
      refine S_ireturn dX12_refuses_11 rfl ?_
      show WP _ _ _ _ _ _ _ 33 [some (.ref B), some (.int a1)] [.int (-1)] (sh, (up2 f6 (B + 22) 3 ((f6 (B + 22) 3) + (nI 1))), g7, fR)
      refine S_if_lt (pc := 33) (tgt := 40) dX12_spoil_33 rfl (fun _ => ?_) (fun hc10 => by first | exact absurd (by decide) hc10 | exact absurd hc10 (by decide))
      refine S_iconst (pc := 40) dX12_spoil_40 ic0 ?_
      exact S_zreturn dX12_spoil_41 rfl (Or.inl rfl) H
    · replace H := H.2 hc9
      refine S_aload_n (pc := 17) dX12_spoil_17 rfl rfl ?_
      refine S_iconst (pc := 18) dX12_spoil_18 ic0 ?_
      refine S_iload_n (pc := 19) dX12_spoil_19 rfl rfl ?_
      refine S_iconst (pc := 20) dX12_spoil_20 ic5 ?_
      refine S_callV (As := [.int (nI 0), .int a1, .int (nI 5)]) (mc := 0) (ms := 0) (pc := 21) dX12_spoil_21 miX12_p mvX12_p mlX12_438 rfl (sM_0 hs) rfl rfl rfl (RmOK.of rfl) (Q := fun r h => WP _ _ _ _ _ _ _ 24 [some (.ref B), some (.int a1)] (r.toList ++ []) h) (Cl.of miX12_p rfl rfl ?_) (fun _ _ q => q)
      refine S_aload_n (pc := 0) dX12_p_0 rfl rfl ?_
      refine S_getR (pc := 1) dX12_p_1 flX12_144 (sM_0 hs) rfl (rM_43 hs) ?_
      refine S_bipush (pc := 4) dX12_p_4 bp40 ?_
      refine S_iload_n (pc := 6) dX12_p_6 rfl rfl ?_
      refine S_imul (pc := 7) dX12_p_7 ?_
      refine S_bipush (pc := 8) dX12_p_8 bp14 ?_
      refine S_iadd (pc := 10) dX12_p_10 ?_
      refine S_bipush (pc := 11) dX12_p_11 bp6 ?_
      refine S_iload_n (pc := 13) dX12_p_13 rfl rfl ?_
      refine S_imul (pc := 14) dX12_p_14 ?_
      refine S_iadd (pc := 15) dX12_p_15 ?_
      refine S_iload_n (pc := 16) dX12_p_16 rfl rfl ?_
      refine S_iadd (pc := 17) dX12_p_17 ?_
      obtain ⟨hb11, H⟩ := H
      refine S_iald (pc := 18) dX12_p_18 (sM_23 hs) hb11 ?_
      refine S_ireturn dX12_p_19 rfl ?_
      show WP _ _ _ _ _ _ _ 24 [some (.ref B), some (.int a1)] [.int (f6 (B + 23) (((((nI 40) * (nI 0)) + (nI 14)) + ((nI 6) * a1)) + (nI 5)).toNatClampNeg)] (sh, f6, g7, fR)
      refine S_iconst (pc := 24) dX12_spoil_24 ic1 ?_
      refine S_icmp_ne (pc := 25) (tgt := 42) dX12_spoil_25 rfl (fun hc12 => ?_) (fun hc12 => ?_)
      · replace H := H.1 hc12
        refine S_aload_n (pc := 42) dX12_spoil_42 rfl rfl ?_
        refine S_callV (As := []) (mc := 0) (ms := 0) (pc := 43) dX12_spoil_43 miX12_keeps mvX12_keeps mlX12_607 rfl (sM_0 hs) rfl rfl rfl (RmOK.of rfl) H ?_
        rintro _ _ ⟨f13, g14, rfl, rfl, H⟩
        show WP _ _ _ _ _ _ _ 46 [some (.ref B), some (.int a1)] [] (sh, f13, g14, fR)
        refine S_aload_n (pc := 46) dX12_spoil_46 rfl rfl ?_
        refine S_iconst (pc := 47) dX12_spoil_47 ic0 ?_
        refine S_iload_n (pc := 48) dX12_spoil_48 rfl rfl ?_
        refine S_iconst (pc := 49) dX12_spoil_49 ic5 ?_
        refine S_iconst (pc := 50) dX12_spoil_50 ic1 ?_
        refine S_callV (As := [.int (nI 0), .int a1, .int (nI 5), .int (nI 1)]) (mc := 0) (ms := 0) (pc := 51) dX12_spoil_51 miX12_setsPath mvX12_setsPath mlX12_412 rfl (sM_0 hs) rfl rfl rfl (RmOK.of rfl) (Q := fun r h => WP _ _ _ _ _ _ _ 54 [some (.ref B), some (.int a1)] (r.toList ++ []) h) (Cl.of miX12_setsPath rfl rfl ?_) (fun _ _ q => q)
        refine S_aload_n (pc := 0) dX12_setsPath_0 rfl rfl ?_
        refine S_getR (pc := 1) dX12_setsPath_1 flX12_144 (sM_0 hs) rfl (rM_43 hs) ?_
        refine S_bipush (pc := 4) dX12_setsPath_4 bp40 ?_
        refine S_iload_n (pc := 6) dX12_setsPath_6 rfl rfl ?_
        refine S_imul (pc := 7) dX12_setsPath_7 ?_
        refine S_bipush (pc := 8) dX12_setsPath_8 bp14 ?_
        refine S_iadd (pc := 10) dX12_setsPath_10 ?_
        refine S_bipush (pc := 11) dX12_setsPath_11 bp6 ?_
        refine S_iload_n (pc := 13) dX12_setsPath_13 rfl rfl ?_
        refine S_imul (pc := 14) dX12_setsPath_14 ?_
        refine S_iadd (pc := 15) dX12_setsPath_15 ?_
        refine S_iload_n (pc := 16) dX12_setsPath_16 rfl rfl ?_
        refine S_iadd (pc := 17) dX12_setsPath_17 ?_
        refine S_iload (pc := 18) dX12_setsPath_18 rfl ?_
        obtain ⟨hb15, H⟩ := H
        refine S_iast (pc := 20) dX12_setsPath_20 (sM_23 hs) (Nat.succ_pos _) hb15 ?_
        refine S_vreturn dX12_setsPath_21 rfl ?_
        show WP _ _ _ _ _ _ _ 54 [some (.ref B), some (.int a1)] [] (sh, (up2 f13 (B + 23) (((((nI 40) * (nI 0)) + (nI 14)) + ((nI 6) * a1)) + (nI 5)).toNatClampNeg (nI 1)), g14, fR)
        refine S_iconst (pc := 54) dX12_spoil_54 ic1 ?_
        exact S_zreturn dX12_spoil_55 rfl (Or.inr rfl) H
      · replace H := H.2 hc12
        refine S_aload_n (pc := 28) dX12_spoil_28 rfl rfl ?_
        refine S_iconst (pc := 29) dX12_spoil_29 ic3 ?_
        refine S_callV (As := [.int (nI 3)]) (mc := 0) (ms := 0) (pc := 30) dX12_spoil_30 miX12_refuses mvX12_refuses mlX12_224 rfl (sM_0 hs) rfl rfl rfl (RmOK.of rfl) (Q := fun r h => WP _ _ _ _ _ _ _ 33 [some (.ref B), some (.int a1)] (r.toList ++ []) h) (Cl.of miX12_refuses rfl rfl ?_) (fun _ _ q => q)
        refine S_aload_n (pc := 0) dX12_refuses_0 rfl rfl ?_
        refine S_getR (pc := 1) dX12_refuses_1 flX12_141 (sM_0 hs) rfl (rM_42 hs) ?_
        refine S_iload_n (pc := 4) dX12_refuses_4 rfl rfl ?_
        refine S_dup2 (pc := 5) dX12_refuses_5 rfl rfl ?_
        refine S_iald (pc := 6) dX12_refuses_6 (sM_22 hs) (vp_in_nI (by decide) (by decide)) ?_
        show WP _ _ _ _ _ _ _ 7 _ (.int (f6 (B + 22) 3) :: _) _
        refine S_iconst (pc := 7) dX12_refuses_7 ic1 ?_
        refine S_iadd (pc := 8) dX12_refuses_8 ?_
        refine S_iast (pc := 9) dX12_refuses_9 (sM_22 hs) (Nat.succ_pos _) (vp_in_nI (by decide) (by decide)) ?_
        show WP _ _ _ _ _ _ _ 10 _ _ (sh, (up2 f6 (B + 22) 3 ((f6 (B + 22) 3) + (nI 1))), g7, fR)
        refine S_iconst (pc := 10) dX12_refuses_10 icm1 ?_
        refine S_ireturn dX12_refuses_11 rfl ?_
        show WP _ _ _ _ _ _ _ 33 [some (.ref B), some (.int a1)] [.int (-1)] (sh, (up2 f6 (B + 22) 3 ((f6 (B + 22) 3) + (nI 1))), g7, fR)
        refine S_if_lt (pc := 33) (tgt := 40) dX12_spoil_33 rfl (fun _ => ?_) (fun hc16 => by first | exact absurd (by decide) hc16 | exact absurd hc16 (by decide))
        refine S_iconst (pc := 40) dX12_spoil_40 ic0 ?_
        exact S_zreturn dX12_spoil_41 rfl (Or.inl rfl) H
set_option maxHeartbeats 2000000 in
set_option maxRecDepth 4000 in
theorem VX12_seed {l : Launch} {G : Gx} {d : Nat} {Q : Option Value → Hp → Prop} {sh : Sh} {fR : FRt} {B : Nat} {f : FI} {g : FL} {a1 : Int32} (hs : StM sh fR B)
    (H : ((0 ≤ a1 → Q (some (.int (nI 1))) (sh, f, (up2 g B 51 a1.toInt64), fR)) ∧ (¬ 0 ≤ a1 → Q (some (.int (nI 0))) (sh, (up2 f (B + 22) 5 ((f (B + 22) 5) + (nI 1))), g, fR)))) :
    Cl l G (d + 1) 0 0 mX12_seed [.ref B, .int a1] (sh, f, g, fR) Q := by
  refine Cl.of (L0 := [some (.ref B), some (.int a1)]) miX12_seed rfl rfl ?_
  refine S_iload_n (pc := 0) dX12_seed_0 rfl rfl ?_
  refine S_if_ge (pc := 1) (tgt := 18) dX12_seed_1 rfl (fun hc1 => ?_) (fun hc1 => ?_)
  · replace H := H.1 hc1
    refine S_aload_n (pc := 18) dX12_seed_18 rfl rfl ?_
    refine S_iload_n (pc := 19) dX12_seed_19 rfl rfl ?_
    refine S_i2l (pc := 20) dX12_seed_20 ?_
    refine S_putL (pc := 21) dX12_seed_21 flX12_170 (sM_0 hs) hs.2.2 (nf_12_51) rfl ?_
    refine S_iconst (pc := 24) dX12_seed_24 ic1 ?_
    exact S_zreturn dX12_seed_25 rfl (Or.inr rfl) H
  · replace H := H.2 hc1
    refine S_aload_n (pc := 4) dX12_seed_4 rfl rfl ?_
    refine S_iconst (pc := 5) dX12_seed_5 ic5 ?_
    refine S_callV (As := [.int (nI 5)]) (mc := 0) (ms := 0) (pc := 6) dX12_seed_6 miX12_refuses mvX12_refuses mlX12_224 rfl (sM_0 hs) rfl rfl rfl (RmOK.of rfl) (Q := fun r h => WP _ _ _ _ _ _ _ 9 [some (.ref B), some (.int a1)] (r.toList ++ []) h) (Cl.of miX12_refuses rfl rfl ?_) (fun _ _ q => q)
    refine S_aload_n (pc := 0) dX12_refuses_0 rfl rfl ?_
    refine S_getR (pc := 1) dX12_refuses_1 flX12_141 (sM_0 hs) rfl (rM_42 hs) ?_
    refine S_iload_n (pc := 4) dX12_refuses_4 rfl rfl ?_
    refine S_dup2 (pc := 5) dX12_refuses_5 rfl rfl ?_
    refine S_iald (pc := 6) dX12_refuses_6 (sM_22 hs) (vp_in_nI (by decide) (by decide)) ?_
    show WP _ _ _ _ _ _ _ 7 _ (.int (f (B + 22) 5) :: _) _
    refine S_iconst (pc := 7) dX12_refuses_7 ic1 ?_
    refine S_iadd (pc := 8) dX12_refuses_8 ?_
    refine S_iast (pc := 9) dX12_refuses_9 (sM_22 hs) (Nat.succ_pos _) (vp_in_nI (by decide) (by decide)) ?_
    show WP _ _ _ _ _ _ _ 10 _ _ (sh, (up2 f (B + 22) 5 ((f (B + 22) 5) + (nI 1))), g, fR)
    refine S_iconst (pc := 10) dX12_refuses_10 icm1 ?_
    refine S_ireturn dX12_refuses_11 rfl ?_
    show WP _ _ _ _ _ _ _ 9 [some (.ref B), some (.int a1)] [.int (-1)] (sh, (up2 f (B + 22) 5 ((f (B + 22) 5) + (nI 1))), g, fR)
    refine S_if_lt (pc := 9) (tgt := 16) dX12_seed_9 rfl (fun _ => ?_) (fun hc2 => by first | exact absurd (by decide) hc2 | exact absurd hc2 (by decide))
    refine S_iconst (pc := 16) dX12_seed_16 ic0 ?_
    exact S_zreturn dX12_seed_17 rfl (Or.inl rfl) H
set_option maxHeartbeats 2000000 in
set_option maxRecDepth 4000 in
theorem VX12_kept {l : Launch} {G : Gx} {d : Nat} {Q : Option Value → Hp → Prop} {sh : Sh} {fR : FRt} {B : Nat} {f : FI} {g : FL} {a1 : Int32} {a2 : Int32} (hs : StM sh fR B)
    (H : inb (((nI 40) * (nI 0)) + (nI 9)) 880 ∧ Cl l G d 0 0 mX12_is [.int a1, .int (nI 0), .int ((f (B + 23) (((nI 40) * (nI 0)) + (nI 9)).toNatClampNeg) - (nI 1))] (sh, f, g, fR) (qi sh fR fun x4 f2 g3 => ((x4 = 0 → Q (some (.int (-1))) (sh, f2, g3, fR)) ∧ (¬ x4 = 0 → Cl l G d 0 0 mX12_is [.int a2, .int (nI 0), .int (nI 2)] (sh, f2, g3, fR) (qi sh fR fun x8 f6 g7 => ((x8 = 0 → Q (some (.int (-1))) (sh, f6, g7, fR)) ∧ (¬ x8 = 0 → inb (((nI 3) * a1) + a2) 2640 ∧ Q (some (.int (f6 (B + 28) (((nI 3) * a1) + a2).toNatClampNeg))) (sh, f6, g7, fR)))))))) :
    Cl l G (d + 1) 0 0 mX12_kept [.ref B, .int a1, .int a2] (sh, f, g, fR) Q := by
  refine Cl.of (L0 := [some (.ref B), some (.int a1), some (.int a2)]) miX12_kept rfl rfl ?_
  refine S_iload_n (pc := 0) dX12_kept_0 rfl rfl ?_
  refine S_iconst (pc := 1) dX12_kept_1 ic0 ?_
  refine S_aload_n (pc := 2) dX12_kept_2 rfl rfl ?_
  refine S_iconst (pc := 3) dX12_kept_3 ic0 ?_
  refine S_bipush (pc := 4) dX12_kept_4 bp9 ?_
  refine S_callV (As := [.int (nI 0), .int (nI 9)]) (mc := 0) (ms := 0) (pc := 6) dX12_kept_6 miX12_n mvX12_n mlX12_402 rfl (sM_0 hs) rfl rfl rfl (RmOK.of rfl) (Q := fun r h => WP _ _ _ _ _ _ _ 9 [some (.ref B), some (.int a1), some (.int a2)] (r.toList ++ [.int (nI 0), .int a1]) h) (Cl.of miX12_n rfl rfl ?_) (fun _ _ q => q)
  refine S_aload_n (pc := 0) dX12_n_0 rfl rfl ?_
  refine S_getR (pc := 1) dX12_n_1 flX12_144 (sM_0 hs) rfl (rM_43 hs) ?_
  refine S_bipush (pc := 4) dX12_n_4 bp40 ?_
  refine S_iload_n (pc := 6) dX12_n_6 rfl rfl ?_
  refine S_imul (pc := 7) dX12_n_7 ?_
  refine S_iload_n (pc := 8) dX12_n_8 rfl rfl ?_
  refine S_iadd (pc := 9) dX12_n_9 ?_
  obtain ⟨hb1, H⟩ := H
  refine S_iald (pc := 10) dX12_n_10 (sM_23 hs) hb1 ?_
  refine S_ireturn dX12_n_11 rfl ?_
  show WP _ _ _ _ _ _ _ 9 [some (.ref B), some (.int a1), some (.int a2)] [.int (f (B + 23) (((nI 40) * (nI 0)) + (nI 9)).toNatClampNeg), .int (nI 0), .int a1] (sh, f, g, fR)
  refine S_iconst (pc := 9) dX12_kept_9 ic1 ?_
  refine S_isub (pc := 10) dX12_kept_10 ?_
  refine S_callS (As := [.int a1, .int (nI 0), .int ((f (B + 23) (((nI 40) * (nI 0)) + (nI 9)).toNatClampNeg) - (nI 1))]) (mc := 0) (ms := 0) (pc := 11) dX12_kept_11 miX12_is mvX12_is mlX12_310 rfl rfl (RmOK.of rfl) H ?_
  rintro _ _ ⟨x4, f2, g3, rfl, rfl, H⟩
  show WP _ _ _ _ _ _ _ 14 [some (.ref B), some (.int a1), some (.int a2)] [.int x4] (sh, f2, g3, fR)
  refine S_if_eq (pc := 14) (tgt := 39) dX12_kept_14 rfl (fun hc5 => ?_) (fun hc5 => ?_)
  · replace H := H.1 hc5
    refine S_iconst (pc := 39) dX12_kept_39 icm1 ?_
    exact S_ireturn dX12_kept_40 rfl H
  · replace H := H.2 hc5
    refine S_iload_n (pc := 17) dX12_kept_17 rfl rfl ?_
    refine S_iconst (pc := 18) dX12_kept_18 ic0 ?_
    refine S_iconst (pc := 19) dX12_kept_19 ic2 ?_
    refine S_callS (As := [.int a2, .int (nI 0), .int (nI 2)]) (mc := 0) (ms := 0) (pc := 20) dX12_kept_20 miX12_is mvX12_is mlX12_310 rfl rfl (RmOK.of rfl) H ?_
    rintro _ _ ⟨x8, f6, g7, rfl, rfl, H⟩
    show WP _ _ _ _ _ _ _ 23 [some (.ref B), some (.int a1), some (.int a2)] [.int x8] (sh, f6, g7, fR)
    refine S_if_eq (pc := 23) (tgt := 39) dX12_kept_23 rfl (fun hc9 => ?_) (fun hc9 => ?_)
    · replace H := H.1 hc9
      refine S_iconst (pc := 39) dX12_kept_39 icm1 ?_
      exact S_ireturn dX12_kept_40 rfl H
    · replace H := H.2 hc9
      refine S_aload_n (pc := 26) dX12_kept_26 rfl rfl ?_
      refine S_getR (pc := 27) dX12_kept_27 flX12_161 (sM_0 hs) rfl (rM_48 hs) ?_
      refine S_iconst (pc := 30) dX12_kept_30 ic3 ?_
      refine S_iload_n (pc := 31) dX12_kept_31 rfl rfl ?_
      refine S_imul (pc := 32) dX12_kept_32 ?_
      refine S_iload_n (pc := 33) dX12_kept_33 rfl rfl ?_
      refine S_iadd (pc := 34) dX12_kept_34 ?_
      obtain ⟨hb10, H⟩ := H
      refine S_iald (pc := 35) dX12_kept_35 (sM_28 hs) hb10 ?_
      refine S_goto (pc := 36) (tgt := 40) dX12_kept_36 rfl ?_
      exact S_ireturn dX12_kept_40 rfl H
