abbrev LpX12_areTaken_12 (l : Launch) (G : Gx) (d : Nat) (Q : Option Value → Hp → Prop) (sh : Sh) (fR : FRt) (B : Nat) (f : FI) (g : FL) (a1 : Int32) (a2 : Int32) (a3 : Int32) (a4 : Int32) (a5 : Int32) : Prop := WP l G (Zq G 0 0 Q) mX12_areTaken (rmd (d + 1) 0 0) 0 0 12 [some (.ref B), some (.int a1), some (.int a2), some (.int a3), some (.int a4), some (.int a5)] [] (sh, f, g, fR)
abbrev LpX12_areTaken_77 (l : Launch) (G : Gx) (d : Nat) (Q : Option Value → Hp → Prop) (sh : Sh) (fR : FRt) (B : Nat) (f : FI) (g : FL) (a1 : Int32) (a2 : Int32) (a3 : Int32) (a4 : Int32) (a5 : Int32) : Prop := WP l G (Zq G 0 0 Q) mX12_areTaken (rmd (d + 1) 0 0) 0 0 77 [some (.ref B), some (.int a1), some (.int a2), some (.int a3), some (.int a4), some (.int a5)] [] (sh, f, g, fR)
set_option maxHeartbeats 2000000 in
set_option maxRecDepth 4000 in
theorem VX12_areTaken {l : Launch} {G : Gx} {d : Nat} {Q : Option Value → Hp → Prop} {sh : Sh} {fR : FRt} {B : Nat} {f : FI} {g : FL} {a1 : Int32} {a2 : Int32} {a3 : Int32} (hs : StM sh fR B)
    (H : inb (((nI 8) * (((nI 480) * a1) + a2)) + (nI 2)) 84480 ∧ (∀ w2 : Int32, w2 = f (B + 24) (((nI 8) * (((nI 480) * a1) + a2)) + (nI 2)).toNatClampNeg → LpX12_areTaken_12 l G d Q sh fR B f g a1 a2 a3 (nI 1) w2)) :
    Cl l G (d + 1) 0 0 mX12_areTaken [.ref B, .int a1, .int a2, .int a3] (sh, f, g, fR) Q := by
  refine Cl.of (L0 := [some (.ref B), some (.int a1), some (.int a2), some (.int a3), none, none]) miX12_areTaken rfl rfl ?_
  refine S_iconst (pc := 0) dX12_areTaken_0 ic1 ?_
  refine S_istore (pc := 1) (L' := [some (.ref B), some (.int a1), some (.int a2), some (.int a3), some (.int (nI 1)), none]) dX12_areTaken_1 (by decide) rfl ?_
  refine S_aload_n (pc := 3) dX12_areTaken_3 rfl rfl ?_
  refine S_iload_n (pc := 4) dX12_areTaken_4 rfl rfl ?_
  refine S_iload_n (pc := 5) dX12_areTaken_5 rfl rfl ?_
  refine S_iconst (pc := 6) dX12_areTaken_6 ic2 ?_
  refine S_callV (As := [.int a1, .int a2, .int (nI 2)]) (mc := 0) (ms := 0) (pc := 7) dX12_areTaken_7 miX12_s mvX12_s mlX12_445 rfl (sM_0 hs) rfl rfl rfl (RmOK.of rfl) (Q := fun r h => WP _ _ _ _ _ _ _ 10 [some (.ref B), some (.int a1), some (.int a2), some (.int a3), some (.int (nI 1)), none] (r.toList ++ []) h) (Cl.of miX12_s rfl rfl ?_) (fun _ _ q => q)
  refine S_aload_n (pc := 0) dX12_s_0 rfl rfl ?_
  refine S_getR (pc := 1) dX12_s_1 flX12_148 (sM_0 hs) rfl (rM_44 hs) ?_
  refine S_bipush (pc := 4) dX12_s_4 bp8 ?_
  refine S_sipush (pc := 6) dX12_s_6 sp480 ?_
  refine S_iload_n (pc := 9) dX12_s_9 rfl rfl ?_
  refine S_imul (pc := 10) dX12_s_10 ?_
  refine S_iload_n (pc := 11) dX12_s_11 rfl rfl ?_
  refine S_iadd (pc := 12) dX12_s_12 ?_
  refine S_imul (pc := 13) dX12_s_13 ?_
  refine S_iload_n (pc := 14) dX12_s_14 rfl rfl ?_
  refine S_iadd (pc := 15) dX12_s_15 ?_
  obtain ⟨hb1, H⟩ := H
  refine S_iald (pc := 16) dX12_s_16 (sM_24 hs) hb1 ?_
  refine S_ireturn dX12_s_17 rfl ?_
  show WP _ _ _ _ _ _ _ 10 [some (.ref B), some (.int a1), some (.int a2), some (.int a3), some (.int (nI 1)), none] [.int (f (B + 24) (((nI 8) * (((nI 480) * a1) + a2)) + (nI 2)).toNatClampNeg)] (sh, f, g, fR)
  refine S_namei (fun w2 e3 => ?_)
  replace H := H w2 e3
  refine S_istore (pc := 10) (L' := [some (.ref B), some (.int a1), some (.int a2), some (.int a3), some (.int (nI 1)), some (.int w2)]) dX12_areTaken_10 (by decide) rfl ?_
  exact H
set_option maxHeartbeats 2000000 in
set_option maxRecDepth 4000 in
theorem VX12_areTaken_12 {l : Launch} {G : Gx} {d : Nat} {Q : Option Value → Hp → Prop} {sh : Sh} {fR : FRt} {B : Nat} {f : FI} {g : FL} {a1 : Int32} {a2 : Int32} {a3 : Int32} {a4 : Int32} {a5 : Int32} (hs : StM sh fR B)
    (H : inb (((nI 8) * (((nI 480) * a1) + a2)) + (nI 2)) 84480 ∧ inb (((nI 8) * (((nI 480) * a1) + a2)) + (nI 3)) 84480 ∧ ((((f (B + 24) (((nI 8) * (((nI 480) * a1) + a2)) + (nI 2)).toNatClampNeg) + (f (B + 24) (((nI 8) * (((nI 480) * a1) + a2)) + (nI 3)).toNatClampNeg)) ≤ a5 → (a4 = 0 ∨ a4 = 1) ∧ Q (some (.int a4)) (sh, f, g, fR)) ∧ (¬ ((f (B + 24) (((nI 8) * (((nI 480) * a1) + a2)) + (nI 2)).toNatClampNeg) + (f (B + 24) (((nI 8) * (((nI 480) * a1) + a2)) + (nI 3)).toNatClampNeg)) ≤ a5 → inb (((nI 200) * a1) + a5) 4400 ∧ ((¬ (f (B + 27) (((nI 200) * a1) + a5).toNatClampNeg) = (nI 1) → (∀ w10 : Int32, w10 = a4 &&& (nI 0) → ((a3 = 0 → LpX12_areTaken_77 l G d Q sh fR B f g a1 a2 a3 w10 a5) ∧ (¬ a3 = 0 → inb (((nI 200) * a1) + a5) 4400 ∧ LpX12_areTaken_77 l G d Q sh fR B (up2 f (B + 27) (((nI 200) * a1) + a5).toNatClampNeg (nI 1)) g a1 a2 a3 w10 a5)))) ∧ ((f (B + 27) (((nI 200) * a1) + a5).toNatClampNeg) = (nI 1) → (∀ w14 : Int32, w14 = a4 &&& (nI 1) → ((a3 = 0 → LpX12_areTaken_77 l G d Q sh fR B f g a1 a2 a3 w14 a5) ∧ (¬ a3 = 0 → inb (((nI 200) * a1) + a5) 4400 ∧ LpX12_areTaken_77 l G d Q sh fR B (up2 f (B + 27) (((nI 200) * a1) + a5).toNatClampNeg (nI 1)) g a1 a2 a3 w14 a5)))))))) :
    LpX12_areTaken_12 l G d Q sh fR B f g a1 a2 a3 a4 a5 := by
  refine S_iload (pc := 12) dX12_areTaken_12 rfl ?_
  refine S_aload_n (pc := 14) dX12_areTaken_14 rfl rfl ?_
  refine S_iload_n (pc := 15) dX12_areTaken_15 rfl rfl ?_
  refine S_iload_n (pc := 16) dX12_areTaken_16 rfl rfl ?_
  refine S_iconst (pc := 17) dX12_areTaken_17 ic2 ?_
  refine S_callV (As := [.int a1, .int a2, .int (nI 2)]) (mc := 0) (ms := 0) (pc := 18) dX12_areTaken_18 miX12_s mvX12_s mlX12_445 rfl (sM_0 hs) rfl rfl rfl (RmOK.of rfl) (Q := fun r h => WP _ _ _ _ _ _ _ 21 [some (.ref B), some (.int a1), some (.int a2), some (.int a3), some (.int a4), some (.int a5)] (r.toList ++ [.int a5]) h) (Cl.of miX12_s rfl rfl ?_) (fun _ _ q => q)
  refine S_aload_n (pc := 0) dX12_s_0 rfl rfl ?_
  refine S_getR (pc := 1) dX12_s_1 flX12_148 (sM_0 hs) rfl (rM_44 hs) ?_
  refine S_bipush (pc := 4) dX12_s_4 bp8 ?_
  refine S_sipush (pc := 6) dX12_s_6 sp480 ?_
  refine S_iload_n (pc := 9) dX12_s_9 rfl rfl ?_
  refine S_imul (pc := 10) dX12_s_10 ?_
  refine S_iload_n (pc := 11) dX12_s_11 rfl rfl ?_
  refine S_iadd (pc := 12) dX12_s_12 ?_
  refine S_imul (pc := 13) dX12_s_13 ?_
  refine S_iload_n (pc := 14) dX12_s_14 rfl rfl ?_
  refine S_iadd (pc := 15) dX12_s_15 ?_
  obtain ⟨hb4, H⟩ := H
  refine S_iald (pc := 16) dX12_s_16 (sM_24 hs) hb4 ?_
  refine S_ireturn dX12_s_17 rfl ?_
  show WP _ _ _ _ _ _ _ 21 [some (.ref B), some (.int a1), some (.int a2), some (.int a3), some (.int a4), some (.int a5)] [.int (f (B + 24) (((nI 8) * (((nI 480) * a1) + a2)) + (nI 2)).toNatClampNeg), .int a5] (sh, f, g, fR)
  refine S_aload_n (pc := 21) dX12_areTaken_21 rfl rfl ?_
  refine S_iload_n (pc := 22) dX12_areTaken_22 rfl rfl ?_
  refine S_iload_n (pc := 23) dX12_areTaken_23 rfl rfl ?_
  refine S_iconst (pc := 24) dX12_areTaken_24 ic3 ?_
  refine S_callV (As := [.int a1, .int a2, .int (nI 3)]) (mc := 0) (ms := 0) (pc := 25) dX12_areTaken_25 miX12_s mvX12_s mlX12_445 rfl (sM_0 hs) rfl rfl rfl (RmOK.of rfl) (Q := fun r h => WP _ _ _ _ _ _ _ 28 [some (.ref B), some (.int a1), some (.int a2), some (.int a3), some (.int a4), some (.int a5)] (r.toList ++ [.int (f (B + 24) (((nI 8) * (((nI 480) * a1) + a2)) + (nI 2)).toNatClampNeg), .int a5]) h) (Cl.of miX12_s rfl rfl ?_) (fun _ _ q => q)
  refine S_aload_n (pc := 0) dX12_s_0 rfl rfl ?_
  refine S_getR (pc := 1) dX12_s_1 flX12_148 (sM_0 hs) rfl (rM_44 hs) ?_
  refine S_bipush (pc := 4) dX12_s_4 bp8 ?_
  refine S_sipush (pc := 6) dX12_s_6 sp480 ?_
  refine S_iload_n (pc := 9) dX12_s_9 rfl rfl ?_
  refine S_imul (pc := 10) dX12_s_10 ?_
  refine S_iload_n (pc := 11) dX12_s_11 rfl rfl ?_
  refine S_iadd (pc := 12) dX12_s_12 ?_
  refine S_imul (pc := 13) dX12_s_13 ?_
  refine S_iload_n (pc := 14) dX12_s_14 rfl rfl ?_
  refine S_iadd (pc := 15) dX12_s_15 ?_
  obtain ⟨hb5, H⟩ := H
  refine S_iald (pc := 16) dX12_s_16 (sM_24 hs) hb5 ?_
  refine S_ireturn dX12_s_17 rfl ?_
  show WP _ _ _ _ _ _ _ 28 [some (.ref B), some (.int a1), some (.int a2), some (.int a3), some (.int a4), some (.int a5)] [.int (f (B + 24) (((nI 8) * (((nI 480) * a1) + a2)) + (nI 3)).toNatClampNeg), .int (f (B + 24) (((nI 8) * (((nI 480) * a1) + a2)) + (nI 2)).toNatClampNeg), .int a5] (sh, f, g, fR)
  refine S_iadd (pc := 28) dX12_areTaken_28 ?_
  refine S_icmp_ge (pc := 29) (tgt := 83) dX12_areTaken_29 rfl (fun hc6 => ?_) (fun hc6 => ?_)
  · replace H := H.1 hc6
    refine S_iload (pc := 83) dX12_areTaken_83 rfl ?_
    obtain ⟨hc7, H⟩ := H
    exact S_zreturn dX12_areTaken_85 rfl hc7 H
  · replace H := H.2 hc6
    refine S_iload (pc := 32) dX12_areTaken_32 rfl ?_
    refine S_aload_n (pc := 34) dX12_areTaken_34 rfl rfl ?_
    refine S_getR (pc := 35) dX12_areTaken_35 flX12_158 (sM_0 hs) rfl (rM_47 hs) ?_
    refine S_sipush (pc := 38) dX12_areTaken_38 sp200 ?_
    refine S_iload_n (pc := 41) dX12_areTaken_41 rfl rfl ?_
    refine S_imul (pc := 42) dX12_areTaken_42 ?_
    refine S_iload (pc := 43) dX12_areTaken_43 rfl ?_
    refine S_iadd (pc := 45) dX12_areTaken_45 ?_
    obtain ⟨hb8, H⟩ := H
    refine S_iald (pc := 46) dX12_areTaken_46 (sM_27 hs) hb8 ?_
    refine S_iconst (pc := 47) dX12_areTaken_47 ic1 ?_
    refine S_icmp_ne (pc := 48) (tgt := 55) dX12_areTaken_48 rfl (fun hc9 => ?_) (fun hc9 => ?_)
    · replace H := H.1 hc9
      refine S_iconst (pc := 55) dX12_areTaken_55 ic0 ?_
      refine S_iand (pc := 56) dX12_areTaken_56 ?_
      refine S_namei (fun w10 e11 => ?_)
      replace H := H w10 e11
      refine S_istore (pc := 57) (L' := [some (.ref B), some (.int a1), some (.int a2), some (.int a3), some (.int w10), some (.int a5)]) dX12_areTaken_57 (by decide) rfl ?_
      refine S_iload_n (pc := 59) dX12_areTaken_59 rfl rfl ?_
      refine S_if_eq (pc := 60) (tgt := 77) dX12_areTaken_60 rfl (fun hc12 => ?_) (fun hc12 => ?_)
      · replace H := H.1 hc12
        exact H
      · replace H := H.2 hc12
        refine S_aload_n (pc := 63) dX12_areTaken_63 rfl rfl ?_
        refine S_getR (pc := 64) dX12_areTaken_64 flX12_158 (sM_0 hs) rfl (rM_47 hs) ?_
        refine S_sipush (pc := 67) dX12_areTaken_67 sp200 ?_
        refine S_iload_n (pc := 70) dX12_areTaken_70 rfl rfl ?_
        refine S_imul (pc := 71) dX12_areTaken_71 ?_
        refine S_iload (pc := 72) dX12_areTaken_72 rfl ?_
        refine S_iadd (pc := 74) dX12_areTaken_74 ?_
        refine S_iconst (pc := 75) dX12_areTaken_75 ic1 ?_
        obtain ⟨hb13, H⟩ := H
        refine S_iast (pc := 76) dX12_areTaken_76 (sM_27 hs) (Nat.succ_pos _) hb13 ?_
        exact H
    · replace H := H.2 hc9
      refine S_iconst (pc := 51) dX12_areTaken_51 ic1 ?_
      refine S_goto (pc := 52) (tgt := 56) dX12_areTaken_52 rfl ?_
      refine S_iand (pc := 56) dX12_areTaken_56 ?_
      refine S_namei (fun w14 e15 => ?_)
      replace H := H w14 e15
      refine S_istore (pc := 57) (L' := [some (.ref B), some (.int a1), some (.int a2), some (.int a3), some (.int w14), some (.int a5)]) dX12_areTaken_57 (by decide) rfl ?_
      refine S_iload_n (pc := 59) dX12_areTaken_59 rfl rfl ?_
      refine S_if_eq (pc := 60) (tgt := 77) dX12_areTaken_60 rfl (fun hc16 => ?_) (fun hc16 => ?_)
      · replace H := H.1 hc16
        exact H
      · replace H := H.2 hc16
        refine S_aload_n (pc := 63) dX12_areTaken_63 rfl rfl ?_
        refine S_getR (pc := 64) dX12_areTaken_64 flX12_158 (sM_0 hs) rfl (rM_47 hs) ?_
        refine S_sipush (pc := 67) dX12_areTaken_67 sp200 ?_
        refine S_iload_n (pc := 70) dX12_areTaken_70 rfl rfl ?_
        refine S_imul (pc := 71) dX12_areTaken_71 ?_
        refine S_iload (pc := 72) dX12_areTaken_72 rfl ?_
        refine S_iadd (pc := 74) dX12_areTaken_74 ?_
        refine S_iconst (pc := 75) dX12_areTaken_75 ic1 ?_
        obtain ⟨hb17, H⟩ := H
        refine S_iast (pc := 76) dX12_areTaken_76 (sM_27 hs) (Nat.succ_pos _) hb17 ?_
        exact H
set_option maxHeartbeats 2000000 in
set_option maxRecDepth 4000 in
theorem VX12_areTaken_77 {l : Launch} {G : Gx} {d : Nat} {Q : Option Value → Hp → Prop} {sh : Sh} {fR : FRt} {B : Nat} {f : FI} {g : FL} {a1 : Int32} {a2 : Int32} {a3 : Int32} {a4 : Int32} {a5 : Int32} (hs : StM sh fR B)
    (H : LpX12_areTaken_12 l G d Q sh fR B f g a1 a2 a3 a4 (a5 + nI 1)) :
    LpX12_areTaken_77 l G d Q sh fR B f g a1 a2 a3 a4 a5 := by
  refine S_iinc (pc := 77) (v := nI 1) (L' := [some (.ref B), some (.int a1), some (.int a2), some (.int a3), some (.int a4), some (.int (a5 + nI 1))]) dX12_areTaken_77 rfl ic1 rfl ?_
  refine S_goto (pc := 80) (tgt := 12) dX12_areTaken_80 rfl ?_
  exact H
abbrev LpX12_arrives_12 (l : Launch) (G : Gx) (d : Nat) (Q : Option Value → Hp → Prop) (sh : Sh) (fR : FRt) (B : Nat) (f : FI) (g : FL) (a1 : Int32) (a2 : Int32) : Prop := WP l G (Zq G 0 0 Q) mX12_arrives (rmd (d + 2) 0 0) 0 0 12 [some (.ref B), some (.int a1), some (.int a2)] [] (sh, f, g, fR)
abbrev LpX12_arrives_182 (l : Launch) (G : Gx) (d : Nat) (Q : Option Value → Hp → Prop) (sh : Sh) (fR : FRt) (B : Nat) (f : FI) (g : FL) (a1 : Int32) (a2 : Int32) : Prop := WP l G (Zq G 0 0 Q) mX12_arrives (rmd (d + 2) 0 0) 0 0 182 [some (.ref B), some (.int a1), some (.int a2)] [] (sh, f, g, fR)
set_option maxHeartbeats 2000000 in
set_option maxRecDepth 4000 in
theorem VX12_arrives {l : Launch} {G : Gx} {d : Nat} {Q : Option Value → Hp → Prop} {sh : Sh} {fR : FRt} {B : Nat} {f : FI} {g : FL} {a1 : Int32} (hs : StM sh fR B)
    (H : LpX12_arrives_12 l G d Q sh fR B (up2 (up2 f B 57 (nI 0)) B 59 (nI 0)) g a1 (nI 0)) :
    Cl l G (d + 2) 0 0 mX12_arrives [.ref B, .int a1] (sh, f, g, fR) Q := by
  refine Cl.of (L0 := [some (.ref B), some (.int a1), none]) miX12_arrives rfl rfl ?_
  refine S_aload_n (pc := 0) dX12_arrives_0 rfl rfl ?_
  refine S_iconst (pc := 1) dX12_arrives_1 ic0 ?_
  refine S_putI (pc := 2) dX12_arrives_2 flX12_188 (sM_0 hs) hs.2.2 (nf_12_57) rfl rfl (fun _ => rfl) ?_
  refine S_aload_n (pc := 5) dX12_arrives_5 rfl rfl ?_
  refine S_iconst (pc := 6) dX12_arrives_6 ic0 ?_
  refine S_putI (pc := 7) dX12_arrives_7 flX12_194 (sM_0 hs) hs.2.2 (nf_12_59) rfl rfl (fun _ => rfl) ?_
  refine S_iconst (pc := 10) dX12_arrives_10 ic0 ?_
  refine S_istore_n (pc := 11) (L' := [some (.ref B), some (.int a1), some (.int (nI 0))]) dX12_arrives_11 rfl (by decide) rfl ?_
  exact H
set_option maxHeartbeats 2000000 in
set_option maxRecDepth 4000 in
theorem VX12_arrives_12 {l : Launch} {G : Gx} {d : Nat} {Q : Option Value → Hp → Prop} {sh : Sh} {fR : FRt} {B : Nat} {f : FI} {g : FL} {a1 : Int32} {a2 : Int32} (hs : StM sh fR B)
    (H : inb (((nI 40) * a1) + (nI 6)) 880 ∧ (((f (B + 23) (((nI 40) * a1) + (nI 6)).toNatClampNeg) ≤ a2 → Q none (sh, f, g, fR)) ∧ (¬ (f (B + 23) (((nI 40) * a1) + (nI 6)).toNatClampNeg) ≤ a2 → inb (((nI 8) * (((nI 480) * a1) + a2)) + (nI 5)) 84480 ∧ inb (((nI 40) * a1) + (nI 0)) 880 ∧ (((f (B + 24) (((nI 8) * (((nI 480) * a1) + a2)) + (nI 5)).toNatClampNeg) = (f (B + 23) (((nI 40) * a1) + (nI 0)).toNatClampNeg) → inb (((nI 8) * (((nI 480) * a1) + a2)) + (nI 5)) 84480 ∧ inb (((nI 8) * (((nI 480) * a1) + a2)) + (nI 7)) 84480 ∧ ((¬ ((up2 f (B + 24) (((nI 8) * (((nI 480) * a1) + a2)) + (nI 5)).toNatClampNeg (-1)) (B + 24) (((nI 8) * (((nI 480) * a1) + a2)) + (nI 7)).toNatClampNeg) = (nI 1) → inb (f B 57) 480 ∧ inb (((nI 8) * (((nI 480) * a1) + a2)) + (nI 2)) 84480 ∧ inb (((nI 8) * (((nI 480) * a1) + a2)) + (nI 3)) 84480 ∧ inb (((nI 40) * a1) + (nI 4)) 880 ∧ (((((up2 f (B + 24) (((nI 8) * (((nI 480) * a1) + a2)) + (nI 5)).toNatClampNeg (-1)) (B + 24) (((nI 8) * (((nI 480) * a1) + a2)) + (nI 2)).toNatClampNeg) + ((up2 f (B + 24) (((nI 8) * (((nI 480) * a1) + a2)) + (nI 5)).toNatClampNeg (-1)) (B + 24) (((nI 8) * (((nI 480) * a1) + a2)) + (nI 3)).toNatClampNeg)) ≤ ((f (B + 23) (((nI 40) * a1) + (nI 4)).toNatClampNeg) + (f B 52)) → Cl l G (d + 1) 0 0 mX12_areTaken [.ref B, .int a1, .int a2, .int (nI 0)] (sh, (up2 (up2 (up2 f (B + 24) (((nI 8) * (((nI 480) * a1) + a2)) + (nI 5)).toNatClampNeg (-1)) (B + 32) (f B 57).toNatClampNeg a2) B 57 ((f B 57) + (nI 1))), g, fR) (qi sh fR fun x16 f14 g15 => ((x16 = 0 → Cl l G (d + 1) 0 0 mX12_areTaken [.ref B, .int a1, .int a2, .int (nI 1)] (sh, f14, g15, fR) (qi sh fR fun x20 f18 g19 => LpX12_arrives_182 l G d Q sh fR B f18 g19 a1 a2)) ∧ (¬ x16 = 0 → inb (((nI 40) * a1) + ((nI 10) + (nI 3))) 880 ∧ inb (((nI 40) * a1) + ((nI 10) + (nI 3))) 880 ∧ LpX12_arrives_182 l G d Q sh fR B (up2 f14 (B + 23) (((nI 40) * a1) + ((nI 10) + (nI 3))).toNatClampNeg ((f14 (B + 23) (((nI 40) * a1) + ((nI 10) + (nI 3))).toNatClampNeg) + (nI 1))) g15 a1 a2)))) ∧ (¬ (((up2 f (B + 24) (((nI 8) * (((nI 480) * a1) + a2)) + (nI 5)).toNatClampNeg (-1)) (B + 24) (((nI 8) * (((nI 480) * a1) + a2)) + (nI 2)).toNatClampNeg) + ((up2 f (B + 24) (((nI 8) * (((nI 480) * a1) + a2)) + (nI 5)).toNatClampNeg (-1)) (B + 24) (((nI 8) * (((nI 480) * a1) + a2)) + (nI 3)).toNatClampNeg)) ≤ ((f (B + 23) (((nI 40) * a1) + (nI 4)).toNatClampNeg) + (f B 52)) → inb (((nI 40) * a1) + ((nI 10) + (nI 2))) 880 ∧ inb (((nI 40) * a1) + ((nI 10) + (nI 2))) 880 ∧ LpX12_arrives_182 l G d Q sh fR B (up2 (up2 (up2 (up2 f (B + 24) (((nI 8) * (((nI 480) * a1) + a2)) + (nI 5)).toNatClampNeg (-1)) (B + 32) (f B 57).toNatClampNeg a2) B 57 ((f B 57) + (nI 1))) (B + 23) (((nI 40) * a1) + ((nI 10) + (nI 2))).toNatClampNeg ((f (B + 23) (((nI 40) * a1) + ((nI 10) + (nI 2))).toNatClampNeg) + (nI 1))) g a1 a2))) ∧ (((up2 f (B + 24) (((nI 8) * (((nI 480) * a1) + a2)) + (nI 5)).toNatClampNeg (-1)) (B + 24) (((nI 8) * (((nI 480) * a1) + a2)) + (nI 7)).toNatClampNeg) = (nI 1) → inb (((nI 40) * a1) + ((nI 10) + (nI 1))) 880 ∧ inb (((nI 40) * a1) + ((nI 10) + (nI 1))) 880 ∧ inb (((nI 8) * (((nI 480) * a1) + a2)) + (nI 0)) 84480 ∧ inb (f B 59) 480 ∧ LpX12_arrives_182 l G d Q sh fR B (up2 (up2 (up2 (up2 f (B + 24) (((nI 8) * (((nI 480) * a1) + a2)) + (nI 5)).toNatClampNeg (-1)) (B + 23) (((nI 40) * a1) + ((nI 10) + (nI 1))).toNatClampNeg ((f (B + 23) (((nI 40) * a1) + ((nI 10) + (nI 1))).toNatClampNeg) + (nI 1))) (B + 33) (f B 59).toNatClampNeg ((up2 f (B + 24) (((nI 8) * (((nI 480) * a1) + a2)) + (nI 5)).toNatClampNeg (-1)) (B + 24) (((nI 8) * (((nI 480) * a1) + a2)) + (nI 0)).toNatClampNeg)) B 59 ((f B 59) + (nI 1))) g a1 a2))) ∧ (¬ (f (B + 24) (((nI 8) * (((nI 480) * a1) + a2)) + (nI 5)).toNatClampNeg) = (f (B + 23) (((nI 40) * a1) + (nI 0)).toNatClampNeg) → LpX12_arrives_182 l G d Q sh fR B f g a1 a2))))) :
    LpX12_arrives_12 l G d Q sh fR B f g a1 a2 := by
  refine S_iload_n (pc := 12) dX12_arrives_12 rfl rfl ?_
  refine S_aload_n (pc := 13) dX12_arrives_13 rfl rfl ?_
  refine S_iload_n (pc := 14) dX12_arrives_14 rfl rfl ?_
  refine S_bipush (pc := 15) dX12_arrives_15 bp6 ?_
  refine S_callV (As := [.int a1, .int (nI 6)]) (mc := 0) (ms := 0) (pc := 17) dX12_arrives_17 miX12_n mvX12_n mlX12_402 rfl (sM_0 hs) rfl rfl rfl (RmOK.of rfl) (Q := fun r h => WP _ _ _ _ _ _ _ 20 [some (.ref B), some (.int a1), some (.int a2)] (r.toList ++ [.int a2]) h) (Cl.of miX12_n rfl rfl ?_) (fun _ _ q => q)
  refine S_aload_n (pc := 0) dX12_n_0 rfl rfl ?_
  refine S_getR (pc := 1) dX12_n_1 flX12_144 (sM_0 hs) rfl (rM_43 hs) ?_
  refine S_bipush (pc := 4) dX12_n_4 bp40 ?_
  refine S_iload_n (pc := 6) dX12_n_6 rfl rfl ?_
  refine S_imul (pc := 7) dX12_n_7 ?_
  refine S_iload_n (pc := 8) dX12_n_8 rfl rfl ?_
  refine S_iadd (pc := 9) dX12_n_9 ?_
  obtain ⟨hb1, H⟩ := H
  refine S_iald (pc := 10) dX12_n_10 (sM_23 hs) hb1 ?_
  refine S_ireturn dX12_n_11 rfl ?_
  show WP _ _ _ _ _ _ _ 20 [some (.ref B), some (.int a1), some (.int a2)] [.int (f (B + 23) (((nI 40) * a1) + (nI 6)).toNatClampNeg), .int a2] (sh, f, g, fR)
  refine S_icmp_ge (pc := 20) (tgt := 188) dX12_arrives_20 rfl (fun hc2 => ?_) (fun hc2 => ?_)
  · replace H := H.1 hc2
    exact S_vreturn dX12_arrives_188 rfl H
  · replace H := H.2 hc2
    refine S_aload_n (pc := 23) dX12_arrives_23 rfl rfl ?_
    refine S_iload_n (pc := 24) dX12_arrives_24 rfl rfl ?_
    refine S_iload_n (pc := 25) dX12_arrives_25 rfl rfl ?_
    refine S_iconst (pc := 26) dX12_arrives_26 ic5 ?_
    refine S_callV (As := [.int a1, .int a2, .int (nI 5)]) (mc := 0) (ms := 0) (pc := 27) dX12_arrives_27 miX12_s mvX12_s mlX12_445 rfl (sM_0 hs) rfl rfl rfl (RmOK.of rfl) (Q := fun r h => WP _ _ _ _ _ _ _ 30 [some (.ref B), some (.int a1), some (.int a2)] (r.toList ++ []) h) (Cl.of miX12_s rfl rfl ?_) (fun _ _ q => q)
    refine S_aload_n (pc := 0) dX12_s_0 rfl rfl ?_
    refine S_getR (pc := 1) dX12_s_1 flX12_148 (sM_0 hs) rfl (rM_44 hs) ?_
    refine S_bipush (pc := 4) dX12_s_4 bp8 ?_
    refine S_sipush (pc := 6) dX12_s_6 sp480 ?_
    refine S_iload_n (pc := 9) dX12_s_9 rfl rfl ?_
    refine S_imul (pc := 10) dX12_s_10 ?_
    refine S_iload_n (pc := 11) dX12_s_11 rfl rfl ?_
    refine S_iadd (pc := 12) dX12_s_12 ?_
    refine S_imul (pc := 13) dX12_s_13 ?_
    refine S_iload_n (pc := 14) dX12_s_14 rfl rfl ?_
    refine S_iadd (pc := 15) dX12_s_15 ?_
    obtain ⟨hb3, H⟩ := H
    refine S_iald (pc := 16) dX12_s_16 (sM_24 hs) hb3 ?_
    refine S_ireturn dX12_s_17 rfl ?_
    show WP _ _ _ _ _ _ _ 30 [some (.ref B), some (.int a1), some (.int a2)] [.int (f (B + 24) (((nI 8) * (((nI 480) * a1) + a2)) + (nI 5)).toNatClampNeg)] (sh, f, g, fR)
    refine S_aload_n (pc := 30) dX12_arrives_30 rfl rfl ?_
    refine S_iload_n (pc := 31) dX12_arrives_31 rfl rfl ?_
    refine S_iconst (pc := 32) dX12_arrives_32 ic0 ?_
    refine S_callV (As := [.int a1, .int (nI 0)]) (mc := 0) (ms := 0) (pc := 33) dX12_arrives_33 miX12_n mvX12_n mlX12_402 rfl (sM_0 hs) rfl rfl rfl (RmOK.of rfl) (Q := fun r h => WP _ _ _ _ _ _ _ 36 [some (.ref B), some (.int a1), some (.int a2)] (r.toList ++ [.int (f (B + 24) (((nI 8) * (((nI 480) * a1) + a2)) + (nI 5)).toNatClampNeg)]) h) (Cl.of miX12_n rfl rfl ?_) (fun _ _ q => q)
    refine S_aload_n (pc := 0) dX12_n_0 rfl rfl ?_
    refine S_getR (pc := 1) dX12_n_1 flX12_144 (sM_0 hs) rfl (rM_43 hs) ?_
    refine S_bipush (pc := 4) dX12_n_4 bp40 ?_
    refine S_iload_n (pc := 6) dX12_n_6 rfl rfl ?_
    refine S_imul (pc := 7) dX12_n_7 ?_
    refine S_iload_n (pc := 8) dX12_n_8 rfl rfl ?_
    refine S_iadd (pc := 9) dX12_n_9 ?_
    obtain ⟨hb4, H⟩ := H
    refine S_iald (pc := 10) dX12_n_10 (sM_23 hs) hb4 ?_
    refine S_ireturn dX12_n_11 rfl ?_
    show WP _ _ _ _ _ _ _ 36 [some (.ref B), some (.int a1), some (.int a2)] [.int (f (B + 23) (((nI 40) * a1) + (nI 0)).toNatClampNeg), .int (f (B + 24) (((nI 8) * (((nI 480) * a1) + a2)) + (nI 5)).toNatClampNeg)] (sh, f, g, fR)
    refine S_icmp_eq (pc := 36) (tgt := 42) dX12_arrives_36 rfl (fun hc5 => ?_) (fun hc5 => ?_)
    · replace H := H.1 hc5
      refine S_aload_n (pc := 42) dX12_arrives_42 rfl rfl ?_
      refine S_iload_n (pc := 43) dX12_arrives_43 rfl rfl ?_
      refine S_iload_n (pc := 44) dX12_arrives_44 rfl rfl ?_
      refine S_iconst (pc := 45) dX12_arrives_45 ic5 ?_
      refine S_iconst (pc := 46) dX12_arrives_46 icm1 ?_
      refine S_callV (As := [.int a1, .int a2, .int (nI 5), .int (-1)]) (mc := 0) (ms := 0) (pc := 47) dX12_arrives_47 miX12_setsSegment mvX12_setsSegment mlX12_482 rfl (sM_0 hs) rfl rfl rfl (RmOK.of rfl) (Q := fun r h => WP _ _ _ _ _ _ _ 50 [some (.ref B), some (.int a1), some (.int a2)] (r.toList ++ []) h) (Cl.of miX12_setsSegment rfl rfl ?_) (fun _ _ q => q)
      refine S_aload_n (pc := 0) dX12_setsSegment_0 rfl rfl ?_
      refine S_getR (pc := 1) dX12_setsSegment_1 flX12_148 (sM_0 hs) rfl (rM_44 hs) ?_
      refine S_bipush (pc := 4) dX12_setsSegment_4 bp8 ?_
      refine S_sipush (pc := 6) dX12_setsSegment_6 sp480 ?_
      refine S_iload_n (pc := 9) dX12_setsSegment_9 rfl rfl ?_
      refine S_imul (pc := 10) dX12_setsSegment_10 ?_
      refine S_iload_n (pc := 11) dX12_setsSegment_11 rfl rfl ?_
      refine S_iadd (pc := 12) dX12_setsSegment_12 ?_
      refine S_imul (pc := 13) dX12_setsSegment_13 ?_
      refine S_iload_n (pc := 14) dX12_setsSegment_14 rfl rfl ?_
      refine S_iadd (pc := 15) dX12_setsSegment_15 ?_
      refine S_iload (pc := 16) dX12_setsSegment_16 rfl ?_
      obtain ⟨hb6, H⟩ := H
      refine S_iast (pc := 18) dX12_setsSegment_18 (sM_24 hs) (Nat.succ_pos _) hb6 ?_
      refine S_vreturn dX12_setsSegment_19 rfl ?_
      show WP _ _ _ _ _ _ _ 50 [some (.ref B), some (.int a1), some (.int a2)] [] (sh, (up2 f (B + 24) (((nI 8) * (((nI 480) * a1) + a2)) + (nI 5)).toNatClampNeg (-1)), g, fR)
      refine S_aload_n (pc := 50) dX12_arrives_50 rfl rfl ?_
      refine S_iload_n (pc := 51) dX12_arrives_51 rfl rfl ?_
      refine S_iload_n (pc := 52) dX12_arrives_52 rfl rfl ?_
      refine S_bipush (pc := 53) dX12_arrives_53 bp7 ?_
      refine S_callV (As := [.int a1, .int a2, .int (nI 7)]) (mc := 0) (ms := 0) (pc := 55) dX12_arrives_55 miX12_s mvX12_s mlX12_445 rfl (sM_0 hs) rfl rfl rfl (RmOK.of rfl) (Q := fun r h => WP _ _ _ _ _ _ _ 58 [some (.ref B), some (.int a1), some (.int a2)] (r.toList ++ []) h) (Cl.of miX12_s rfl rfl ?_) (fun _ _ q => q)
      refine S_aload_n (pc := 0) dX12_s_0 rfl rfl ?_
      refine S_getR (pc := 1) dX12_s_1 flX12_148 (sM_0 hs) rfl (rM_44 hs) ?_
      refine S_bipush (pc := 4) dX12_s_4 bp8 ?_
      refine S_sipush (pc := 6) dX12_s_6 sp480 ?_
      refine S_iload_n (pc := 9) dX12_s_9 rfl rfl ?_
      refine S_imul (pc := 10) dX12_s_10 ?_
      refine S_iload_n (pc := 11) dX12_s_11 rfl rfl ?_
      refine S_iadd (pc := 12) dX12_s_12 ?_
      refine S_imul (pc := 13) dX12_s_13 ?_
      refine S_iload_n (pc := 14) dX12_s_14 rfl rfl ?_
      refine S_iadd (pc := 15) dX12_s_15 ?_
      obtain ⟨hb7, H⟩ := H
      refine S_iald (pc := 16) dX12_s_16 (sM_24 hs) hb7 ?_
      refine S_ireturn dX12_s_17 rfl ?_
      show WP _ _ _ _ _ _ _ 58 [some (.ref B), some (.int a1), some (.int a2)] [.int ((up2 f (B + 24) (((nI 8) * (((nI 480) * a1) + a2)) + (nI 5)).toNatClampNeg (-1)) (B + 24) (((nI 8) * (((nI 480) * a1) + a2)) + (nI 7)).toNatClampNeg)] (sh, (up2 f (B + 24) (((nI 8) * (((nI 480) * a1) + a2)) + (nI 5)).toNatClampNeg (-1)), g, fR)
      refine S_iconst (pc := 58) dX12_arrives_58 ic1 ?_
      refine S_icmp_ne (pc := 59) (tgt := 97) dX12_arrives_59 rfl (fun hc8 => ?_) (fun hc8 => ?_)
      · replace H := H.1 hc8
        refine S_aload_n (pc := 97) dX12_arrives_97 rfl rfl ?_
        refine S_getR (pc := 98) dX12_arrives_98 flX12_185 (sM_0 hs) rfl (rM_56 hs) ?_
        refine S_aload_n (pc := 101) dX12_arrives_101 rfl rfl ?_
        refine S_get (pc := 102) (v := .int ((up2 f (B + 24) (((nI 8) * (((nI 480) * a1) + a2)) + (nI 5)).toNatClampNeg (-1)) B 57)) dX12_arrives_102 flX12_188 (sM_0 hs) rfl ?_
        refine S_eqi (x := f B 57) ((up2_r (by omega)).trans rfl) ?_
        refine S_iload_n (pc := 105) dX12_arrives_105 rfl rfl ?_
        obtain ⟨hb9, H⟩ := H
        refine S_iast (pc := 106) dX12_arrives_106 (sM_32 hs) (Nat.succ_pos _) hb9 ?_
        refine S_aload_n (pc := 107) dX12_arrives_107 rfl rfl ?_
        refine S_dup (pc := 108) dX12_arrives_108 rfl ?_
        refine S_get (pc := 109) (v := .int ((up2 (up2 f (B + 24) (((nI 8) * (((nI 480) * a1) + a2)) + (nI 5)).toNatClampNeg (-1)) (B + 32) (f B 57).toNatClampNeg a2) B 57)) dX12_arrives_109 flX12_188 (sM_0 hs) rfl ?_
        refine S_eqi (x := f B 57) ((up2_r (by omega)).trans ((up2_r (by omega)).trans rfl)) ?_
        refine S_iconst (pc := 112) dX12_arrives_112 ic1 ?_
        refine S_iadd (pc := 113) dX12_arrives_113 ?_
        refine S_putI (pc := 114) dX12_arrives_114 flX12_188 (sM_0 hs) hs.2.2 (nf_12_57) rfl rfl (fun _ => rfl) ?_
        refine S_aload_n (pc := 117) dX12_arrives_117 rfl rfl ?_
        refine S_iload_n (pc := 118) dX12_arrives_118 rfl rfl ?_
        refine S_iload_n (pc := 119) dX12_arrives_119 rfl rfl ?_
        refine S_iconst (pc := 120) dX12_arrives_120 ic2 ?_
        refine S_callV (As := [.int a1, .int a2, .int (nI 2)]) (mc := 0) (ms := 0) (pc := 121) dX12_arrives_121 miX12_s mvX12_s mlX12_445 rfl (sM_0 hs) rfl rfl rfl (RmOK.of rfl) (Q := fun r h => WP _ _ _ _ _ _ _ 124 [some (.ref B), some (.int a1), some (.int a2)] (r.toList ++ []) h) (Cl.of miX12_s rfl rfl ?_) (fun _ _ q => q)
        refine S_aload_n (pc := 0) dX12_s_0 rfl rfl ?_
        refine S_getR (pc := 1) dX12_s_1 flX12_148 (sM_0 hs) rfl (rM_44 hs) ?_
        refine S_bipush (pc := 4) dX12_s_4 bp8 ?_
        refine S_sipush (pc := 6) dX12_s_6 sp480 ?_
        refine S_iload_n (pc := 9) dX12_s_9 rfl rfl ?_
        refine S_imul (pc := 10) dX12_s_10 ?_
        refine S_iload_n (pc := 11) dX12_s_11 rfl rfl ?_
        refine S_iadd (pc := 12) dX12_s_12 ?_
        refine S_imul (pc := 13) dX12_s_13 ?_
        refine S_iload_n (pc := 14) dX12_s_14 rfl rfl ?_
        refine S_iadd (pc := 15) dX12_s_15 ?_
        obtain ⟨hb10, H⟩ := H
        refine S_iald (pc := 16) dX12_s_16 (sM_24 hs) hb10 ?_
        refine S_eqi (x := (up2 f (B + 24) (((nI 8) * (((nI 480) * a1) + a2)) + (nI 5)).toNatClampNeg (-1)) (B + 24) (((nI 8) * (((nI 480) * a1) + a2)) + (nI 2)).toNatClampNeg) ((up2_r (by omega)).trans ((up2_r (by omega)).trans rfl)) ?_
        refine S_ireturn dX12_s_17 rfl ?_
        show WP _ _ _ _ _ _ _ 124 [some (.ref B), some (.int a1), some (.int a2)] [.int ((up2 f (B + 24) (((nI 8) * (((nI 480) * a1) + a2)) + (nI 5)).toNatClampNeg (-1)) (B + 24) (((nI 8) * (((nI 480) * a1) + a2)) + (nI 2)).toNatClampNeg)] (sh, (up2 (up2 (up2 f (B + 24) (((nI 8) * (((nI 480) * a1) + a2)) + (nI 5)).toNatClampNeg (-1)) (B + 32) (f B 57).toNatClampNeg a2) B 57 ((f B 57) + (nI 1))), g, fR)
        refine S_aload_n (pc := 124) dX12_arrives_124 rfl rfl ?_
        refine S_iload_n (pc := 125) dX12_arrives_125 rfl rfl ?_
        refine S_iload_n (pc := 126) dX12_arrives_126 rfl rfl ?_
        refine S_iconst (pc := 127) dX12_arrives_127 ic3 ?_
        refine S_callV (As := [.int a1, .int a2, .int (nI 3)]) (mc := 0) (ms := 0) (pc := 128) dX12_arrives_128 miX12_s mvX12_s mlX12_445 rfl (sM_0 hs) rfl rfl rfl (RmOK.of rfl) (Q := fun r h => WP _ _ _ _ _ _ _ 131 [some (.ref B), some (.int a1), some (.int a2)] (r.toList ++ [.int ((up2 f (B + 24) (((nI 8) * (((nI 480) * a1) + a2)) + (nI 5)).toNatClampNeg (-1)) (B + 24) (((nI 8) * (((nI 480) * a1) + a2)) + (nI 2)).toNatClampNeg)]) h) (Cl.of miX12_s rfl rfl ?_) (fun _ _ q => q)
        refine S_aload_n (pc := 0) dX12_s_0 rfl rfl ?_
        refine S_getR (pc := 1) dX12_s_1 flX12_148 (sM_0 hs) rfl (rM_44 hs) ?_
        refine S_bipush (pc := 4) dX12_s_4 bp8 ?_
        refine S_sipush (pc := 6) dX12_s_6 sp480 ?_
        refine S_iload_n (pc := 9) dX12_s_9 rfl rfl ?_
        refine S_imul (pc := 10) dX12_s_10 ?_
        refine S_iload_n (pc := 11) dX12_s_11 rfl rfl ?_
        refine S_iadd (pc := 12) dX12_s_12 ?_
        refine S_imul (pc := 13) dX12_s_13 ?_
        refine S_iload_n (pc := 14) dX12_s_14 rfl rfl ?_
        refine S_iadd (pc := 15) dX12_s_15 ?_
        obtain ⟨hb11, H⟩ := H
        refine S_iald (pc := 16) dX12_s_16 (sM_24 hs) hb11 ?_
        refine S_eqi (x := (up2 f (B + 24) (((nI 8) * (((nI 480) * a1) + a2)) + (nI 5)).toNatClampNeg (-1)) (B + 24) (((nI 8) * (((nI 480) * a1) + a2)) + (nI 3)).toNatClampNeg) ((up2_r (by omega)).trans ((up2_r (by omega)).trans rfl)) ?_
        refine S_ireturn dX12_s_17 rfl ?_
        show WP _ _ _ _ _ _ _ 131 [some (.ref B), some (.int a1), some (.int a2)] [.int ((up2 f (B + 24) (((nI 8) * (((nI 480) * a1) + a2)) + (nI 5)).toNatClampNeg (-1)) (B + 24) (((nI 8) * (((nI 480) * a1) + a2)) + (nI 3)).toNatClampNeg), .int ((up2 f (B + 24) (((nI 8) * (((nI 480) * a1) + a2)) + (nI 5)).toNatClampNeg (-1)) (B + 24) (((nI 8) * (((nI 480) * a1) + a2)) + (nI 2)).toNatClampNeg)] (sh, (up2 (up2 (up2 f (B + 24) (((nI 8) * (((nI 480) * a1) + a2)) + (nI 5)).toNatClampNeg (-1)) (B + 32) (f B 57).toNatClampNeg a2) B 57 ((f B 57) + (nI 1))), g, fR)
        refine S_iadd (pc := 131) dX12_arrives_131 ?_
        refine S_aload_n (pc := 132) dX12_arrives_132 rfl rfl ?_
        refine S_iload_n (pc := 133) dX12_arrives_133 rfl rfl ?_
        refine S_iconst (pc := 134) dX12_arrives_134 ic4 ?_
        refine S_callV (As := [.int a1, .int (nI 4)]) (mc := 0) (ms := 0) (pc := 135) dX12_arrives_135 miX12_n mvX12_n mlX12_402 rfl (sM_0 hs) rfl rfl rfl (RmOK.of rfl) (Q := fun r h => WP _ _ _ _ _ _ _ 138 [some (.ref B), some (.int a1), some (.int a2)] (r.toList ++ [.int (((up2 f (B + 24) (((nI 8) * (((nI 480) * a1) + a2)) + (nI 5)).toNatClampNeg (-1)) (B + 24) (((nI 8) * (((nI 480) * a1) + a2)) + (nI 2)).toNatClampNeg) + ((up2 f (B + 24) (((nI 8) * (((nI 480) * a1) + a2)) + (nI 5)).toNatClampNeg (-1)) (B + 24) (((nI 8) * (((nI 480) * a1) + a2)) + (nI 3)).toNatClampNeg))]) h) (Cl.of miX12_n rfl rfl ?_) (fun _ _ q => q)
        refine S_aload_n (pc := 0) dX12_n_0 rfl rfl ?_
        refine S_getR (pc := 1) dX12_n_1 flX12_144 (sM_0 hs) rfl (rM_43 hs) ?_
        refine S_bipush (pc := 4) dX12_n_4 bp40 ?_
        refine S_iload_n (pc := 6) dX12_n_6 rfl rfl ?_
        refine S_imul (pc := 7) dX12_n_7 ?_
        refine S_iload_n (pc := 8) dX12_n_8 rfl rfl ?_
        refine S_iadd (pc := 9) dX12_n_9 ?_
        obtain ⟨hb12, H⟩ := H
        refine S_iald (pc := 10) dX12_n_10 (sM_23 hs) hb12 ?_
        refine S_eqi (x := f (B + 23) (((nI 40) * a1) + (nI 4)).toNatClampNeg) ((up2_r (by omega)).trans ((up2_r (by omega)).trans ((up2_r (by omega)).trans rfl))) ?_
        refine S_ireturn dX12_n_11 rfl ?_
        show WP _ _ _ _ _ _ _ 138 [some (.ref B), some (.int a1), some (.int a2)] [.int (f (B + 23) (((nI 40) * a1) + (nI 4)).toNatClampNeg), .int (((up2 f (B + 24) (((nI 8) * (((nI 480) * a1) + a2)) + (nI 5)).toNatClampNeg (-1)) (B + 24) (((nI 8) * (((nI 480) * a1) + a2)) + (nI 2)).toNatClampNeg) + ((up2 f (B + 24) (((nI 8) * (((nI 480) * a1) + a2)) + (nI 5)).toNatClampNeg (-1)) (B + 24) (((nI 8) * (((nI 480) * a1) + a2)) + (nI 3)).toNatClampNeg))] (sh, (up2 (up2 (up2 f (B + 24) (((nI 8) * (((nI 480) * a1) + a2)) + (nI 5)).toNatClampNeg (-1)) (B + 32) (f B 57).toNatClampNeg a2) B 57 ((f B 57) + (nI 1))), g, fR)
        refine S_aload_n (pc := 138) dX12_arrives_138 rfl rfl ?_
        refine S_get (pc := 139) (v := .int ((up2 (up2 (up2 f (B + 24) (((nI 8) * (((nI 480) * a1) + a2)) + (nI 5)).toNatClampNeg (-1)) (B + 32) (f B 57).toNatClampNeg a2) B 57 ((f B 57) + (nI 1))) B 52)) dX12_arrives_139 flX12_173 (sM_0 hs) rfl ?_
        refine S_eqi (x := f B 52) ((up2_k (by decide)).trans ((up2_r (by omega)).trans ((up2_r (by omega)).trans rfl))) ?_
        refine S_iadd (pc := 142) dX12_arrives_142 ?_
        refine S_icmp_le (pc := 143) (tgt := 155) dX12_arrives_143 rfl (fun hc13 => ?_) (fun hc13 => ?_)
        · replace H := H.1 hc13
          refine S_aload_n (pc := 155) dX12_arrives_155 rfl rfl ?_
          refine S_iload_n (pc := 156) dX12_arrives_156 rfl rfl ?_
          refine S_iload_n (pc := 157) dX12_arrives_157 rfl rfl ?_
          refine S_iconst (pc := 158) dX12_arrives_158 ic0 ?_
          refine S_callV (As := [.int a1, .int a2, .int (nI 0)]) (mc := 0) (ms := 0) (pc := 159) dX12_arrives_159 miX12_areTaken mvX12_areTaken mlX12_488 rfl (sM_0 hs) rfl rfl rfl (RmOK.of rfl) H ?_
          rintro _ _ ⟨x16, f14, g15, rfl, rfl, H⟩
          show WP _ _ _ _ _ _ _ 162 [some (.ref B), some (.int a1), some (.int a2)] [.int x16] (sh, f14, g15, fR)
          refine S_if_eq (pc := 162) (tgt := 174) dX12_arrives_162 rfl (fun hc17 => ?_) (fun hc17 => ?_)
          · replace H := H.1 hc17
            refine S_aload_n (pc := 174) dX12_arrives_174 rfl rfl ?_
            refine S_iload_n (pc := 175) dX12_arrives_175 rfl rfl ?_
            refine S_iload_n (pc := 176) dX12_arrives_176 rfl rfl ?_
            refine S_iconst (pc := 177) dX12_arrives_177 ic1 ?_
            refine S_callV (As := [.int a1, .int a2, .int (nI 1)]) (mc := 0) (ms := 0) (pc := 178) dX12_arrives_178 miX12_areTaken mvX12_areTaken mlX12_488 rfl (sM_0 hs) rfl rfl rfl (RmOK.of rfl) H ?_
            rintro _ _ ⟨x20, f18, g19, rfl, rfl, H⟩
            show WP _ _ _ _ _ _ _ 181 [some (.ref B), some (.int a1), some (.int a2)] [.int x20] (sh, f18, g19, fR)
            refine S_pop (pc := 181) dX12_arrives_181 rfl ?_
            exact H
          · replace H := H.2 hc17
            refine S_aload_n (pc := 165) dX12_arrives_165 rfl rfl ?_
            refine S_iload_n (pc := 166) dX12_arrives_166 rfl rfl ?_
            refine S_iconst (pc := 167) dX12_arrives_167 ic3 ?_
            refine S_callV (As := [.int a1, .int (nI 3)]) (mc := 0) (ms := 0) (pc := 168) dX12_arrives_168 miX12_refusesIn mvX12_refusesIn mlX12_467 rfl (sM_0 hs) rfl rfl rfl (RmOK.of rfl) (Q := fun r h => WP _ _ _ _ _ _ _ 171 [some (.ref B), some (.int a1), some (.int a2)] (r.toList ++ []) h) (Cl.of miX12_refusesIn rfl rfl ?_) (fun _ _ q => q)
            refine S_aload_n (pc := 0) dX12_refusesIn_0 rfl rfl ?_
            refine S_iload_n (pc := 1) dX12_refusesIn_1 rfl rfl ?_
            refine S_bipush (pc := 2) dX12_refusesIn_2 bp10 ?_
            refine S_iload_n (pc := 4) dX12_refusesIn_4 rfl rfl ?_
            refine S_iadd (pc := 5) dX12_refusesIn_5 ?_
            refine S_aload_n (pc := 6) dX12_refusesIn_6 rfl rfl ?_
            refine S_iload_n (pc := 7) dX12_refusesIn_7 rfl rfl ?_
            refine S_bipush (pc := 8) dX12_refusesIn_8 bp10 ?_
            refine S_iload_n (pc := 10) dX12_refusesIn_10 rfl rfl ?_
            refine S_iadd (pc := 11) dX12_refusesIn_11 ?_
            refine S_callV (As := [.int a1, .int ((nI 10) + (nI 3))]) (mc := 0) (ms := 0) (pc := 12) dX12_refusesIn_12 miX12_n mvX12_n mlX12_402 rfl (sM_0 hs) rfl rfl rfl (RmOK.of rfl) (Q := fun r h => WP _ _ _ _ _ _ _ 15 [some (.ref B), some (.int a1), some (.int (nI 3))] (r.toList ++ [.int ((nI 10) + (nI 3)), .int a1, .ref B]) h) (Cl.of miX12_n rfl rfl ?_) (fun _ _ q => q)
            refine S_aload_n (pc := 0) dX12_n_0 rfl rfl ?_
            refine S_getR (pc := 1) dX12_n_1 flX12_144 (sM_0 hs) rfl (rM_43 hs) ?_
            refine S_bipush (pc := 4) dX12_n_4 bp40 ?_
            refine S_iload_n (pc := 6) dX12_n_6 rfl rfl ?_
            refine S_imul (pc := 7) dX12_n_7 ?_
            refine S_iload_n (pc := 8) dX12_n_8 rfl rfl ?_
            refine S_iadd (pc := 9) dX12_n_9 ?_
            obtain ⟨hb21, H⟩ := H
            refine S_iald (pc := 10) dX12_n_10 (sM_23 hs) hb21 ?_
            refine S_ireturn dX12_n_11 rfl ?_
            show WP _ _ _ _ _ _ _ 15 [some (.ref B), some (.int a1), some (.int (nI 3))] [.int (f14 (B + 23) (((nI 40) * a1) + ((nI 10) + (nI 3))).toNatClampNeg), .int ((nI 10) + (nI 3)), .int a1, .ref B] (sh, f14, g15, fR)
            refine S_iconst (pc := 15) dX12_refusesIn_15 ic1 ?_
            refine S_iadd (pc := 16) dX12_refusesIn_16 ?_
            refine S_callV (As := [.int a1, .int ((nI 10) + (nI 3)), .int ((f14 (B + 23) (((nI 40) * a1) + ((nI 10) + (nI 3))).toNatClampNeg) + (nI 1))]) (mc := 0) (ms := 0) (pc := 17) dX12_refusesIn_17 miX12_sets mvX12_sets mlX12_405 rfl (sM_0 hs) rfl rfl rfl (RmOK.of rfl) (Q := fun r h => WP _ _ _ _ _ _ _ 20 [some (.ref B), some (.int a1), some (.int (nI 3))] (r.toList ++ []) h) (Cl.of miX12_sets rfl rfl ?_) (fun _ _ q => q)
            refine S_aload_n (pc := 0) dX12_sets_0 rfl rfl ?_
            refine S_getR (pc := 1) dX12_sets_1 flX12_144 (sM_0 hs) rfl (rM_43 hs) ?_
            refine S_bipush (pc := 4) dX12_sets_4 bp40 ?_
            refine S_iload_n (pc := 6) dX12_sets_6 rfl rfl ?_
            refine S_imul (pc := 7) dX12_sets_7 ?_
            refine S_iload_n (pc := 8) dX12_sets_8 rfl rfl ?_
            refine S_iadd (pc := 9) dX12_sets_9 ?_
            refine S_iload_n (pc := 10) dX12_sets_10 rfl rfl ?_
            obtain ⟨hb22, H⟩ := H
            refine S_iast (pc := 11) dX12_sets_11 (sM_23 hs) (Nat.succ_pos _) hb22 ?_
            refine S_vreturn dX12_sets_12 rfl ?_
            show WP _ _ _ _ _ _ _ 20 [some (.ref B), some (.int a1), some (.int (nI 3))] [] (sh, (up2 f14 (B + 23) (((nI 40) * a1) + ((nI 10) + (nI 3))).toNatClampNeg ((f14 (B + 23) (((nI 40) * a1) + ((nI 10) + (nI 3))).toNatClampNeg) + (nI 1))), g15, fR)
            refine S_vreturn dX12_refusesIn_20 rfl ?_
            show WP _ _ _ _ _ _ _ 171 [some (.ref B), some (.int a1), some (.int a2)] [] (sh, (up2 f14 (B + 23) (((nI 40) * a1) + ((nI 10) + (nI 3))).toNatClampNeg ((f14 (B + 23) (((nI 40) * a1) + ((nI 10) + (nI 3))).toNatClampNeg) + (nI 1))), g15, fR)
            refine S_goto (pc := 171) (tgt := 182) dX12_arrives_171 rfl ?_
            exact H
        · replace H := H.2 hc13
          refine S_aload_n (pc := 146) dX12_arrives_146 rfl rfl ?_
          refine S_iload_n (pc := 147) dX12_arrives_147 rfl rfl ?_
          refine S_iconst (pc := 148) dX12_arrives_148 ic2 ?_
          refine S_callV (As := [.int a1, .int (nI 2)]) (mc := 0) (ms := 0) (pc := 149) dX12_arrives_149 miX12_refusesIn mvX12_refusesIn mlX12_467 rfl (sM_0 hs) rfl rfl rfl (RmOK.of rfl) (Q := fun r h => WP _ _ _ _ _ _ _ 152 [some (.ref B), some (.int a1), some (.int a2)] (r.toList ++ []) h) (Cl.of miX12_refusesIn rfl rfl ?_) (fun _ _ q => q)
          refine S_aload_n (pc := 0) dX12_refusesIn_0 rfl rfl ?_
          refine S_iload_n (pc := 1) dX12_refusesIn_1 rfl rfl ?_
          refine S_bipush (pc := 2) dX12_refusesIn_2 bp10 ?_
          refine S_iload_n (pc := 4) dX12_refusesIn_4 rfl rfl ?_
          refine S_iadd (pc := 5) dX12_refusesIn_5 ?_
          refine S_aload_n (pc := 6) dX12_refusesIn_6 rfl rfl ?_
          refine S_iload_n (pc := 7) dX12_refusesIn_7 rfl rfl ?_
          refine S_bipush (pc := 8) dX12_refusesIn_8 bp10 ?_
          refine S_iload_n (pc := 10) dX12_refusesIn_10 rfl rfl ?_
          refine S_iadd (pc := 11) dX12_refusesIn_11 ?_
          refine S_callV (As := [.int a1, .int ((nI 10) + (nI 2))]) (mc := 0) (ms := 0) (pc := 12) dX12_refusesIn_12 miX12_n mvX12_n mlX12_402 rfl (sM_0 hs) rfl rfl rfl (RmOK.of rfl) (Q := fun r h => WP _ _ _ _ _ _ _ 15 [some (.ref B), some (.int a1), some (.int (nI 2))] (r.toList ++ [.int ((nI 10) + (nI 2)), .int a1, .ref B]) h) (Cl.of miX12_n rfl rfl ?_) (fun _ _ q => q)
          refine S_aload_n (pc := 0) dX12_n_0 rfl rfl ?_
          refine S_getR (pc := 1) dX12_n_1 flX12_144 (sM_0 hs) rfl (rM_43 hs) ?_
          refine S_bipush (pc := 4) dX12_n_4 bp40 ?_
          refine S_iload_n (pc := 6) dX12_n_6 rfl rfl ?_
          refine S_imul (pc := 7) dX12_n_7 ?_
          refine S_iload_n (pc := 8) dX12_n_8 rfl rfl ?_
          refine S_iadd (pc := 9) dX12_n_9 ?_
          obtain ⟨hb23, H⟩ := H
          refine S_iald (pc := 10) dX12_n_10 (sM_23 hs) hb23 ?_
          refine S_eqi (x := f (B + 23) (((nI 40) * a1) + ((nI 10) + (nI 2))).toNatClampNeg) ((up2_r (by omega)).trans ((up2_r (by omega)).trans ((up2_r (by omega)).trans rfl))) ?_
          refine S_ireturn dX12_n_11 rfl ?_
          show WP _ _ _ _ _ _ _ 15 [some (.ref B), some (.int a1), some (.int (nI 2))] [.int (f (B + 23) (((nI 40) * a1) + ((nI 10) + (nI 2))).toNatClampNeg), .int ((nI 10) + (nI 2)), .int a1, .ref B] (sh, (up2 (up2 (up2 f (B + 24) (((nI 8) * (((nI 480) * a1) + a2)) + (nI 5)).toNatClampNeg (-1)) (B + 32) (f B 57).toNatClampNeg a2) B 57 ((f B 57) + (nI 1))), g, fR)
          refine S_iconst (pc := 15) dX12_refusesIn_15 ic1 ?_
          refine S_iadd (pc := 16) dX12_refusesIn_16 ?_
          refine S_callV (As := [.int a1, .int ((nI 10) + (nI 2)), .int ((f (B + 23) (((nI 40) * a1) + ((nI 10) + (nI 2))).toNatClampNeg) + (nI 1))]) (mc := 0) (ms := 0) (pc := 17) dX12_refusesIn_17 miX12_sets mvX12_sets mlX12_405 rfl (sM_0 hs) rfl rfl rfl (RmOK.of rfl) (Q := fun r h => WP _ _ _ _ _ _ _ 20 [some (.ref B), some (.int a1), some (.int (nI 2))] (r.toList ++ []) h) (Cl.of miX12_sets rfl rfl ?_) (fun _ _ q => q)
          refine S_aload_n (pc := 0) dX12_sets_0 rfl rfl ?_
          refine S_getR (pc := 1) dX12_sets_1 flX12_144 (sM_0 hs) rfl (rM_43 hs) ?_
          refine S_bipush (pc := 4) dX12_sets_4 bp40 ?_
          refine S_iload_n (pc := 6) dX12_sets_6 rfl rfl ?_
          refine S_imul (pc := 7) dX12_sets_7 ?_
          refine S_iload_n (pc := 8) dX12_sets_8 rfl rfl ?_
          refine S_iadd (pc := 9) dX12_sets_9 ?_
          refine S_iload_n (pc := 10) dX12_sets_10 rfl rfl ?_
          obtain ⟨hb24, H⟩ := H
          refine S_iast (pc := 11) dX12_sets_11 (sM_23 hs) (Nat.succ_pos _) hb24 ?_
          refine S_vreturn dX12_sets_12 rfl ?_
          show WP _ _ _ _ _ _ _ 20 [some (.ref B), some (.int a1), some (.int (nI 2))] [] (sh, (up2 (up2 (up2 (up2 f (B + 24) (((nI 8) * (((nI 480) * a1) + a2)) + (nI 5)).toNatClampNeg (-1)) (B + 32) (f B 57).toNatClampNeg a2) B 57 ((f B 57) + (nI 1))) (B + 23) (((nI 40) * a1) + ((nI 10) + (nI 2))).toNatClampNeg ((f (B + 23) (((nI 40) * a1) + ((nI 10) + (nI 2))).toNatClampNeg) + (nI 1))), g, fR)
          refine S_vreturn dX12_refusesIn_20 rfl ?_
          show WP _ _ _ _ _ _ _ 152 [some (.ref B), some (.int a1), some (.int a2)] [] (sh, (up2 (up2 (up2 (up2 f (B + 24) (((nI 8) * (((nI 480) * a1) + a2)) + (nI 5)).toNatClampNeg (-1)) (B + 32) (f B 57).toNatClampNeg a2) B 57 ((f B 57) + (nI 1))) (B + 23) (((nI 40) * a1) + ((nI 10) + (nI 2))).toNatClampNeg ((f (B + 23) (((nI 40) * a1) + ((nI 10) + (nI 2))).toNatClampNeg) + (nI 1))), g, fR)
          refine S_goto (pc := 152) (tgt := 182) dX12_arrives_152 rfl ?_
          exact H
      · replace H := H.2 hc8
        refine S_aload_n (pc := 62) dX12_arrives_62 rfl rfl ?_
        refine S_iload_n (pc := 63) dX12_arrives_63 rfl rfl ?_
        refine S_iconst (pc := 64) dX12_arrives_64 ic1 ?_
        refine S_callV (As := [.int a1, .int (nI 1)]) (mc := 0) (ms := 0) (pc := 65) dX12_arrives_65 miX12_refusesIn mvX12_refusesIn mlX12_467 rfl (sM_0 hs) rfl rfl rfl (RmOK.of rfl) (Q := fun r h => WP _ _ _ _ _ _ _ 68 [some (.ref B), some (.int a1), some (.int a2)] (r.toList ++ []) h) (Cl.of miX12_refusesIn rfl rfl ?_) (fun _ _ q => q)
        refine S_aload_n (pc := 0) dX12_refusesIn_0 rfl rfl ?_
        refine S_iload_n (pc := 1) dX12_refusesIn_1 rfl rfl ?_
        refine S_bipush (pc := 2) dX12_refusesIn_2 bp10 ?_
        refine S_iload_n (pc := 4) dX12_refusesIn_4 rfl rfl ?_
        refine S_iadd (pc := 5) dX12_refusesIn_5 ?_
        refine S_aload_n (pc := 6) dX12_refusesIn_6 rfl rfl ?_
        refine S_iload_n (pc := 7) dX12_refusesIn_7 rfl rfl ?_
        refine S_bipush (pc := 8) dX12_refusesIn_8 bp10 ?_
        refine S_iload_n (pc := 10) dX12_refusesIn_10 rfl rfl ?_
        refine S_iadd (pc := 11) dX12_refusesIn_11 ?_
        refine S_callV (As := [.int a1, .int ((nI 10) + (nI 1))]) (mc := 0) (ms := 0) (pc := 12) dX12_refusesIn_12 miX12_n mvX12_n mlX12_402 rfl (sM_0 hs) rfl rfl rfl (RmOK.of rfl) (Q := fun r h => WP _ _ _ _ _ _ _ 15 [some (.ref B), some (.int a1), some (.int (nI 1))] (r.toList ++ [.int ((nI 10) + (nI 1)), .int a1, .ref B]) h) (Cl.of miX12_n rfl rfl ?_) (fun _ _ q => q)
        refine S_aload_n (pc := 0) dX12_n_0 rfl rfl ?_
        refine S_getR (pc := 1) dX12_n_1 flX12_144 (sM_0 hs) rfl (rM_43 hs) ?_
        refine S_bipush (pc := 4) dX12_n_4 bp40 ?_
        refine S_iload_n (pc := 6) dX12_n_6 rfl rfl ?_
        refine S_imul (pc := 7) dX12_n_7 ?_
        refine S_iload_n (pc := 8) dX12_n_8 rfl rfl ?_
        refine S_iadd (pc := 9) dX12_n_9 ?_
        obtain ⟨hb25, H⟩ := H
        refine S_iald (pc := 10) dX12_n_10 (sM_23 hs) hb25 ?_
        refine S_eqi (x := f (B + 23) (((nI 40) * a1) + ((nI 10) + (nI 1))).toNatClampNeg) ((up2_r (by omega)).trans rfl) ?_
        refine S_ireturn dX12_n_11 rfl ?_
        show WP _ _ _ _ _ _ _ 15 [some (.ref B), some (.int a1), some (.int (nI 1))] [.int (f (B + 23) (((nI 40) * a1) + ((nI 10) + (nI 1))).toNatClampNeg), .int ((nI 10) + (nI 1)), .int a1, .ref B] (sh, (up2 f (B + 24) (((nI 8) * (((nI 480) * a1) + a2)) + (nI 5)).toNatClampNeg (-1)), g, fR)
        refine S_iconst (pc := 15) dX12_refusesIn_15 ic1 ?_
        refine S_iadd (pc := 16) dX12_refusesIn_16 ?_
        refine S_callV (As := [.int a1, .int ((nI 10) + (nI 1)), .int ((f (B + 23) (((nI 40) * a1) + ((nI 10) + (nI 1))).toNatClampNeg) + (nI 1))]) (mc := 0) (ms := 0) (pc := 17) dX12_refusesIn_17 miX12_sets mvX12_sets mlX12_405 rfl (sM_0 hs) rfl rfl rfl (RmOK.of rfl) (Q := fun r h => WP _ _ _ _ _ _ _ 20 [some (.ref B), some (.int a1), some (.int (nI 1))] (r.toList ++ []) h) (Cl.of miX12_sets rfl rfl ?_) (fun _ _ q => q)
        refine S_aload_n (pc := 0) dX12_sets_0 rfl rfl ?_
        refine S_getR (pc := 1) dX12_sets_1 flX12_144 (sM_0 hs) rfl (rM_43 hs) ?_
        refine S_bipush (pc := 4) dX12_sets_4 bp40 ?_
        refine S_iload_n (pc := 6) dX12_sets_6 rfl rfl ?_
        refine S_imul (pc := 7) dX12_sets_7 ?_
        refine S_iload_n (pc := 8) dX12_sets_8 rfl rfl ?_
        refine S_iadd (pc := 9) dX12_sets_9 ?_
        refine S_iload_n (pc := 10) dX12_sets_10 rfl rfl ?_
        obtain ⟨hb26, H⟩ := H
        refine S_iast (pc := 11) dX12_sets_11 (sM_23 hs) (Nat.succ_pos _) hb26 ?_
        refine S_vreturn dX12_sets_12 rfl ?_
        show WP _ _ _ _ _ _ _ 20 [some (.ref B), some (.int a1), some (.int (nI 1))] [] (sh, (up2 (up2 f (B + 24) (((nI 8) * (((nI 480) * a1) + a2)) + (nI 5)).toNatClampNeg (-1)) (B + 23) (((nI 40) * a1) + ((nI 10) + (nI 1))).toNatClampNeg ((f (B + 23) (((nI 40) * a1) + ((nI 10) + (nI 1))).toNatClampNeg) + (nI 1))), g, fR)
        refine S_vreturn dX12_refusesIn_20 rfl ?_
        show WP _ _ _ _ _ _ _ 68 [some (.ref B), some (.int a1), some (.int a2)] [] (sh, (up2 (up2 f (B + 24) (((nI 8) * (((nI 480) * a1) + a2)) + (nI 5)).toNatClampNeg (-1)) (B + 23) (((nI 40) * a1) + ((nI 10) + (nI 1))).toNatClampNeg ((f (B + 23) (((nI 40) * a1) + ((nI 10) + (nI 1))).toNatClampNeg) + (nI 1))), g, fR)
        refine S_aload_n (pc := 68) dX12_arrives_68 rfl rfl ?_
        refine S_getR (pc := 69) dX12_arrives_69 flX12_191 (sM_0 hs) rfl (rM_58 hs) ?_
        refine S_aload_n (pc := 72) dX12_arrives_72 rfl rfl ?_
        refine S_get (pc := 73) (v := .int ((up2 (up2 f (B + 24) (((nI 8) * (((nI 480) * a1) + a2)) + (nI 5)).toNatClampNeg (-1)) (B + 23) (((nI 40) * a1) + ((nI 10) + (nI 1))).toNatClampNeg ((f (B + 23) (((nI 40) * a1) + ((nI 10) + (nI 1))).toNatClampNeg) + (nI 1))) B 59)) dX12_arrives_73 flX12_194 (sM_0 hs) rfl ?_
        refine S_eqi (x := f B 59) ((up2_r (by omega)).trans ((up2_r (by omega)).trans rfl)) ?_
        refine S_aload_n (pc := 76) dX12_arrives_76 rfl rfl ?_
        refine S_iload_n (pc := 77) dX12_arrives_77 rfl rfl ?_
        refine S_iload_n (pc := 78) dX12_arrives_78 rfl rfl ?_
        refine S_iconst (pc := 79) dX12_arrives_79 ic0 ?_
        refine S_callV (As := [.int a1, .int a2, .int (nI 0)]) (mc := 0) (ms := 0) (pc := 80) dX12_arrives_80 miX12_s mvX12_s mlX12_445 rfl (sM_0 hs) rfl rfl rfl (RmOK.of rfl) (Q := fun r h => WP _ _ _ _ _ _ _ 83 [some (.ref B), some (.int a1), some (.int a2)] (r.toList ++ [.int (f B 59), .ref (B + 33)]) h) (Cl.of miX12_s rfl rfl ?_) (fun _ _ q => q)
        refine S_aload_n (pc := 0) dX12_s_0 rfl rfl ?_
        refine S_getR (pc := 1) dX12_s_1 flX12_148 (sM_0 hs) rfl (rM_44 hs) ?_
        refine S_bipush (pc := 4) dX12_s_4 bp8 ?_
        refine S_sipush (pc := 6) dX12_s_6 sp480 ?_
        refine S_iload_n (pc := 9) dX12_s_9 rfl rfl ?_
        refine S_imul (pc := 10) dX12_s_10 ?_
        refine S_iload_n (pc := 11) dX12_s_11 rfl rfl ?_
        refine S_iadd (pc := 12) dX12_s_12 ?_
        refine S_imul (pc := 13) dX12_s_13 ?_
        refine S_iload_n (pc := 14) dX12_s_14 rfl rfl ?_
        refine S_iadd (pc := 15) dX12_s_15 ?_
        obtain ⟨hb27, H⟩ := H
        refine S_iald (pc := 16) dX12_s_16 (sM_24 hs) hb27 ?_
        refine S_eqi (x := (up2 f (B + 24) (((nI 8) * (((nI 480) * a1) + a2)) + (nI 5)).toNatClampNeg (-1)) (B + 24) (((nI 8) * (((nI 480) * a1) + a2)) + (nI 0)).toNatClampNeg) ((up2_r (by omega)).trans rfl) ?_
        refine S_ireturn dX12_s_17 rfl ?_
        show WP _ _ _ _ _ _ _ 83 [some (.ref B), some (.int a1), some (.int a2)] [.int ((up2 f (B + 24) (((nI 8) * (((nI 480) * a1) + a2)) + (nI 5)).toNatClampNeg (-1)) (B + 24) (((nI 8) * (((nI 480) * a1) + a2)) + (nI 0)).toNatClampNeg), .int (f B 59), .ref (B + 33)] (sh, (up2 (up2 f (B + 24) (((nI 8) * (((nI 480) * a1) + a2)) + (nI 5)).toNatClampNeg (-1)) (B + 23) (((nI 40) * a1) + ((nI 10) + (nI 1))).toNatClampNeg ((f (B + 23) (((nI 40) * a1) + ((nI 10) + (nI 1))).toNatClampNeg) + (nI 1))), g, fR)
        obtain ⟨hb28, H⟩ := H
        refine S_iast (pc := 83) dX12_arrives_83 (sM_33 hs) (Nat.succ_pos _) hb28 ?_
        refine S_aload_n (pc := 84) dX12_arrives_84 rfl rfl ?_
        refine S_dup (pc := 85) dX12_arrives_85 rfl ?_
        refine S_get (pc := 86) (v := .int ((up2 (up2 (up2 f (B + 24) (((nI 8) * (((nI 480) * a1) + a2)) + (nI 5)).toNatClampNeg (-1)) (B + 23) (((nI 40) * a1) + ((nI 10) + (nI 1))).toNatClampNeg ((f (B + 23) (((nI 40) * a1) + ((nI 10) + (nI 1))).toNatClampNeg) + (nI 1))) (B + 33) (f B 59).toNatClampNeg ((up2 f (B + 24) (((nI 8) * (((nI 480) * a1) + a2)) + (nI 5)).toNatClampNeg (-1)) (B + 24) (((nI 8) * (((nI 480) * a1) + a2)) + (nI 0)).toNatClampNeg)) B 59)) dX12_arrives_86 flX12_194 (sM_0 hs) rfl ?_
        refine S_eqi (x := f B 59) ((up2_r (by omega)).trans ((up2_r (by omega)).trans ((up2_r (by omega)).trans rfl))) ?_
        refine S_iconst (pc := 89) dX12_arrives_89 ic1 ?_
        refine S_iadd (pc := 90) dX12_arrives_90 ?_
        refine S_putI (pc := 91) dX12_arrives_91 flX12_194 (sM_0 hs) hs.2.2 (nf_12_59) rfl rfl (fun _ => rfl) ?_
        refine S_goto (pc := 94) (tgt := 182) dX12_arrives_94 rfl ?_
        exact H
    · replace H := H.2 hc5
      refine S_goto (pc := 39) (tgt := 182) dX12_arrives_39 rfl ?_
      exact H
set_option maxHeartbeats 2000000 in
set_option maxRecDepth 4000 in
theorem VX12_arrives_182 {l : Launch} {G : Gx} {d : Nat} {Q : Option Value → Hp → Prop} {sh : Sh} {fR : FRt} {B : Nat} {f : FI} {g : FL} {a1 : Int32} {a2 : Int32} (hs : StM sh fR B)
    (H : LpX12_arrives_12 l G d Q sh fR B f g a1 (a2 + nI 1)) :
    LpX12_arrives_182 l G d Q sh fR B f g a1 a2 := by
  refine S_iinc (pc := 182) (v := nI 1) (L' := [some (.ref B), some (.int a1), some (.int (a2 + nI 1))]) dX12_arrives_182 rfl ic1 rfl ?_
  refine S_goto (pc := 185) (tgt := 12) dX12_arrives_185 rfl ?_
  exact H
abbrev LpX12_firstLacking_7 (l : Launch) (G : Gx) (d : Nat) (Q : Option Value → Hp → Prop) (sh : Sh) (fR : FRt) (B : Nat) (f : FI) (g : FL) (a1 : Int32) (a2 : Int32) : Prop := WP l G (Zq G 0 0 Q) mX12_firstLacking (rmd (d + 1) 0 0) 0 0 7 [some (.ref B), some (.int a1), some (.int a2)] [] (sh, f, g, fR)
set_option maxHeartbeats 2000000 in
set_option maxRecDepth 4000 in
theorem VX12_firstLacking {l : Launch} {G : Gx} {d : Nat} {Q : Option Value → Hp → Prop} {sh : Sh} {fR : FRt} {B : Nat} {f : FI} {g : FL} {a1 : Int32} (hs : StM sh fR B)
    (H : inb (((nI 40) * a1) + (nI 4)) 880 ∧ (∀ w2 : Int32, w2 = f (B + 23) (((nI 40) * a1) + (nI 4)).toNatClampNeg → LpX12_firstLacking_7 l G d Q sh fR B f g a1 w2)) :
    Cl l G (d + 1) 0 0 mX12_firstLacking [.ref B, .int a1] (sh, f, g, fR) Q := by
  refine Cl.of (L0 := [some (.ref B), some (.int a1), none]) miX12_firstLacking rfl rfl ?_
  refine S_aload_n (pc := 0) dX12_firstLacking_0 rfl rfl ?_
  refine S_iload_n (pc := 1) dX12_firstLacking_1 rfl rfl ?_
  refine S_iconst (pc := 2) dX12_firstLacking_2 ic4 ?_
  refine S_callV (As := [.int a1, .int (nI 4)]) (mc := 0) (ms := 0) (pc := 3) dX12_firstLacking_3 miX12_n mvX12_n mlX12_402 rfl (sM_0 hs) rfl rfl rfl (RmOK.of rfl) (Q := fun r h => WP _ _ _ _ _ _ _ 6 [some (.ref B), some (.int a1), none] (r.toList ++ []) h) (Cl.of miX12_n rfl rfl ?_) (fun _ _ q => q)
  refine S_aload_n (pc := 0) dX12_n_0 rfl rfl ?_
  refine S_getR (pc := 1) dX12_n_1 flX12_144 (sM_0 hs) rfl (rM_43 hs) ?_
  refine S_bipush (pc := 4) dX12_n_4 bp40 ?_
  refine S_iload_n (pc := 6) dX12_n_6 rfl rfl ?_
  refine S_imul (pc := 7) dX12_n_7 ?_
  refine S_iload_n (pc := 8) dX12_n_8 rfl rfl ?_
  refine S_iadd (pc := 9) dX12_n_9 ?_
  obtain ⟨hb1, H⟩ := H
  refine S_iald (pc := 10) dX12_n_10 (sM_23 hs) hb1 ?_
  refine S_ireturn dX12_n_11 rfl ?_
  show WP _ _ _ _ _ _ _ 6 [some (.ref B), some (.int a1), none] [.int (f (B + 23) (((nI 40) * a1) + (nI 4)).toNatClampNeg)] (sh, f, g, fR)
  refine S_namei (fun w2 e3 => ?_)
  replace H := H w2 e3
  refine S_istore_n (pc := 6) (L' := [some (.ref B), some (.int a1), some (.int w2)]) dX12_firstLacking_6 rfl (by decide) rfl ?_
  exact H
set_option maxHeartbeats 2000000 in
set_option maxRecDepth 4000 in
theorem VX12_firstLacking_7 {l : Launch} {G : Gx} {d : Nat} {Q : Option Value → Hp → Prop} {sh : Sh} {fR : FRt} {B : Nat} {f : FI} {g : FL} {a1 : Int32} {a2 : Int32} (hs : StM sh fR B)
    (H : inb (f B 13) 2 ∧ (((f (B + 2) (f B 13).toNatClampNeg) ≤ a2 → Q (some (.int a2)) (sh, f, g, fR)) ∧ (¬ (f (B + 2) (f B 13).toNatClampNeg) ≤ a2 → inb (((nI 200) * a1) + a2) 4400 ∧ ((¬ (f (B + 27) (((nI 200) * a1) + a2).toNatClampNeg) = (nI 1) → Q (some (.int a2)) (sh, f, g, fR)) ∧ ((f (B + 27) (((nI 200) * a1) + a2).toNatClampNeg) = (nI 1) → LpX12_firstLacking_7 l G d Q sh fR B f g a1 (a2 + nI 1)))))) :
    LpX12_firstLacking_7 l G d Q sh fR B f g a1 a2 := by
  refine S_iload_n (pc := 7) dX12_firstLacking_7 rfl rfl ?_
  refine S_aload_n (pc := 8) dX12_firstLacking_8 rfl rfl ?_
  refine S_getR (pc := 9) dX12_firstLacking_9 flX12_54 (sM_0 hs) rfl (rM_14 hs) ?_
  refine S_aload_n (pc := 12) dX12_firstLacking_12 rfl rfl ?_
  refine S_get (pc := 13) (v := .int (f B 13)) dX12_firstLacking_13 flX12_51 (sM_0 hs) rfl ?_
  obtain ⟨hb4, H⟩ := H
  refine S_iald (pc := 16) dX12_firstLacking_16 (sM_2 hs) hb4 ?_
  refine S_icmp_ge (pc := 17) (tgt := 42) dX12_firstLacking_17 rfl (fun hc5 => ?_) (fun hc5 => ?_)
  · replace H := H.1 hc5
    refine S_iload_n (pc := 42) dX12_firstLacking_42 rfl rfl ?_
    exact S_ireturn dX12_firstLacking_43 rfl H
  · replace H := H.2 hc5
    refine S_aload_n (pc := 20) dX12_firstLacking_20 rfl rfl ?_
    refine S_getR (pc := 21) dX12_firstLacking_21 flX12_158 (sM_0 hs) rfl (rM_47 hs) ?_
    refine S_sipush (pc := 24) dX12_firstLacking_24 sp200 ?_
    refine S_iload_n (pc := 27) dX12_firstLacking_27 rfl rfl ?_
    refine S_imul (pc := 28) dX12_firstLacking_28 ?_
    refine S_iload_n (pc := 29) dX12_firstLacking_29 rfl rfl ?_
    refine S_iadd (pc := 30) dX12_firstLacking_30 ?_
    obtain ⟨hb6, H⟩ := H
    refine S_iald (pc := 31) dX12_firstLacking_31 (sM_27 hs) hb6 ?_
    refine S_iconst (pc := 32) dX12_firstLacking_32 ic1 ?_
    refine S_icmp_ne (pc := 33) (tgt := 42) dX12_firstLacking_33 rfl (fun hc7 => ?_) (fun hc7 => ?_)
    · replace H := H.1 hc7
      refine S_iload_n (pc := 42) dX12_firstLacking_42 rfl rfl ?_
      exact S_ireturn dX12_firstLacking_43 rfl H
    · replace H := H.2 hc7
      refine S_iinc (pc := 36) (v := nI 1) (L' := [some (.ref B), some (.int a1), some (.int (a2 + nI 1))]) dX12_firstLacking_36 rfl ic1 rfl ?_
      refine S_goto (pc := 39) (tgt := 7) dX12_firstLacking_39 rfl ?_
      exact H
abbrev LpX12_takenAll_4 (l : Launch) (G : Gx) (d : Nat) (Q : Option Value → Hp → Prop) (sh : Sh) (fR : FRt) (B : Nat) (f : FI) (g : FL) (a1 : Int32) (a2 : Int32) (a3 : Int32) : Prop := WP l G (Zq G 0 0 Q) mX12_takenAll (rmd d 0 0) 0 0 4 [some (.ref B), some (.int a1), some (.int a2), some (.int a3)] [] (sh, f, g, fR)
set_option maxHeartbeats 2000000 in
set_option maxRecDepth 4000 in
theorem VX12_takenAll {l : Launch} {G : Gx} {d : Nat} {Q : Option Value → Hp → Prop} {sh : Sh} {fR : FRt} {B : Nat} {f : FI} {g : FL} {a1 : Int32} (hs : StM sh fR B)
    (H : LpX12_takenAll_4 l G d Q sh fR B f g a1 (nI 0) (nI 0)) :
    Cl l G d 0 0 mX12_takenAll [.ref B, .int a1] (sh, f, g, fR) Q := by
  refine Cl.of (L0 := [some (.ref B), some (.int a1), none, none]) miX12_takenAll rfl rfl ?_
  refine S_iconst (pc := 0) dX12_takenAll_0 ic0 ?_
  refine S_istore_n (pc := 1) (L' := [some (.ref B), some (.int a1), some (.int (nI 0)), none]) dX12_takenAll_1 rfl (by decide) rfl ?_
  refine S_iconst (pc := 2) dX12_takenAll_2 ic0 ?_
  refine S_istore_n (pc := 3) (L' := [some (.ref B), some (.int a1), some (.int (nI 0)), some (.int (nI 0))]) dX12_takenAll_3 rfl (by decide) rfl ?_
  exact H
set_option maxHeartbeats 2000000 in
set_option maxRecDepth 4000 in
theorem VX12_takenAll_4 {l : Launch} {G : Gx} {d : Nat} {Q : Option Value → Hp → Prop} {sh : Sh} {fR : FRt} {B : Nat} {f : FI} {g : FL} {a1 : Int32} {a2 : Int32} {a3 : Int32} (hs : StM sh fR B)
    (H : inb (f B 13) 2 ∧ (((f (B + 2) (f B 13).toNatClampNeg) ≤ a3 → Q (some (.int a2)) (sh, f, g, fR)) ∧ (¬ (f (B + 2) (f B 13).toNatClampNeg) ≤ a3 → inb (((nI 200) * a1) + a3) 4400 ∧ (∀ w4 : Int32, w4 = a2 + (f (B + 27) (((nI 200) * a1) + a3).toNatClampNeg) → LpX12_takenAll_4 l G d Q sh fR B f g a1 w4 (a3 + nI 1))))) :
    LpX12_takenAll_4 l G d Q sh fR B f g a1 a2 a3 := by
  refine S_iload_n (pc := 4) dX12_takenAll_4 rfl rfl ?_
  refine S_aload_n (pc := 5) dX12_takenAll_5 rfl rfl ?_
  refine S_getR (pc := 6) dX12_takenAll_6 flX12_54 (sM_0 hs) rfl (rM_14 hs) ?_
  refine S_aload_n (pc := 9) dX12_takenAll_9 rfl rfl ?_
  refine S_get (pc := 10) (v := .int (f B 13)) dX12_takenAll_10 flX12_51 (sM_0 hs) rfl ?_
  obtain ⟨hb1, H⟩ := H
  refine S_iald (pc := 13) dX12_takenAll_13 (sM_2 hs) hb1 ?_
  refine S_icmp_ge (pc := 14) (tgt := 38) dX12_takenAll_14 rfl (fun hc2 => ?_) (fun hc2 => ?_)
  · replace H := H.1 hc2
    refine S_iload_n (pc := 38) dX12_takenAll_38 rfl rfl ?_
    exact S_ireturn dX12_takenAll_39 rfl H
  · replace H := H.2 hc2
    refine S_iload_n (pc := 17) dX12_takenAll_17 rfl rfl ?_
    refine S_aload_n (pc := 18) dX12_takenAll_18 rfl rfl ?_
    refine S_getR (pc := 19) dX12_takenAll_19 flX12_158 (sM_0 hs) rfl (rM_47 hs) ?_
    refine S_sipush (pc := 22) dX12_takenAll_22 sp200 ?_
    refine S_iload_n (pc := 25) dX12_takenAll_25 rfl rfl ?_
    refine S_imul (pc := 26) dX12_takenAll_26 ?_
    refine S_iload_n (pc := 27) dX12_takenAll_27 rfl rfl ?_
    refine S_iadd (pc := 28) dX12_takenAll_28 ?_
    obtain ⟨hb3, H⟩ := H
    refine S_iald (pc := 29) dX12_takenAll_29 (sM_27 hs) hb3 ?_
    refine S_iadd (pc := 30) dX12_takenAll_30 ?_
    refine S_namei (fun w4 e5 => ?_)
    replace H := H w4 e5
    refine S_istore_n (pc := 31) (L' := [some (.ref B), some (.int a1), some (.int w4), some (.int a3)]) dX12_takenAll_31 rfl (by decide) rfl ?_
    refine S_iinc (pc := 32) (v := nI 1) (L' := [some (.ref B), some (.int a1), some (.int w4), some (.int (a3 + nI 1))]) dX12_takenAll_32 rfl ic1 rfl ?_
    refine S_goto (pc := 35) (tgt := 4) dX12_takenAll_35 rfl ?_
    exact H
abbrev LpX12_readsOn_98 (l : Launch) (G : Gx) (d : Nat) (Q : Option Value → Hp → Prop) (sh : Sh) (fR : FRt) (B : Nat) (f : FI) (g : FL) (a1 : Int32) (a3 : Int32) : Prop := WP l G (Zq G 0 0 Q) mX12_readsOn (rmd (d + 3) 0 0) 0 0 98 [some (.ref B), some (.int a1), none, some (.int a3), none, none] [] (sh, f, g, fR)
set_option maxHeartbeats 2000000 in
set_option maxRecDepth 4000 in
theorem VX12_readsOn {l : Launch} {G : Gx} {d : Nat} {Q : Option Value → Hp → Prop} {sh : Sh} {fR : FRt} {B : Nat} {f : FI} {g : FL} {a1 : Int32} (hs : StM sh fR B)
    (H : Cl l G (d + 2) 0 0 mX12_firstLacking [.ref B, .int a1] (sh, f, g, fR) (qi sh fR fun x3 f1 g2 => inb (((nI 40) * a1) + (nI 4)) 880 ∧ (∀ w5 : Int32, w5 = x3 - (f1 (B + 23) (((nI 40) * a1) + (nI 4)).toNatClampNeg) → Cl l G (d + 2) 0 0 mX12_isTold [.ref B, .int (nI 2)] (sh, f1, g2, fR) (qi sh fR fun x9 f7 g8 => ((x9 = 0 → LpX12_readsOn_98 l G d Q sh fR B f7 g8 a1 w5) ∧ (¬ x9 = 0 → inb (((nI 40) * a1) + (nI 0)) 880 ∧ Cl l G (d + 2) 0 0 mX12_takenAll [.ref B, .int a1] (sh, (up2 (up2 f7 (B + 31) 1 (f7 (B + 23) (((nI 40) * a1) + (nI 0)).toNatClampNeg)) (B + 31) 9 w5), g8, fR) (qi sh fR fun x14 f12 g13 => inb (((nI 40) * a1) + (nI 4)) 880 ∧ Cl l G (d + 2) 0 0 mX12_reckons [.ref B, .int (nI 2)] (sh, (up2 f12 (B + 31) 10 ((x14 - (f12 (B + 23) (((nI 40) * a1) + (nI 4)).toNatClampNeg)) - w5)), g13, fR) (ql sh fR fun y18 f16 g17 => (((lN 0) ≤ y18 → ((y18 ≤ w5.toInt64 → LpX12_readsOn_98 l G d Q sh fR B f16 g17 a1 y18.toInt32) ∧ (¬ y18 ≤ w5.toInt64 → LpX12_readsOn_98 l G d Q sh fR B f16 g17 a1 w5))) ∧ (¬ (lN 0) ≤ y18 → LpX12_readsOn_98 l G d Q sh fR B f16 g17 a1 (nI 0))))))))))) :
    Cl l G (d + 3) 0 0 mX12_readsOn [.ref B, .int a1] (sh, f, g, fR) Q := by
  refine Cl.of (L0 := [some (.ref B), some (.int a1), none, none, none, none]) miX12_readsOn rfl rfl ?_
  refine S_aload_n (pc := 0) dX12_readsOn_0 rfl rfl ?_
  refine S_iload_n (pc := 1) dX12_readsOn_1 rfl rfl ?_
  refine S_callV (As := [.int a1]) (mc := 0) (ms := 0) (pc := 2) dX12_readsOn_2 miX12_firstLacking mvX12_firstLacking mlX12_492 rfl (sM_0 hs) rfl rfl rfl (RmOK.of rfl) H ?_
  rintro _ _ ⟨x3, f1, g2, rfl, rfl, H⟩
  show WP _ _ _ _ _ _ _ 5 [some (.ref B), some (.int a1), none, none, none, none] [.int x3] (sh, f1, g2, fR)
  refine S_aload_n (pc := 5) dX12_readsOn_5 rfl rfl ?_
  refine S_iload_n (pc := 6) dX12_readsOn_6 rfl rfl ?_
  refine S_iconst (pc := 7) dX12_readsOn_7 ic4 ?_
  refine S_callV (As := [.int a1, .int (nI 4)]) (mc := 0) (ms := 0) (pc := 8) dX12_readsOn_8 miX12_n mvX12_n mlX12_402 rfl (sM_0 hs) rfl rfl rfl (RmOK.of rfl) (Q := fun r h => WP _ _ _ _ _ _ _ 11 [some (.ref B), some (.int a1), none, none, none, none] (r.toList ++ [.int x3]) h) (Cl.of miX12_n rfl rfl ?_) (fun _ _ q => q)
  refine S_aload_n (pc := 0) dX12_n_0 rfl rfl ?_
  refine S_getR (pc := 1) dX12_n_1 flX12_144 (sM_0 hs) rfl (rM_43 hs) ?_
  refine S_bipush (pc := 4) dX12_n_4 bp40 ?_
  refine S_iload_n (pc := 6) dX12_n_6 rfl rfl ?_
  refine S_imul (pc := 7) dX12_n_7 ?_
  refine S_iload_n (pc := 8) dX12_n_8 rfl rfl ?_
  refine S_iadd (pc := 9) dX12_n_9 ?_
  obtain ⟨hb4, H⟩ := H
  refine S_iald (pc := 10) dX12_n_10 (sM_23 hs) hb4 ?_
  refine S_ireturn dX12_n_11 rfl ?_
  show WP _ _ _ _ _ _ _ 11 [some (.ref B), some (.int a1), none, none, none, none] [.int (f1 (B + 23) (((nI 40) * a1) + (nI 4)).toNatClampNeg), .int x3] (sh, f1, g2, fR)
  refine S_isub (pc := 11) dX12_readsOn_11 ?_
  refine S_namei (fun w5 e6 => ?_)
  replace H := H w5 e6
  refine S_istore_n (pc := 12) (L' := [some (.ref B), some (.int a1), some (.int w5), none, none, none]) dX12_readsOn_12 rfl (by decide) rfl ?_
  refine S_iload_n (pc := 13) dX12_readsOn_13 rfl rfl ?_
  refine S_istore_n (pc := 14) (L' := [some (.ref B), some (.int a1), some (.int w5), some (.int w5), none, none]) dX12_readsOn_14 rfl (by decide) rfl ?_
  refine S_aload_n (pc := 15) dX12_readsOn_15 rfl rfl ?_
  refine S_iconst (pc := 16) dX12_readsOn_16 ic2 ?_
  refine S_callV (As := [.int (nI 2)]) (mc := 0) (ms := 0) (pc := 17) dX12_readsOn_17 miX12_isTold mvX12_isTold mlX12_452 rfl (sM_0 hs) rfl rfl rfl (RmOK.of rfl) H ?_
  rintro _ _ ⟨x9, f7, g8, rfl, rfl, H⟩
  show WP _ _ _ _ _ _ _ 20 [some (.ref B), some (.int a1), some (.int w5), some (.int w5), none, none] [.int x9] (sh, f7, g8, fR)
  refine S_if_eq (pc := 20) (tgt := 98) dX12_readsOn_20 rfl (fun hc10 => ?_) (fun hc10 => ?_)
  · replace H := H.1 hc10
    exact S_weak (L' := [some (.ref B), some (.int a1), none, some (.int w5), none, none]) (ls_e (ls_e (ls_n (ls_e (ls_e (ls_e ls_0)))))) H
  · replace H := H.2 hc10
    refine S_aload_n (pc := 23) dX12_readsOn_23 rfl rfl ?_
    refine S_getR (pc := 24) dX12_readsOn_24 flX12_182 (sM_0 hs) rfl (rM_55 hs) ?_
    refine S_iconst (pc := 27) dX12_readsOn_27 ic1 ?_
    refine S_aload_n (pc := 28) dX12_readsOn_28 rfl rfl ?_
    refine S_iload_n (pc := 29) dX12_readsOn_29 rfl rfl ?_
    refine S_iconst (pc := 30) dX12_readsOn_30 ic0 ?_
    refine S_callV (As := [.int a1, .int (nI 0)]) (mc := 0) (ms := 0) (pc := 31) dX12_readsOn_31 miX12_n mvX12_n mlX12_402 rfl (sM_0 hs) rfl rfl rfl (RmOK.of rfl) (Q := fun r h => WP _ _ _ _ _ _ _ 34 [some (.ref B), some (.int a1), some (.int w5), some (.int w5), none, none] (r.toList ++ [.int (nI 1), .ref (B + 31)]) h) (Cl.of miX12_n rfl rfl ?_) (fun _ _ q => q)
    refine S_aload_n (pc := 0) dX12_n_0 rfl rfl ?_
    refine S_getR (pc := 1) dX12_n_1 flX12_144 (sM_0 hs) rfl (rM_43 hs) ?_
    refine S_bipush (pc := 4) dX12_n_4 bp40 ?_
    refine S_iload_n (pc := 6) dX12_n_6 rfl rfl ?_
    refine S_imul (pc := 7) dX12_n_7 ?_
    refine S_iload_n (pc := 8) dX12_n_8 rfl rfl ?_
    refine S_iadd (pc := 9) dX12_n_9 ?_
    obtain ⟨hb11, H⟩ := H
    refine S_iald (pc := 10) dX12_n_10 (sM_23 hs) hb11 ?_
    refine S_ireturn dX12_n_11 rfl ?_
    show WP _ _ _ _ _ _ _ 34 [some (.ref B), some (.int a1), some (.int w5), some (.int w5), none, none] [.int (f7 (B + 23) (((nI 40) * a1) + (nI 0)).toNatClampNeg), .int (nI 1), .ref (B + 31)] (sh, f7, g8, fR)
    refine S_iast (pc := 34) dX12_readsOn_34 (sM_31 hs) (Nat.succ_pos _) (vp_in_nI (by decide) (by decide)) ?_
    show WP _ _ _ _ _ _ _ 35 _ _ (sh, (up2 f7 (B + 31) 1 (f7 (B + 23) (((nI 40) * a1) + (nI 0)).toNatClampNeg)), g8, fR)
    refine S_aload_n (pc := 35) dX12_readsOn_35 rfl rfl ?_
    refine S_getR (pc := 36) dX12_readsOn_36 flX12_182 (sM_0 hs) rfl (rM_55 hs) ?_
    refine S_bipush (pc := 39) dX12_readsOn_39 bp9 ?_
    refine S_iload_n (pc := 41) dX12_readsOn_41 rfl rfl ?_
    refine S_iast (pc := 42) dX12_readsOn_42 (sM_31 hs) (Nat.succ_pos _) (vp_in_nI (by decide) (by decide)) ?_
    show WP _ _ _ _ _ _ _ 43 _ _ (sh, (up2 (up2 f7 (B + 31) 1 (f7 (B + 23) (((nI 40) * a1) + (nI 0)).toNatClampNeg)) (B + 31) 9 w5), g8, fR)
    refine S_aload_n (pc := 43) dX12_readsOn_43 rfl rfl ?_
    refine S_getR (pc := 44) dX12_readsOn_44 flX12_182 (sM_0 hs) rfl (rM_55 hs) ?_
    refine S_bipush (pc := 47) dX12_readsOn_47 bp10 ?_
    refine S_aload_n (pc := 49) dX12_readsOn_49 rfl rfl ?_
    refine S_iload_n (pc := 50) dX12_readsOn_50 rfl rfl ?_
    refine S_callV (As := [.int a1]) (mc := 0) (ms := 0) (pc := 51) dX12_readsOn_51 miX12_takenAll mvX12_takenAll mlX12_495 rfl (sM_0 hs) rfl rfl rfl (RmOK.of rfl) H ?_
    rintro _ _ ⟨x14, f12, g13, rfl, rfl, H⟩
    show WP _ _ _ _ _ _ _ 54 [some (.ref B), some (.int a1), some (.int w5), some (.int w5), none, none] [.int x14, .int (nI 10), .ref (B + 31)] (sh, f12, g13, fR)
    refine S_aload_n (pc := 54) dX12_readsOn_54 rfl rfl ?_
    refine S_iload_n (pc := 55) dX12_readsOn_55 rfl rfl ?_
    refine S_iconst (pc := 56) dX12_readsOn_56 ic4 ?_
    refine S_callV (As := [.int a1, .int (nI 4)]) (mc := 0) (ms := 0) (pc := 57) dX12_readsOn_57 miX12_n mvX12_n mlX12_402 rfl (sM_0 hs) rfl rfl rfl (RmOK.of rfl) (Q := fun r h => WP _ _ _ _ _ _ _ 60 [some (.ref B), some (.int a1), some (.int w5), some (.int w5), none, none] (r.toList ++ [.int x14, .int (nI 10), .ref (B + 31)]) h) (Cl.of miX12_n rfl rfl ?_) (fun _ _ q => q)
    refine S_aload_n (pc := 0) dX12_n_0 rfl rfl ?_
    refine S_getR (pc := 1) dX12_n_1 flX12_144 (sM_0 hs) rfl (rM_43 hs) ?_
    refine S_bipush (pc := 4) dX12_n_4 bp40 ?_
    refine S_iload_n (pc := 6) dX12_n_6 rfl rfl ?_
    refine S_imul (pc := 7) dX12_n_7 ?_
    refine S_iload_n (pc := 8) dX12_n_8 rfl rfl ?_
    refine S_iadd (pc := 9) dX12_n_9 ?_
    obtain ⟨hb15, H⟩ := H
    refine S_iald (pc := 10) dX12_n_10 (sM_23 hs) hb15 ?_
    refine S_ireturn dX12_n_11 rfl ?_
    show WP _ _ _ _ _ _ _ 60 [some (.ref B), some (.int a1), some (.int w5), some (.int w5), none, none] [.int (f12 (B + 23) (((nI 40) * a1) + (nI 4)).toNatClampNeg), .int x14, .int (nI 10), .ref (B + 31)] (sh, f12, g13, fR)
    refine S_isub (pc := 60) dX12_readsOn_60 ?_
    refine S_iload_n (pc := 61) dX12_readsOn_61 rfl rfl ?_
    refine S_isub (pc := 62) dX12_readsOn_62 ?_
    refine S_iast (pc := 63) dX12_readsOn_63 (sM_31 hs) (Nat.succ_pos _) (vp_in_nI (by decide) (by decide)) ?_
    show WP _ _ _ _ _ _ _ 64 _ _ (sh, (up2 f12 (B + 31) 10 ((x14 - (f12 (B + 23) (((nI 40) * a1) + (nI 4)).toNatClampNeg)) - w5)), g13, fR)
    refine S_aload_n (pc := 64) dX12_readsOn_64 rfl rfl ?_
    refine S_iconst (pc := 65) dX12_readsOn_65 ic2 ?_
    refine S_callV (As := [.int (nI 2)]) (mc := 0) (ms := 0) (pc := 66) dX12_readsOn_66 miX12_reckons mvX12_reckons mlX12_458 rfl (sM_0 hs) rfl rfl rfl (RmOK.of rfl) H ?_
    rintro _ _ ⟨y18, f16, g17, rfl, rfl, H⟩
    show WP _ _ _ _ _ _ _ 69 [some (.ref B), some (.int a1), some (.int w5), some (.int w5), none, none] [.long y18] (sh, f16, g17, fR)
    refine S_lstore (pc := 69) (L' := [some (.ref B), some (.int a1), some (.int w5), some (.int w5), some (.long y18), none]) dX12_readsOn_69 (by decide) rfl ?_
    refine S_lload (pc := 71) dX12_readsOn_71 rfl ?_
    refine S_lconst (pc := 73) dX12_readsOn_73 lc0 ?_
    refine S_lcmp_ge (pc := 74) (tgt := 82) dX12_readsOn_74 dX12_readsOn_75 rfl (fun hc19 => ?_) (fun hc19 => ?_)
    · replace H := H.1 hc19
      refine S_lload (pc := 82) dX12_readsOn_82 rfl ?_
      refine S_iload_n (pc := 84) dX12_readsOn_84 rfl rfl ?_
      refine S_i2l (pc := 85) dX12_readsOn_85 ?_
      refine S_lcmp_le (pc := 86) (tgt := 94) dX12_readsOn_86 dX12_readsOn_87 rfl (fun hc20 => ?_) (fun hc20 => ?_)
      · replace H := H.1 hc20
        refine S_lload (pc := 94) dX12_readsOn_94 rfl ?_
        refine S_l2i (pc := 96) dX12_readsOn_96 ?_
        refine S_istore_n (pc := 97) (L' := [some (.ref B), some (.int a1), some (.int w5), some (.int y18.toInt32), some (.long y18), none]) dX12_readsOn_97 rfl (by decide) rfl ?_
        exact S_weak (L' := [some (.ref B), some (.int a1), none, some (.int y18.toInt32), none, none]) (ls_e (ls_e (ls_n (ls_e (ls_n (ls_e ls_0)))))) H
      · replace H := H.2 hc20
        refine S_iload_n (pc := 90) dX12_readsOn_90 rfl rfl ?_
        refine S_goto (pc := 91) (tgt := 97) dX12_readsOn_91 rfl ?_
        refine S_istore_n (pc := 97) (L' := [some (.ref B), some (.int a1), some (.int w5), some (.int w5), some (.long y18), none]) dX12_readsOn_97 rfl (by decide) rfl ?_
        exact S_weak (L' := [some (.ref B), some (.int a1), none, some (.int w5), none, none]) (ls_e (ls_e (ls_n (ls_e (ls_n (ls_e ls_0)))))) H
    · replace H := H.2 hc19
      refine S_iconst (pc := 78) dX12_readsOn_78 ic0 ?_
      refine S_goto (pc := 79) (tgt := 97) dX12_readsOn_79 rfl ?_
      refine S_istore_n (pc := 97) (L' := [some (.ref B), some (.int a1), some (.int w5), some (.int (nI 0)), some (.long y18), none]) dX12_readsOn_97 rfl (by decide) rfl ?_
      exact S_weak (L' := [some (.ref B), some (.int a1), none, some (.int (nI 0)), none, none]) (ls_e (ls_e (ls_n (ls_e (ls_n (ls_e ls_0)))))) H
set_option maxHeartbeats 2000000 in
set_option maxRecDepth 4000 in
theorem VX12_readsOn_98 {l : Launch} {G : Gx} {d : Nat} {Q : Option Value → Hp → Prop} {sh : Sh} {fR : FRt} {B : Nat} {f : FI} {g : FL} {a1 : Int32} {a3 : Int32} (hs : StM sh fR B)
    (H : inb (((nI 40) * a1) + (nI 4)) 880 ∧ inb (((nI 40) * a1) + (nI 4)) 880 ∧ Q (some (.int a3)) (sh, (up2 f (B + 23) (((nI 40) * a1) + (nI 4)).toNatClampNeg ((f (B + 23) (((nI 40) * a1) + (nI 4)).toNatClampNeg) + a3)), g, fR)) :
    LpX12_readsOn_98 l G d Q sh fR B f g a1 a3 := by
  refine S_aload_n (pc := 98) dX12_readsOn_98 rfl rfl ?_
  refine S_iload_n (pc := 99) dX12_readsOn_99 rfl rfl ?_
  refine S_iconst (pc := 100) dX12_readsOn_100 ic4 ?_
  refine S_aload_n (pc := 101) dX12_readsOn_101 rfl rfl ?_
  refine S_iload_n (pc := 102) dX12_readsOn_102 rfl rfl ?_
  refine S_iconst (pc := 103) dX12_readsOn_103 ic4 ?_
  refine S_callV (As := [.int a1, .int (nI 4)]) (mc := 0) (ms := 0) (pc := 104) dX12_readsOn_104 miX12_n mvX12_n mlX12_402 rfl (sM_0 hs) rfl rfl rfl (RmOK.of rfl) (Q := fun r h => WP _ _ _ _ _ _ _ 107 [some (.ref B), some (.int a1), none, some (.int a3), none, none] (r.toList ++ [.int (nI 4), .int a1, .ref B]) h) (Cl.of miX12_n rfl rfl ?_) (fun _ _ q => q)
  refine S_aload_n (pc := 0) dX12_n_0 rfl rfl ?_
  refine S_getR (pc := 1) dX12_n_1 flX12_144 (sM_0 hs) rfl (rM_43 hs) ?_
  refine S_bipush (pc := 4) dX12_n_4 bp40 ?_
  refine S_iload_n (pc := 6) dX12_n_6 rfl rfl ?_
  refine S_imul (pc := 7) dX12_n_7 ?_
  refine S_iload_n (pc := 8) dX12_n_8 rfl rfl ?_
  refine S_iadd (pc := 9) dX12_n_9 ?_
  obtain ⟨hb21, H⟩ := H
  refine S_iald (pc := 10) dX12_n_10 (sM_23 hs) hb21 ?_
  refine S_ireturn dX12_n_11 rfl ?_
  show WP _ _ _ _ _ _ _ 107 [some (.ref B), some (.int a1), none, some (.int a3), none, none] [.int (f (B + 23) (((nI 40) * a1) + (nI 4)).toNatClampNeg), .int (nI 4), .int a1, .ref B] (sh, f, g, fR)
  refine S_iload_n (pc := 107) dX12_readsOn_107 rfl rfl ?_
  refine S_iadd (pc := 108) dX12_readsOn_108 ?_
  refine S_callV (As := [.int a1, .int (nI 4), .int ((f (B + 23) (((nI 40) * a1) + (nI 4)).toNatClampNeg) + a3)]) (mc := 0) (ms := 0) (pc := 109) dX12_readsOn_109 miX12_sets mvX12_sets mlX12_405 rfl (sM_0 hs) rfl rfl rfl (RmOK.of rfl) (Q := fun r h => WP _ _ _ _ _ _ _ 112 [some (.ref B), some (.int a1), none, some (.int a3), none, none] (r.toList ++ []) h) (Cl.of miX12_sets rfl rfl ?_) (fun _ _ q => q)
  refine S_aload_n (pc := 0) dX12_sets_0 rfl rfl ?_
  refine S_getR (pc := 1) dX12_sets_1 flX12_144 (sM_0 hs) rfl (rM_43 hs) ?_
  refine S_bipush (pc := 4) dX12_sets_4 bp40 ?_
  refine S_iload_n (pc := 6) dX12_sets_6 rfl rfl ?_
  refine S_imul (pc := 7) dX12_sets_7 ?_
  refine S_iload_n (pc := 8) dX12_sets_8 rfl rfl ?_
  refine S_iadd (pc := 9) dX12_sets_9 ?_
  refine S_iload_n (pc := 10) dX12_sets_10 rfl rfl ?_
  obtain ⟨hb22, H⟩ := H
  refine S_iast (pc := 11) dX12_sets_11 (sM_23 hs) (Nat.succ_pos _) hb22 ?_
  refine S_vreturn dX12_sets_12 rfl ?_
  show WP _ _ _ _ _ _ _ 112 [some (.ref B), some (.int a1), none, some (.int a3), none, none] [] (sh, (up2 f (B + 23) (((nI 40) * a1) + (nI 4)).toNatClampNeg ((f (B + 23) (((nI 40) * a1) + (nI 4)).toNatClampNeg) + a3)), g, fR)
  refine S_iload_n (pc := 112) dX12_readsOn_112 rfl rfl ?_
  exact S_ireturn dX12_readsOn_113 rfl H
set_option maxHeartbeats 2000000 in
set_option maxRecDepth 4000 in
theorem VX12_answers {l : Launch} {G : Gx} {d : Nat} {Q : Option Value → Hp → Prop} {sh : Sh} {fR : FRt} {B : Nat} {f : FI} {g : FL} {a1 : Int32} {a2 : Int32} {a3 : Int32} (hs : StM sh fR B)
    (H : inb (((nI 40) * a1) + (nI 8)) 880 ∧ (∀ w2 : Int32, w2 = (nI 5) * (((nI 520) * a1) + (f (B + 23) (((nI 40) * a1) + (nI 8)).toNatClampNeg)) → inb (w2 + (nI 0)) 57200 ∧ inb (w2 + (nI 1)) 57200 ∧ Cl l G (d + 1) 0 0 mX12_firstLacking [.ref B, .int a1] (sh, (up2 (up2 f (B + 26) (w2 + (nI 0)).toNatClampNeg a2) (B + 26) (w2 + (nI 1)).toNatClampNeg a3), g, fR) (qi sh fR fun x8 f6 g7 => inb (w2 + (nI 2)) 57200 ∧ inb (((nI 40) * a1) + (nI 4)) 880 ∧ inb (w2 + (nI 3)) 57200 ∧ inb (((nI 40) * a1) + (nI 0)) 880 ∧ inb a2 4 ∧ inb (w2 + (nI 4)) 57200 ∧ inb (((nI 40) * a1) + (nI 8)) 880 ∧ inb (((nI 40) * a1) + (nI 8)) 880 ∧ Q none (sh, (up2 (up2 (up2 (up2 f6 (B + 26) (w2 + (nI 2)).toNatClampNeg x8) (B + 26) (w2 + (nI 3)).toNatClampNeg ((f6 (B + 23) (((nI 40) * a1) + (nI 4)).toNatClampNeg) + (f6 B 52))) (B + 26) (w2 + (nI 4)).toNatClampNeg ((f6 (B + 23) (((nI 40) * a1) + (nI 0)).toNatClampNeg) + (f6 (B + 29) a2.toNatClampNeg))) (B + 23) (((nI 40) * a1) + (nI 8)).toNatClampNeg ((f6 (B + 23) (((nI 40) * a1) + (nI 8)).toNatClampNeg) + (nI 1))), g7, fR)))) :
    Cl l G (d + 2) 0 0 mX12_answers [.ref B, .int a1, .int a2, .int a3] (sh, f, g, fR) Q := by
  refine Cl.of (L0 := [some (.ref B), some (.int a1), some (.int a2), some (.int a3), none]) miX12_answers rfl rfl ?_
  refine S_iconst (pc := 0) dX12_answers_0 ic5 ?_
  refine S_sipush (pc := 1) dX12_answers_1 sp520 ?_
  refine S_iload_n (pc := 4) dX12_answers_4 rfl rfl ?_
  refine S_imul (pc := 5) dX12_answers_5 ?_
  refine S_aload_n (pc := 6) dX12_answers_6 rfl rfl ?_
  refine S_iload_n (pc := 7) dX12_answers_7 rfl rfl ?_
  refine S_bipush (pc := 8) dX12_answers_8 bp8 ?_
  refine S_callV (As := [.int a1, .int (nI 8)]) (mc := 0) (ms := 0) (pc := 10) dX12_answers_10 miX12_n mvX12_n mlX12_402 rfl (sM_0 hs) rfl rfl rfl (RmOK.of rfl) (Q := fun r h => WP _ _ _ _ _ _ _ 13 [some (.ref B), some (.int a1), some (.int a2), some (.int a3), none] (r.toList ++ [.int ((nI 520) * a1), .int (nI 5)]) h) (Cl.of miX12_n rfl rfl ?_) (fun _ _ q => q)
  refine S_aload_n (pc := 0) dX12_n_0 rfl rfl ?_
  refine S_getR (pc := 1) dX12_n_1 flX12_144 (sM_0 hs) rfl (rM_43 hs) ?_
  refine S_bipush (pc := 4) dX12_n_4 bp40 ?_
  refine S_iload_n (pc := 6) dX12_n_6 rfl rfl ?_
  refine S_imul (pc := 7) dX12_n_7 ?_
  refine S_iload_n (pc := 8) dX12_n_8 rfl rfl ?_
  refine S_iadd (pc := 9) dX12_n_9 ?_
  obtain ⟨hb1, H⟩ := H
  refine S_iald (pc := 10) dX12_n_10 (sM_23 hs) hb1 ?_
  refine S_ireturn dX12_n_11 rfl ?_
  show WP _ _ _ _ _ _ _ 13 [some (.ref B), some (.int a1), some (.int a2), some (.int a3), none] [.int (f (B + 23) (((nI 40) * a1) + (nI 8)).toNatClampNeg), .int ((nI 520) * a1), .int (nI 5)] (sh, f, g, fR)
  refine S_iadd (pc := 13) dX12_answers_13 ?_
  refine S_imul (pc := 14) dX12_answers_14 ?_
  refine S_namei (fun w2 e3 => ?_)
  replace H := H w2 e3
  refine S_istore (pc := 15) (L' := [some (.ref B), some (.int a1), some (.int a2), some (.int a3), some (.int w2)]) dX12_answers_15 (by decide) rfl ?_
  refine S_aload_n (pc := 17) dX12_answers_17 rfl rfl ?_
  refine S_getR (pc := 18) dX12_answers_18 flX12_155 (sM_0 hs) rfl (rM_46 hs) ?_
  refine S_iload (pc := 21) dX12_answers_21 rfl ?_
  refine S_iconst (pc := 23) dX12_answers_23 ic0 ?_
  refine S_iadd (pc := 24) dX12_answers_24 ?_
  refine S_iload_n (pc := 25) dX12_answers_25 rfl rfl ?_
  obtain ⟨hb4, H⟩ := H
  refine S_iast (pc := 26) dX12_answers_26 (sM_26 hs) (Nat.succ_pos _) hb4 ?_
  refine S_aload_n (pc := 27) dX12_answers_27 rfl rfl ?_
  refine S_getR (pc := 28) dX12_answers_28 flX12_155 (sM_0 hs) rfl (rM_46 hs) ?_
  refine S_iload (pc := 31) dX12_answers_31 rfl ?_
  refine S_iconst (pc := 33) dX12_answers_33 ic1 ?_
  refine S_iadd (pc := 34) dX12_answers_34 ?_
  refine S_iload_n (pc := 35) dX12_answers_35 rfl rfl ?_
  obtain ⟨hb5, H⟩ := H
  refine S_iast (pc := 36) dX12_answers_36 (sM_26 hs) (Nat.succ_pos _) hb5 ?_
  refine S_aload_n (pc := 37) dX12_answers_37 rfl rfl ?_
  refine S_getR (pc := 38) dX12_answers_38 flX12_155 (sM_0 hs) rfl (rM_46 hs) ?_
  refine S_iload (pc := 41) dX12_answers_41 rfl ?_
  refine S_iconst (pc := 43) dX12_answers_43 ic2 ?_
  refine S_iadd (pc := 44) dX12_answers_44 ?_
  refine S_aload_n (pc := 45) dX12_answers_45 rfl rfl ?_
  refine S_iload_n (pc := 46) dX12_answers_46 rfl rfl ?_
  refine S_callV (As := [.int a1]) (mc := 0) (ms := 0) (pc := 47) dX12_answers_47 miX12_firstLacking mvX12_firstLacking mlX12_492 rfl (sM_0 hs) rfl rfl rfl (RmOK.of rfl) H ?_
  rintro _ _ ⟨x8, f6, g7, rfl, rfl, H⟩
  show WP _ _ _ _ _ _ _ 50 [some (.ref B), some (.int a1), some (.int a2), some (.int a3), some (.int w2)] [.int x8, .int (w2 + (nI 2)), .ref (B + 26)] (sh, f6, g7, fR)
  obtain ⟨hb9, H⟩ := H
  refine S_iast (pc := 50) dX12_answers_50 (sM_26 hs) (Nat.succ_pos _) hb9 ?_
  refine S_aload_n (pc := 51) dX12_answers_51 rfl rfl ?_
  refine S_getR (pc := 52) dX12_answers_52 flX12_155 (sM_0 hs) rfl (rM_46 hs) ?_
  refine S_iload (pc := 55) dX12_answers_55 rfl ?_
  refine S_iconst (pc := 57) dX12_answers_57 ic3 ?_
  refine S_iadd (pc := 58) dX12_answers_58 ?_
  refine S_aload_n (pc := 59) dX12_answers_59 rfl rfl ?_
  refine S_iload_n (pc := 60) dX12_answers_60 rfl rfl ?_
  refine S_iconst (pc := 61) dX12_answers_61 ic4 ?_
  refine S_callV (As := [.int a1, .int (nI 4)]) (mc := 0) (ms := 0) (pc := 62) dX12_answers_62 miX12_n mvX12_n mlX12_402 rfl (sM_0 hs) rfl rfl rfl (RmOK.of rfl) (Q := fun r h => WP _ _ _ _ _ _ _ 65 [some (.ref B), some (.int a1), some (.int a2), some (.int a3), some (.int w2)] (r.toList ++ [.int (w2 + (nI 3)), .ref (B + 26)]) h) (Cl.of miX12_n rfl rfl ?_) (fun _ _ q => q)
  refine S_aload_n (pc := 0) dX12_n_0 rfl rfl ?_
  refine S_getR (pc := 1) dX12_n_1 flX12_144 (sM_0 hs) rfl (rM_43 hs) ?_
  refine S_bipush (pc := 4) dX12_n_4 bp40 ?_
  refine S_iload_n (pc := 6) dX12_n_6 rfl rfl ?_
  refine S_imul (pc := 7) dX12_n_7 ?_
  refine S_iload_n (pc := 8) dX12_n_8 rfl rfl ?_
  refine S_iadd (pc := 9) dX12_n_9 ?_
  obtain ⟨hb10, H⟩ := H
  refine S_iald (pc := 10) dX12_n_10 (sM_23 hs) hb10 ?_
  refine S_eqi (x := f6 (B + 23) (((nI 40) * a1) + (nI 4)).toNatClampNeg) ((up2_r (by omega)).trans rfl) ?_
  refine S_ireturn dX12_n_11 rfl ?_
  show WP _ _ _ _ _ _ _ 65 [some (.ref B), some (.int a1), some (.int a2), some (.int a3), some (.int w2)] [.int (f6 (B + 23) (((nI 40) * a1) + (nI 4)).toNatClampNeg), .int (w2 + (nI 3)), .ref (B + 26)] (sh, (up2 f6 (B + 26) (w2 + (nI 2)).toNatClampNeg x8), g7, fR)
  refine S_aload_n (pc := 65) dX12_answers_65 rfl rfl ?_
  refine S_get (pc := 66) (v := .int ((up2 f6 (B + 26) (w2 + (nI 2)).toNatClampNeg x8) B 52)) dX12_answers_66 flX12_173 (sM_0 hs) rfl ?_
  refine S_eqi (x := f6 B 52) ((up2_r (by omega)).trans rfl) ?_
  refine S_iadd (pc := 69) dX12_answers_69 ?_
  obtain ⟨hb11, H⟩ := H
  refine S_iast (pc := 70) dX12_answers_70 (sM_26 hs) (Nat.succ_pos _) hb11 ?_
  refine S_aload_n (pc := 71) dX12_answers_71 rfl rfl ?_
  refine S_getR (pc := 72) dX12_answers_72 flX12_155 (sM_0 hs) rfl (rM_46 hs) ?_
  refine S_iload (pc := 75) dX12_answers_75 rfl ?_
  refine S_iconst (pc := 77) dX12_answers_77 ic4 ?_
  refine S_iadd (pc := 78) dX12_answers_78 ?_
  refine S_aload_n (pc := 79) dX12_answers_79 rfl rfl ?_
  refine S_iload_n (pc := 80) dX12_answers_80 rfl rfl ?_
  refine S_iconst (pc := 81) dX12_answers_81 ic0 ?_
  refine S_callV (As := [.int a1, .int (nI 0)]) (mc := 0) (ms := 0) (pc := 82) dX12_answers_82 miX12_n mvX12_n mlX12_402 rfl (sM_0 hs) rfl rfl rfl (RmOK.of rfl) (Q := fun r h => WP _ _ _ _ _ _ _ 85 [some (.ref B), some (.int a1), some (.int a2), some (.int a3), some (.int w2)] (r.toList ++ [.int (w2 + (nI 4)), .ref (B + 26)]) h) (Cl.of miX12_n rfl rfl ?_) (fun _ _ q => q)
  refine S_aload_n (pc := 0) dX12_n_0 rfl rfl ?_
  refine S_getR (pc := 1) dX12_n_1 flX12_144 (sM_0 hs) rfl (rM_43 hs) ?_
  refine S_bipush (pc := 4) dX12_n_4 bp40 ?_
  refine S_iload_n (pc := 6) dX12_n_6 rfl rfl ?_
  refine S_imul (pc := 7) dX12_n_7 ?_
  refine S_iload_n (pc := 8) dX12_n_8 rfl rfl ?_
  refine S_iadd (pc := 9) dX12_n_9 ?_
  obtain ⟨hb12, H⟩ := H
  refine S_iald (pc := 10) dX12_n_10 (sM_23 hs) hb12 ?_
  refine S_eqi (x := f6 (B + 23) (((nI 40) * a1) + (nI 0)).toNatClampNeg) ((up2_r (by omega)).trans ((up2_r (by omega)).trans rfl)) ?_
  refine S_ireturn dX12_n_11 rfl ?_
  show WP _ _ _ _ _ _ _ 85 [some (.ref B), some (.int a1), some (.int a2), some (.int a3), some (.int w2)] [.int (f6 (B + 23) (((nI 40) * a1) + (nI 0)).toNatClampNeg), .int (w2 + (nI 4)), .ref (B + 26)] (sh, (up2 (up2 f6 (B + 26) (w2 + (nI 2)).toNatClampNeg x8) (B + 26) (w2 + (nI 3)).toNatClampNeg ((f6 (B + 23) (((nI 40) * a1) + (nI 4)).toNatClampNeg) + (f6 B 52))), g7, fR)
  refine S_aload_n (pc := 85) dX12_answers_85 rfl rfl ?_
  refine S_getR (pc := 86) dX12_answers_86 flX12_176 (sM_0 hs) rfl (rM_53 hs) ?_
  refine S_iload_n (pc := 89) dX12_answers_89 rfl rfl ?_
  obtain ⟨hb13, H⟩ := H
  refine S_iald (pc := 90) dX12_answers_90 (sM_29 hs) hb13 ?_
  refine S_eqi (x := f6 (B + 29) a2.toNatClampNeg) ((up2_r (by omega)).trans ((up2_r (by omega)).trans rfl)) ?_
  refine S_iadd (pc := 91) dX12_answers_91 ?_
  obtain ⟨hb14, H⟩ := H
  refine S_iast (pc := 92) dX12_answers_92 (sM_26 hs) (Nat.succ_pos _) hb14 ?_
  refine S_aload_n (pc := 93) dX12_answers_93 rfl rfl ?_
  refine S_iload_n (pc := 94) dX12_answers_94 rfl rfl ?_
  refine S_bipush (pc := 95) dX12_answers_95 bp8 ?_
  refine S_aload_n (pc := 97) dX12_answers_97 rfl rfl ?_
  refine S_iload_n (pc := 98) dX12_answers_98 rfl rfl ?_
  refine S_bipush (pc := 99) dX12_answers_99 bp8 ?_
  refine S_callV (As := [.int a1, .int (nI 8)]) (mc := 0) (ms := 0) (pc := 101) dX12_answers_101 miX12_n mvX12_n mlX12_402 rfl (sM_0 hs) rfl rfl rfl (RmOK.of rfl) (Q := fun r h => WP _ _ _ _ _ _ _ 104 [some (.ref B), some (.int a1), some (.int a2), some (.int a3), some (.int w2)] (r.toList ++ [.int (nI 8), .int a1, .ref B]) h) (Cl.of miX12_n rfl rfl ?_) (fun _ _ q => q)
  refine S_aload_n (pc := 0) dX12_n_0 rfl rfl ?_
  refine S_getR (pc := 1) dX12_n_1 flX12_144 (sM_0 hs) rfl (rM_43 hs) ?_
  refine S_bipush (pc := 4) dX12_n_4 bp40 ?_
  refine S_iload_n (pc := 6) dX12_n_6 rfl rfl ?_
  refine S_imul (pc := 7) dX12_n_7 ?_
  refine S_iload_n (pc := 8) dX12_n_8 rfl rfl ?_
  refine S_iadd (pc := 9) dX12_n_9 ?_
  obtain ⟨hb15, H⟩ := H
  refine S_iald (pc := 10) dX12_n_10 (sM_23 hs) hb15 ?_
  refine S_eqi (x := f6 (B + 23) (((nI 40) * a1) + (nI 8)).toNatClampNeg) ((up2_r (by omega)).trans ((up2_r (by omega)).trans ((up2_r (by omega)).trans rfl))) ?_
  refine S_ireturn dX12_n_11 rfl ?_
  show WP _ _ _ _ _ _ _ 104 [some (.ref B), some (.int a1), some (.int a2), some (.int a3), some (.int w2)] [.int (f6 (B + 23) (((nI 40) * a1) + (nI 8)).toNatClampNeg), .int (nI 8), .int a1, .ref B] (sh, (up2 (up2 (up2 f6 (B + 26) (w2 + (nI 2)).toNatClampNeg x8) (B + 26) (w2 + (nI 3)).toNatClampNeg ((f6 (B + 23) (((nI 40) * a1) + (nI 4)).toNatClampNeg) + (f6 B 52))) (B + 26) (w2 + (nI 4)).toNatClampNeg ((f6 (B + 23) (((nI 40) * a1) + (nI 0)).toNatClampNeg) + (f6 (B + 29) a2.toNatClampNeg))), g7, fR)
  refine S_iconst (pc := 104) dX12_answers_104 ic1 ?_
  refine S_iadd (pc := 105) dX12_answers_105 ?_
  refine S_callV (As := [.int a1, .int (nI 8), .int ((f6 (B + 23) (((nI 40) * a1) + (nI 8)).toNatClampNeg) + (nI 1))]) (mc := 0) (ms := 0) (pc := 106) dX12_answers_106 miX12_sets mvX12_sets mlX12_405 rfl (sM_0 hs) rfl rfl rfl (RmOK.of rfl) (Q := fun r h => WP _ _ _ _ _ _ _ 109 [some (.ref B), some (.int a1), some (.int a2), some (.int a3), some (.int w2)] (r.toList ++ []) h) (Cl.of miX12_sets rfl rfl ?_) (fun _ _ q => q)
  refine S_aload_n (pc := 0) dX12_sets_0 rfl rfl ?_
  refine S_getR (pc := 1) dX12_sets_1 flX12_144 (sM_0 hs) rfl (rM_43 hs) ?_
  refine S_bipush (pc := 4) dX12_sets_4 bp40 ?_
  refine S_iload_n (pc := 6) dX12_sets_6 rfl rfl ?_
  refine S_imul (pc := 7) dX12_sets_7 ?_
  refine S_iload_n (pc := 8) dX12_sets_8 rfl rfl ?_
  refine S_iadd (pc := 9) dX12_sets_9 ?_
  refine S_iload_n (pc := 10) dX12_sets_10 rfl rfl ?_
  obtain ⟨hb16, H⟩ := H
  refine S_iast (pc := 11) dX12_sets_11 (sM_23 hs) (Nat.succ_pos _) hb16 ?_
  refine S_vreturn dX12_sets_12 rfl ?_
  show WP _ _ _ _ _ _ _ 109 [some (.ref B), some (.int a1), some (.int a2), some (.int a3), some (.int w2)] [] (sh, (up2 (up2 (up2 (up2 f6 (B + 26) (w2 + (nI 2)).toNatClampNeg x8) (B + 26) (w2 + (nI 3)).toNatClampNeg ((f6 (B + 23) (((nI 40) * a1) + (nI 4)).toNatClampNeg) + (f6 B 52))) (B + 26) (w2 + (nI 4)).toNatClampNeg ((f6 (B + 23) (((nI 40) * a1) + (nI 0)).toNatClampNeg) + (f6 (B + 29) a2.toNatClampNeg))) (B + 23) (((nI 40) * a1) + (nI 8)).toNatClampNeg ((f6 (B + 23) (((nI 40) * a1) + (nI 8)).toNatClampNeg) + (nI 1))), g7, fR)
  exact S_vreturn dX12_answers_109 rfl H
abbrev LpX12_firstOpen_2 (l : Launch) (G : Gx) (d : Nat) (Q : Option Value → Hp → Prop) (sh : Sh) (fR : FRt) (B : Nat) (f : FI) (g : FL) (a1 : Int32) (a2 : Int32) : Prop := WP l G (Zq G 0 0 Q) mX12_firstOpen (rmd (d + 2) 0 0) 0 0 2 [some (.ref B), some (.int a1), some (.int a2)] [] (sh, f, g, fR)
set_option maxHeartbeats 2000000 in
set_option maxRecDepth 4000 in
theorem VX12_firstOpen {l : Launch} {G : Gx} {d : Nat} {Q : Option Value → Hp → Prop} {sh : Sh} {fR : FRt} {B : Nat} {f : FI} {g : FL} {a1 : Int32} (hs : StM sh fR B)
    (H : LpX12_firstOpen_2 l G d Q sh fR B f g a1 (nI 0)) :
    Cl l G (d + 2) 0 0 mX12_firstOpen [.ref B, .int a1] (sh, f, g, fR) Q := by
  refine Cl.of (L0 := [some (.ref B), some (.int a1), none]) miX12_firstOpen rfl rfl ?_
  refine S_iconst (pc := 0) dX12_firstOpen_0 ic0 ?_
  refine S_istore_n (pc := 1) (L' := [some (.ref B), some (.int a1), some (.int (nI 0))]) dX12_firstOpen_1 rfl (by decide) rfl ?_
  exact H
set_option maxHeartbeats 2000000 in
set_option maxRecDepth 4000 in
theorem VX12_firstOpen_2 {l : Launch} {G : Gx} {d : Nat} {Q : Option Value → Hp → Prop} {sh : Sh} {fR : FRt} {B : Nat} {f : FI} {g : FL} {a1 : Int32} {a2 : Int32} (hs : StM sh fR B)
    (H : inb (f B 13) 2 ∧ (((f (B + 6) (f B 13).toNatClampNeg) ≤ a2 → Q (some (.int (-1))) (sh, f, g, fR)) ∧ (¬ (f (B + 6) (f B 13).toNatClampNeg) ≤ a2 → Cl l G (d + 1) 0 0 mX12_isFree [.ref B, .int a1, .int a2] (sh, f, g, fR) (qi sh fR fun x5 f3 g4 => ((x5 = 0 → LpX12_firstOpen_2 l G d Q sh fR B f3 g4 a1 (a2 + nI 1)) ∧ (¬ x5 = 0 → Q (some (.int a2)) (sh, f3, g4, fR))))))) :
    LpX12_firstOpen_2 l G d Q sh fR B f g a1 a2 := by
  refine S_iload_n (pc := 2) dX12_firstOpen_2 rfl rfl ?_
  refine S_aload_n (pc := 3) dX12_firstOpen_3 rfl rfl ?_
  refine S_getR (pc := 4) dX12_firstOpen_4 flX12_66 (sM_0 hs) rfl (rM_18 hs) ?_
  refine S_aload_n (pc := 7) dX12_firstOpen_7 rfl rfl ?_
  refine S_get (pc := 8) (v := .int (f B 13)) dX12_firstOpen_8 flX12_51 (sM_0 hs) rfl ?_
  obtain ⟨hb1, H⟩ := H
  refine S_iald (pc := 11) dX12_firstOpen_11 (sM_6 hs) hb1 ?_
  refine S_icmp_ge (pc := 12) (tgt := 32) dX12_firstOpen_12 rfl (fun hc2 => ?_) (fun hc2 => ?_)
  · replace H := H.1 hc2
    refine S_iconst (pc := 32) dX12_firstOpen_32 icm1 ?_
    exact S_ireturn dX12_firstOpen_33 rfl H
  · replace H := H.2 hc2
    refine S_aload_n (pc := 15) dX12_firstOpen_15 rfl rfl ?_
    refine S_iload_n (pc := 16) dX12_firstOpen_16 rfl rfl ?_
    refine S_iload_n (pc := 17) dX12_firstOpen_17 rfl rfl ?_
    refine S_callV (As := [.int a1, .int a2]) (mc := 0) (ms := 0) (pc := 18) dX12_firstOpen_18 miX12_isFree mvX12_isFree mlX12_470 rfl (sM_0 hs) rfl rfl rfl (RmOK.of rfl) H ?_
    rintro _ _ ⟨x5, f3, g4, rfl, rfl, H⟩
    show WP _ _ _ _ _ _ _ 21 [some (.ref B), some (.int a1), some (.int a2)] [.int x5] (sh, f3, g4, fR)
    refine S_if_eq (pc := 21) (tgt := 26) dX12_firstOpen_21 rfl (fun hc6 => ?_) (fun hc6 => ?_)
    · replace H := H.1 hc6
      refine S_iinc (pc := 26) (v := nI 1) (L' := [some (.ref B), some (.int a1), some (.int (a2 + nI 1))]) dX12_firstOpen_26 rfl ic1 rfl ?_
      refine S_goto (pc := 29) (tgt := 2) dX12_firstOpen_29 rfl ?_
      exact H
    · replace H := H.2 hc6
      refine S_iload_n (pc := 24) dX12_firstOpen_24 rfl rfl ?_
      exact S_ireturn dX12_firstOpen_25 rfl H
abbrev LpX12_setsOut_2 (l : Launch) (G : Gx) (d : Nat) (Q : Option Value → Hp → Prop) (sh : Sh) (fR : FRt) (B : Nat) (f : FI) (g : FL) (a1 : Int32) (a2 : Int32) (a3 : Int32) : Prop := WP l G (Zq G 0 0 Q) mX12_setsOut (rmd (d + 3) 0 0) 0 0 2 [some (.ref B), some (.int a1), some (.int a2), some (.int a3)] [] (sh, f, g, fR)
set_option maxHeartbeats 2000000 in
set_option maxRecDepth 4000 in
theorem VX12_setsOut {l : Launch} {G : Gx} {d : Nat} {Q : Option Value → Hp → Prop} {sh : Sh} {fR : FRt} {B : Nat} {f : FI} {g : FL} {a1 : Int32} {a2 : Int32} (hs : StM sh fR B)
    (H : LpX12_setsOut_2 l G d Q sh fR B f g a1 a2 (nI 0)) :
    Cl l G (d + 3) 0 0 mX12_setsOut [.ref B, .int a1, .int a2] (sh, f, g, fR) Q := by
  refine Cl.of (L0 := [some (.ref B), some (.int a1), some (.int a2), none]) miX12_setsOut rfl rfl ?_
  refine S_iconst (pc := 0) dX12_setsOut_0 ic0 ?_
  refine S_istore_n (pc := 1) (L' := [some (.ref B), some (.int a1), some (.int a2), some (.int (nI 0))]) dX12_setsOut_1 rfl (by decide) rfl ?_
  exact H
set_option maxHeartbeats 2000000 in
set_option maxRecDepth 4000 in
theorem VX12_setsOut_2 {l : Launch} {G : Gx} {d : Nat} {Q : Option Value → Hp → Prop} {sh : Sh} {fR : FRt} {B : Nat} {f : FI} {g : FL} {a1 : Int32} {a2 : Int32} {a3 : Int32} (hs : StM sh fR B)
    (H : (((f B 57) ≤ a3 → Cl l G (d + 2) 0 0 mX12_firstOpen [.ref B, .int a1] (sh, f, g, fR) (qi sh fR fun x4 f2 g3 => ((¬ (f2 B 57) = 0 → Q none (sh, f2, g3, fR)) ∧ ((f2 B 57) = 0 → ((a2 ≤ 0 → Q none (sh, f2, g3, fR)) ∧ (¬ a2 ≤ 0 → ((x4 = (-1) → Q none (sh, f2, g3, fR)) ∧ (¬ x4 = (-1) → Cl l G (d + 2) 0 0 mX12_answers [.ref B, .int a1, .int x4, .int (-1)] (sh, f2, g3, fR) (qv sh fR fun f8 g9 => Q none (sh, f8, g9, fR)))))))))) ∧ (¬ (f B 57) ≤ a3 → inb a3 480 ∧ inb (((nI 8) * (((nI 480) * a1) + (f (B + 32) a3.toNatClampNeg))) + (nI 0)) 84480 ∧ inb a3 480 ∧ inb (((nI 8) * (((nI 480) * a1) + (f (B + 32) a3.toNatClampNeg))) + (nI 1)) 84480 ∧ Cl l G (d + 2) 0 0 mX12_answers [.ref B, .int a1, .int (f (B + 24) (((nI 8) * (((nI 480) * a1) + (f (B + 32) a3.toNatClampNeg))) + (nI 0)).toNatClampNeg), .int (f (B + 24) (((nI 8) * (((nI 480) * a1) + (f (B + 32) a3.toNatClampNeg))) + (nI 1)).toNatClampNeg)] (sh, f, g, fR) (qv sh fR fun f14 g15 => LpX12_setsOut_2 l G d Q sh fR B f14 g15 a1 a2 (a3 + nI 1))))) :
    LpX12_setsOut_2 l G d Q sh fR B f g a1 a2 a3 := by
  refine S_iload_n (pc := 2) dX12_setsOut_2 rfl rfl ?_
  refine S_aload_n (pc := 3) dX12_setsOut_3 rfl rfl ?_
  refine S_get (pc := 4) (v := .int (f B 57)) dX12_setsOut_4 flX12_188 (sM_0 hs) rfl ?_
  refine S_icmp_ge (pc := 7) (tgt := 45) dX12_setsOut_7 rfl (fun hc1 => ?_) (fun hc1 => ?_)
  · replace H := H.1 hc1
    refine S_aload_n (pc := 45) dX12_setsOut_45 rfl rfl ?_
    refine S_iload_n (pc := 46) dX12_setsOut_46 rfl rfl ?_
    refine S_callV (As := [.int a1]) (mc := 0) (ms := 0) (pc := 47) dX12_setsOut_47 miX12_firstOpen mvX12_firstOpen mlX12_501 rfl (sM_0 hs) rfl rfl rfl (RmOK.of rfl) H ?_
    rintro _ _ ⟨x4, f2, g3, rfl, rfl, H⟩
    show WP _ _ _ _ _ _ _ 50 [some (.ref B), some (.int a1), some (.int a2), some (.int a3)] [.int x4] (sh, f2, g3, fR)
    refine S_istore_n (pc := 50) (L' := [some (.ref B), some (.int a1), some (.int a2), some (.int x4)]) dX12_setsOut_50 rfl (by decide) rfl ?_
    refine S_aload_n (pc := 51) dX12_setsOut_51 rfl rfl ?_
    refine S_get (pc := 52) (v := .int (f2 B 57)) dX12_setsOut_52 flX12_188 (sM_0 hs) rfl ?_
    refine S_if_ne (pc := 55) (tgt := 74) dX12_setsOut_55 rfl (fun hc5 => ?_) (fun hc5 => ?_)
    · replace H := H.1 hc5
      exact S_vreturn dX12_setsOut_74 rfl H
    · replace H := H.2 hc5
      refine S_iload_n (pc := 58) dX12_setsOut_58 rfl rfl ?_
      refine S_if_le (pc := 59) (tgt := 74) dX12_setsOut_59 rfl (fun hc6 => ?_) (fun hc6 => ?_)
      · replace H := H.1 hc6
        exact S_vreturn dX12_setsOut_74 rfl H
      · replace H := H.2 hc6
        refine S_iload_n (pc := 62) dX12_setsOut_62 rfl rfl ?_
        refine S_iconst (pc := 63) dX12_setsOut_63 icm1 ?_
        refine S_icmp_eq (pc := 64) (tgt := 74) dX12_setsOut_64 rfl (fun hc7 => ?_) (fun hc7 => ?_)
        · replace H := H.1 hc7
          exact S_vreturn dX12_setsOut_74 rfl H
        · replace H := H.2 hc7
          refine S_aload_n (pc := 67) dX12_setsOut_67 rfl rfl ?_
          refine S_iload_n (pc := 68) dX12_setsOut_68 rfl rfl ?_
          refine S_iload_n (pc := 69) dX12_setsOut_69 rfl rfl ?_
          refine S_iconst (pc := 70) dX12_setsOut_70 icm1 ?_
          refine S_callV (As := [.int a1, .int x4, .int (-1)]) (mc := 0) (ms := 0) (pc := 71) dX12_setsOut_71 miX12_answers mvX12_answers mlX12_498 rfl (sM_0 hs) rfl rfl rfl (RmOK.of rfl) H ?_
          rintro _ _ ⟨f8, g9, rfl, rfl, H⟩
          show WP _ _ _ _ _ _ _ 74 [some (.ref B), some (.int a1), some (.int a2), some (.int x4)] [] (sh, f8, g9, fR)
          exact S_vreturn dX12_setsOut_74 rfl H
  · replace H := H.2 hc1
    refine S_aload_n (pc := 10) dX12_setsOut_10 rfl rfl ?_
    refine S_iload_n (pc := 11) dX12_setsOut_11 rfl rfl ?_
    refine S_aload_n (pc := 12) dX12_setsOut_12 rfl rfl ?_
    refine S_iload_n (pc := 13) dX12_setsOut_13 rfl rfl ?_
    refine S_aload_n (pc := 14) dX12_setsOut_14 rfl rfl ?_
    refine S_getR (pc := 15) dX12_setsOut_15 flX12_185 (sM_0 hs) rfl (rM_56 hs) ?_
    refine S_iload_n (pc := 18) dX12_setsOut_18 rfl rfl ?_
    obtain ⟨hb10, H⟩ := H
    refine S_iald (pc := 19) dX12_setsOut_19 (sM_32 hs) hb10 ?_
    refine S_iconst (pc := 20) dX12_setsOut_20 ic0 ?_
    refine S_callV (As := [.int a1, .int (f (B + 32) a3.toNatClampNeg), .int (nI 0)]) (mc := 0) (ms := 0) (pc := 21) dX12_setsOut_21 miX12_s mvX12_s mlX12_445 rfl (sM_0 hs) rfl rfl rfl (RmOK.of rfl) (Q := fun r h => WP _ _ _ _ _ _ _ 24 [some (.ref B), some (.int a1), some (.int a2), some (.int a3)] (r.toList ++ [.int a1, .ref B]) h) (Cl.of miX12_s rfl rfl ?_) (fun _ _ q => q)
    refine S_aload_n (pc := 0) dX12_s_0 rfl rfl ?_
    refine S_getR (pc := 1) dX12_s_1 flX12_148 (sM_0 hs) rfl (rM_44 hs) ?_
    refine S_bipush (pc := 4) dX12_s_4 bp8 ?_
    refine S_sipush (pc := 6) dX12_s_6 sp480 ?_
    refine S_iload_n (pc := 9) dX12_s_9 rfl rfl ?_
    refine S_imul (pc := 10) dX12_s_10 ?_
    refine S_iload_n (pc := 11) dX12_s_11 rfl rfl ?_
    refine S_iadd (pc := 12) dX12_s_12 ?_
    refine S_imul (pc := 13) dX12_s_13 ?_
    refine S_iload_n (pc := 14) dX12_s_14 rfl rfl ?_
    refine S_iadd (pc := 15) dX12_s_15 ?_
    obtain ⟨hb11, H⟩ := H
    refine S_iald (pc := 16) dX12_s_16 (sM_24 hs) hb11 ?_
    refine S_ireturn dX12_s_17 rfl ?_
    show WP _ _ _ _ _ _ _ 24 [some (.ref B), some (.int a1), some (.int a2), some (.int a3)] [.int (f (B + 24) (((nI 8) * (((nI 480) * a1) + (f (B + 32) a3.toNatClampNeg))) + (nI 0)).toNatClampNeg), .int a1, .ref B] (sh, f, g, fR)
    refine S_aload_n (pc := 24) dX12_setsOut_24 rfl rfl ?_
    refine S_iload_n (pc := 25) dX12_setsOut_25 rfl rfl ?_
    refine S_aload_n (pc := 26) dX12_setsOut_26 rfl rfl ?_
    refine S_getR (pc := 27) dX12_setsOut_27 flX12_185 (sM_0 hs) rfl (rM_56 hs) ?_
    refine S_iload_n (pc := 30) dX12_setsOut_30 rfl rfl ?_
    obtain ⟨hb12, H⟩ := H
    refine S_iald (pc := 31) dX12_setsOut_31 (sM_32 hs) hb12 ?_
    refine S_iconst (pc := 32) dX12_setsOut_32 ic1 ?_
    refine S_callV (As := [.int a1, .int (f (B + 32) a3.toNatClampNeg), .int (nI 1)]) (mc := 0) (ms := 0) (pc := 33) dX12_setsOut_33 miX12_s mvX12_s mlX12_445 rfl (sM_0 hs) rfl rfl rfl (RmOK.of rfl) (Q := fun r h => WP _ _ _ _ _ _ _ 36 [some (.ref B), some (.int a1), some (.int a2), some (.int a3)] (r.toList ++ [.int (f (B + 24) (((nI 8) * (((nI 480) * a1) + (f (B + 32) a3.toNatClampNeg))) + (nI 0)).toNatClampNeg), .int a1, .ref B]) h) (Cl.of miX12_s rfl rfl ?_) (fun _ _ q => q)
    refine S_aload_n (pc := 0) dX12_s_0 rfl rfl ?_
    refine S_getR (pc := 1) dX12_s_1 flX12_148 (sM_0 hs) rfl (rM_44 hs) ?_
    refine S_bipush (pc := 4) dX12_s_4 bp8 ?_
    refine S_sipush (pc := 6) dX12_s_6 sp480 ?_
    refine S_iload_n (pc := 9) dX12_s_9 rfl rfl ?_
    refine S_imul (pc := 10) dX12_s_10 ?_
    refine S_iload_n (pc := 11) dX12_s_11 rfl rfl ?_
    refine S_iadd (pc := 12) dX12_s_12 ?_
    refine S_imul (pc := 13) dX12_s_13 ?_
    refine S_iload_n (pc := 14) dX12_s_14 rfl rfl ?_
    refine S_iadd (pc := 15) dX12_s_15 ?_
    obtain ⟨hb13, H⟩ := H
    refine S_iald (pc := 16) dX12_s_16 (sM_24 hs) hb13 ?_
    refine S_ireturn dX12_s_17 rfl ?_
    show WP _ _ _ _ _ _ _ 36 [some (.ref B), some (.int a1), some (.int a2), some (.int a3)] [.int (f (B + 24) (((nI 8) * (((nI 480) * a1) + (f (B + 32) a3.toNatClampNeg))) + (nI 1)).toNatClampNeg), .int (f (B + 24) (((nI 8) * (((nI 480) * a1) + (f (B + 32) a3.toNatClampNeg))) + (nI 0)).toNatClampNeg), .int a1, .ref B] (sh, f, g, fR)
    refine S_callV (As := [.int a1, .int (f (B + 24) (((nI 8) * (((nI 480) * a1) + (f (B + 32) a3.toNatClampNeg))) + (nI 0)).toNatClampNeg), .int (f (B + 24) (((nI 8) * (((nI 480) * a1) + (f (B + 32) a3.toNatClampNeg))) + (nI 1)).toNatClampNeg)]) (mc := 0) (ms := 0) (pc := 36) dX12_setsOut_36 miX12_answers mvX12_answers mlX12_498 rfl (sM_0 hs) rfl rfl rfl (RmOK.of rfl) H ?_
    rintro _ _ ⟨f14, g15, rfl, rfl, H⟩
    show WP _ _ _ _ _ _ _ 39 [some (.ref B), some (.int a1), some (.int a2), some (.int a3)] [] (sh, f14, g15, fR)
    refine S_iinc (pc := 39) (v := nI 1) (L' := [some (.ref B), some (.int a1), some (.int a2), some (.int (a3 + nI 1))]) dX12_setsOut_39 rfl ic1 rfl ?_
    refine S_goto (pc := 42) (tgt := 2) dX12_setsOut_42 rfl ?_
    exact H
set_option maxHeartbeats 2000000 in
set_option maxRecDepth 4000 in
theorem VX12_again {l : Launch} {G : Gx} {d : Nat} {Q : Option Value → Hp → Prop} {sh : Sh} {fR : FRt} {B : Nat} {f : FI} {g : FL} {a1 : Int32} {a2 : Int32} (hs : StM sh fR B)
    (H : inb (((nI 8) * (((nI 480) * a1) + a2)) + (nI 6)) 84480 ∧ inb (((nI 40) * a1) + (nI 7)) 880 ∧ (∀ w3 : Int32, w3 = (nI 2) * (((nI 480) * a1) + (f (B + 23) (((nI 40) * a1) + (nI 7)).toNatClampNeg)) → inb (((nI 8) * (((nI 480) * a1) + a2)) + (nI 2)) 84480 ∧ inb w3 21120 ∧ inb (((nI 8) * (((nI 480) * a1) + a2)) + (nI 3)) 84480 ∧ inb (w3 + (nI 1)) 21120 ∧ inb (((nI 40) * a1) + (nI 7)) 880 ∧ inb (((nI 40) * a1) + (nI 7)) 880 ∧ Q none (sh, (up2 (up2 (up2 (up2 f (B + 24) (((nI 8) * (((nI 480) * a1) + a2)) + (nI 6)).toNatClampNeg (nI 0)) (B + 25) w3.toNatClampNeg ((up2 f (B + 24) (((nI 8) * (((nI 480) * a1) + a2)) + (nI 6)).toNatClampNeg (nI 0)) (B + 24) (((nI 8) * (((nI 480) * a1) + a2)) + (nI 2)).toNatClampNeg)) (B + 25) (w3 + (nI 1)).toNatClampNeg ((up2 f (B + 24) (((nI 8) * (((nI 480) * a1) + a2)) + (nI 6)).toNatClampNeg (nI 0)) (B + 24) (((nI 8) * (((nI 480) * a1) + a2)) + (nI 3)).toNatClampNeg)) (B + 23) (((nI 40) * a1) + (nI 7)).toNatClampNeg ((f (B + 23) (((nI 40) * a1) + (nI 7)).toNatClampNeg) + (nI 1))), g, fR))) :
    Cl l G (d + 1) 0 0 mX12_again [.ref B, .int a1, .int a2] (sh, f, g, fR) Q := by
  refine Cl.of (L0 := [some (.ref B), some (.int a1), some (.int a2), none]) miX12_again rfl rfl ?_
  refine S_aload_n (pc := 0) dX12_again_0 rfl rfl ?_
  refine S_iload_n (pc := 1) dX12_again_1 rfl rfl ?_
  refine S_iload_n (pc := 2) dX12_again_2 rfl rfl ?_
  refine S_bipush (pc := 3) dX12_again_3 bp6 ?_
  refine S_iconst (pc := 5) dX12_again_5 ic0 ?_
  refine S_callV (As := [.int a1, .int a2, .int (nI 6), .int (nI 0)]) (mc := 0) (ms := 0) (pc := 6) dX12_again_6 miX12_setsSegment mvX12_setsSegment mlX12_482 rfl (sM_0 hs) rfl rfl rfl (RmOK.of rfl) (Q := fun r h => WP _ _ _ _ _ _ _ 9 [some (.ref B), some (.int a1), some (.int a2), none] (r.toList ++ []) h) (Cl.of miX12_setsSegment rfl rfl ?_) (fun _ _ q => q)
  refine S_aload_n (pc := 0) dX12_setsSegment_0 rfl rfl ?_
  refine S_getR (pc := 1) dX12_setsSegment_1 flX12_148 (sM_0 hs) rfl (rM_44 hs) ?_
  refine S_bipush (pc := 4) dX12_setsSegment_4 bp8 ?_
  refine S_sipush (pc := 6) dX12_setsSegment_6 sp480 ?_
  refine S_iload_n (pc := 9) dX12_setsSegment_9 rfl rfl ?_
  refine S_imul (pc := 10) dX12_setsSegment_10 ?_
  refine S_iload_n (pc := 11) dX12_setsSegment_11 rfl rfl ?_
  refine S_iadd (pc := 12) dX12_setsSegment_12 ?_
  refine S_imul (pc := 13) dX12_setsSegment_13 ?_
  refine S_iload_n (pc := 14) dX12_setsSegment_14 rfl rfl ?_
  refine S_iadd (pc := 15) dX12_setsSegment_15 ?_
  refine S_iload (pc := 16) dX12_setsSegment_16 rfl ?_
  obtain ⟨hb1, H⟩ := H
  refine S_iast (pc := 18) dX12_setsSegment_18 (sM_24 hs) (Nat.succ_pos _) hb1 ?_
  refine S_vreturn dX12_setsSegment_19 rfl ?_
  show WP _ _ _ _ _ _ _ 9 [some (.ref B), some (.int a1), some (.int a2), none] [] (sh, (up2 f (B + 24) (((nI 8) * (((nI 480) * a1) + a2)) + (nI 6)).toNatClampNeg (nI 0)), g, fR)
  refine S_iconst (pc := 9) dX12_again_9 ic2 ?_
  refine S_sipush (pc := 10) dX12_again_10 sp480 ?_
  refine S_iload_n (pc := 13) dX12_again_13 rfl rfl ?_
  refine S_imul (pc := 14) dX12_again_14 ?_
  refine S_aload_n (pc := 15) dX12_again_15 rfl rfl ?_
  refine S_iload_n (pc := 16) dX12_again_16 rfl rfl ?_
  refine S_bipush (pc := 17) dX12_again_17 bp7 ?_
  refine S_callV (As := [.int a1, .int (nI 7)]) (mc := 0) (ms := 0) (pc := 19) dX12_again_19 miX12_n mvX12_n mlX12_402 rfl (sM_0 hs) rfl rfl rfl (RmOK.of rfl) (Q := fun r h => WP _ _ _ _ _ _ _ 22 [some (.ref B), some (.int a1), some (.int a2), none] (r.toList ++ [.int ((nI 480) * a1), .int (nI 2)]) h) (Cl.of miX12_n rfl rfl ?_) (fun _ _ q => q)
  refine S_aload_n (pc := 0) dX12_n_0 rfl rfl ?_
  refine S_getR (pc := 1) dX12_n_1 flX12_144 (sM_0 hs) rfl (rM_43 hs) ?_
  refine S_bipush (pc := 4) dX12_n_4 bp40 ?_
  refine S_iload_n (pc := 6) dX12_n_6 rfl rfl ?_
  refine S_imul (pc := 7) dX12_n_7 ?_
  refine S_iload_n (pc := 8) dX12_n_8 rfl rfl ?_
  refine S_iadd (pc := 9) dX12_n_9 ?_
  obtain ⟨hb2, H⟩ := H
  refine S_iald (pc := 10) dX12_n_10 (sM_23 hs) hb2 ?_
  refine S_eqi (x := f (B + 23) (((nI 40) * a1) + (nI 7)).toNatClampNeg) ((up2_r (by omega)).trans rfl) ?_
  refine S_ireturn dX12_n_11 rfl ?_
  show WP _ _ _ _ _ _ _ 22 [some (.ref B), some (.int a1), some (.int a2), none] [.int (f (B + 23) (((nI 40) * a1) + (nI 7)).toNatClampNeg), .int ((nI 480) * a1), .int (nI 2)] (sh, (up2 f (B + 24) (((nI 8) * (((nI 480) * a1) + a2)) + (nI 6)).toNatClampNeg (nI 0)), g, fR)
  refine S_iadd (pc := 22) dX12_again_22 ?_
  refine S_imul (pc := 23) dX12_again_23 ?_
  refine S_namei (fun w3 e4 => ?_)
  replace H := H w3 e4
  refine S_istore_n (pc := 24) (L' := [some (.ref B), some (.int a1), some (.int a2), some (.int w3)]) dX12_again_24 rfl (by decide) rfl ?_
  refine S_aload_n (pc := 25) dX12_again_25 rfl rfl ?_
  refine S_getR (pc := 26) dX12_again_26 flX12_151 (sM_0 hs) rfl (rM_45 hs) ?_
  refine S_iload_n (pc := 29) dX12_again_29 rfl rfl ?_
  refine S_aload_n (pc := 30) dX12_again_30 rfl rfl ?_
  refine S_iload_n (pc := 31) dX12_again_31 rfl rfl ?_
  refine S_iload_n (pc := 32) dX12_again_32 rfl rfl ?_
  refine S_iconst (pc := 33) dX12_again_33 ic2 ?_
  refine S_callV (As := [.int a1, .int a2, .int (nI 2)]) (mc := 0) (ms := 0) (pc := 34) dX12_again_34 miX12_s mvX12_s mlX12_445 rfl (sM_0 hs) rfl rfl rfl (RmOK.of rfl) (Q := fun r h => WP _ _ _ _ _ _ _ 37 [some (.ref B), some (.int a1), some (.int a2), some (.int w3)] (r.toList ++ [.int w3, .ref (B + 25)]) h) (Cl.of miX12_s rfl rfl ?_) (fun _ _ q => q)
  refine S_aload_n (pc := 0) dX12_s_0 rfl rfl ?_
  refine S_getR (pc := 1) dX12_s_1 flX12_148 (sM_0 hs) rfl (rM_44 hs) ?_
  refine S_bipush (pc := 4) dX12_s_4 bp8 ?_
  refine S_sipush (pc := 6) dX12_s_6 sp480 ?_
  refine S_iload_n (pc := 9) dX12_s_9 rfl rfl ?_
  refine S_imul (pc := 10) dX12_s_10 ?_
  refine S_iload_n (pc := 11) dX12_s_11 rfl rfl ?_
  refine S_iadd (pc := 12) dX12_s_12 ?_
  refine S_imul (pc := 13) dX12_s_13 ?_
  refine S_iload_n (pc := 14) dX12_s_14 rfl rfl ?_
  refine S_iadd (pc := 15) dX12_s_15 ?_
  obtain ⟨hb5, H⟩ := H
  refine S_iald (pc := 16) dX12_s_16 (sM_24 hs) hb5 ?_
  refine S_ireturn dX12_s_17 rfl ?_
  show WP _ _ _ _ _ _ _ 37 [some (.ref B), some (.int a1), some (.int a2), some (.int w3)] [.int ((up2 f (B + 24) (((nI 8) * (((nI 480) * a1) + a2)) + (nI 6)).toNatClampNeg (nI 0)) (B + 24) (((nI 8) * (((nI 480) * a1) + a2)) + (nI 2)).toNatClampNeg), .int w3, .ref (B + 25)] (sh, (up2 f (B + 24) (((nI 8) * (((nI 480) * a1) + a2)) + (nI 6)).toNatClampNeg (nI 0)), g, fR)
  obtain ⟨hb6, H⟩ := H
  refine S_iast (pc := 37) dX12_again_37 (sM_25 hs) (Nat.succ_pos _) hb6 ?_
  refine S_aload_n (pc := 38) dX12_again_38 rfl rfl ?_
  refine S_getR (pc := 39) dX12_again_39 flX12_151 (sM_0 hs) rfl (rM_45 hs) ?_
  refine S_iload_n (pc := 42) dX12_again_42 rfl rfl ?_
  refine S_iconst (pc := 43) dX12_again_43 ic1 ?_
  refine S_iadd (pc := 44) dX12_again_44 ?_
  refine S_aload_n (pc := 45) dX12_again_45 rfl rfl ?_
  refine S_iload_n (pc := 46) dX12_again_46 rfl rfl ?_
  refine S_iload_n (pc := 47) dX12_again_47 rfl rfl ?_
  refine S_iconst (pc := 48) dX12_again_48 ic3 ?_
  refine S_callV (As := [.int a1, .int a2, .int (nI 3)]) (mc := 0) (ms := 0) (pc := 49) dX12_again_49 miX12_s mvX12_s mlX12_445 rfl (sM_0 hs) rfl rfl rfl (RmOK.of rfl) (Q := fun r h => WP _ _ _ _ _ _ _ 52 [some (.ref B), some (.int a1), some (.int a2), some (.int w3)] (r.toList ++ [.int (w3 + (nI 1)), .ref (B + 25)]) h) (Cl.of miX12_s rfl rfl ?_) (fun _ _ q => q)
  refine S_aload_n (pc := 0) dX12_s_0 rfl rfl ?_
  refine S_getR (pc := 1) dX12_s_1 flX12_148 (sM_0 hs) rfl (rM_44 hs) ?_
  refine S_bipush (pc := 4) dX12_s_4 bp8 ?_
  refine S_sipush (pc := 6) dX12_s_6 sp480 ?_
  refine S_iload_n (pc := 9) dX12_s_9 rfl rfl ?_
  refine S_imul (pc := 10) dX12_s_10 ?_
  refine S_iload_n (pc := 11) dX12_s_11 rfl rfl ?_
  refine S_iadd (pc := 12) dX12_s_12 ?_
  refine S_imul (pc := 13) dX12_s_13 ?_
  refine S_iload_n (pc := 14) dX12_s_14 rfl rfl ?_
  refine S_iadd (pc := 15) dX12_s_15 ?_
  obtain ⟨hb7, H⟩ := H
  refine S_iald (pc := 16) dX12_s_16 (sM_24 hs) hb7 ?_
  refine S_eqi (x := (up2 f (B + 24) (((nI 8) * (((nI 480) * a1) + a2)) + (nI 6)).toNatClampNeg (nI 0)) (B + 24) (((nI 8) * (((nI 480) * a1) + a2)) + (nI 3)).toNatClampNeg) ((up2_r (by omega)).trans rfl) ?_
  refine S_ireturn dX12_s_17 rfl ?_
  show WP _ _ _ _ _ _ _ 52 [some (.ref B), some (.int a1), some (.int a2), some (.int w3)] [.int ((up2 f (B + 24) (((nI 8) * (((nI 480) * a1) + a2)) + (nI 6)).toNatClampNeg (nI 0)) (B + 24) (((nI 8) * (((nI 480) * a1) + a2)) + (nI 3)).toNatClampNeg), .int (w3 + (nI 1)), .ref (B + 25)] (sh, (up2 (up2 f (B + 24) (((nI 8) * (((nI 480) * a1) + a2)) + (nI 6)).toNatClampNeg (nI 0)) (B + 25) w3.toNatClampNeg ((up2 f (B + 24) (((nI 8) * (((nI 480) * a1) + a2)) + (nI 6)).toNatClampNeg (nI 0)) (B + 24) (((nI 8) * (((nI 480) * a1) + a2)) + (nI 2)).toNatClampNeg)), g, fR)
  obtain ⟨hb8, H⟩ := H
  refine S_iast (pc := 52) dX12_again_52 (sM_25 hs) (Nat.succ_pos _) hb8 ?_
  refine S_aload_n (pc := 53) dX12_again_53 rfl rfl ?_
  refine S_iload_n (pc := 54) dX12_again_54 rfl rfl ?_
  refine S_bipush (pc := 55) dX12_again_55 bp7 ?_
  refine S_aload_n (pc := 57) dX12_again_57 rfl rfl ?_
  refine S_iload_n (pc := 58) dX12_again_58 rfl rfl ?_
  refine S_bipush (pc := 59) dX12_again_59 bp7 ?_
  refine S_callV (As := [.int a1, .int (nI 7)]) (mc := 0) (ms := 0) (pc := 61) dX12_again_61 miX12_n mvX12_n mlX12_402 rfl (sM_0 hs) rfl rfl rfl (RmOK.of rfl) (Q := fun r h => WP _ _ _ _ _ _ _ 64 [some (.ref B), some (.int a1), some (.int a2), some (.int w3)] (r.toList ++ [.int (nI 7), .int a1, .ref B]) h) (Cl.of miX12_n rfl rfl ?_) (fun _ _ q => q)
  refine S_aload_n (pc := 0) dX12_n_0 rfl rfl ?_
  refine S_getR (pc := 1) dX12_n_1 flX12_144 (sM_0 hs) rfl (rM_43 hs) ?_
  refine S_bipush (pc := 4) dX12_n_4 bp40 ?_
  refine S_iload_n (pc := 6) dX12_n_6 rfl rfl ?_
  refine S_imul (pc := 7) dX12_n_7 ?_
  refine S_iload_n (pc := 8) dX12_n_8 rfl rfl ?_
  refine S_iadd (pc := 9) dX12_n_9 ?_
  obtain ⟨hb9, H⟩ := H
  refine S_iald (pc := 10) dX12_n_10 (sM_23 hs) hb9 ?_
  refine S_eqi (x := f (B + 23) (((nI 40) * a1) + (nI 7)).toNatClampNeg) ((up2_r (by omega)).trans ((up2_r (by omega)).trans ((up2_r (by omega)).trans rfl))) ?_
  refine S_ireturn dX12_n_11 rfl ?_
  show WP _ _ _ _ _ _ _ 64 [some (.ref B), some (.int a1), some (.int a2), some (.int w3)] [.int (f (B + 23) (((nI 40) * a1) + (nI 7)).toNatClampNeg), .int (nI 7), .int a1, .ref B] (sh, (up2 (up2 (up2 f (B + 24) (((nI 8) * (((nI 480) * a1) + a2)) + (nI 6)).toNatClampNeg (nI 0)) (B + 25) w3.toNatClampNeg ((up2 f (B + 24) (((nI 8) * (((nI 480) * a1) + a2)) + (nI 6)).toNatClampNeg (nI 0)) (B + 24) (((nI 8) * (((nI 480) * a1) + a2)) + (nI 2)).toNatClampNeg)) (B + 25) (w3 + (nI 1)).toNatClampNeg ((up2 f (B + 24) (((nI 8) * (((nI 480) * a1) + a2)) + (nI 6)).toNatClampNeg (nI 0)) (B + 24) (((nI 8) * (((nI 480) * a1) + a2)) + (nI 3)).toNatClampNeg)), g, fR)
  refine S_iconst (pc := 64) dX12_again_64 ic1 ?_
  refine S_iadd (pc := 65) dX12_again_65 ?_
  refine S_callV (As := [.int a1, .int (nI 7), .int ((f (B + 23) (((nI 40) * a1) + (nI 7)).toNatClampNeg) + (nI 1))]) (mc := 0) (ms := 0) (pc := 66) dX12_again_66 miX12_sets mvX12_sets mlX12_405 rfl (sM_0 hs) rfl rfl rfl (RmOK.of rfl) (Q := fun r h => WP _ _ _ _ _ _ _ 69 [some (.ref B), some (.int a1), some (.int a2), some (.int w3)] (r.toList ++ []) h) (Cl.of miX12_sets rfl rfl ?_) (fun _ _ q => q)
  refine S_aload_n (pc := 0) dX12_sets_0 rfl rfl ?_
  refine S_getR (pc := 1) dX12_sets_1 flX12_144 (sM_0 hs) rfl (rM_43 hs) ?_
  refine S_bipush (pc := 4) dX12_sets_4 bp40 ?_
  refine S_iload_n (pc := 6) dX12_sets_6 rfl rfl ?_
  refine S_imul (pc := 7) dX12_sets_7 ?_
  refine S_iload_n (pc := 8) dX12_sets_8 rfl rfl ?_
  refine S_iadd (pc := 9) dX12_sets_9 ?_
  refine S_iload_n (pc := 10) dX12_sets_10 rfl rfl ?_
  obtain ⟨hb10, H⟩ := H
  refine S_iast (pc := 11) dX12_sets_11 (sM_23 hs) (Nat.succ_pos _) hb10 ?_
  refine S_vreturn dX12_sets_12 rfl ?_
  show WP _ _ _ _ _ _ _ 69 [some (.ref B), some (.int a1), some (.int a2), some (.int w3)] [] (sh, (up2 (up2 (up2 (up2 f (B + 24) (((nI 8) * (((nI 480) * a1) + a2)) + (nI 6)).toNatClampNeg (nI 0)) (B + 25) w3.toNatClampNeg ((up2 f (B + 24) (((nI 8) * (((nI 480) * a1) + a2)) + (nI 6)).toNatClampNeg (nI 0)) (B + 24) (((nI 8) * (((nI 480) * a1) + a2)) + (nI 2)).toNatClampNeg)) (B + 25) (w3 + (nI 1)).toNatClampNeg ((up2 f (B + 24) (((nI 8) * (((nI 480) * a1) + a2)) + (nI 6)).toNatClampNeg (nI 0)) (B + 24) (((nI 8) * (((nI 480) * a1) + a2)) + (nI 3)).toNatClampNeg)) (B + 23) (((nI 40) * a1) + (nI 7)).toNatClampNeg ((f (B + 23) (((nI 40) * a1) + (nI 7)).toNatClampNeg) + (nI 1))), g, fR)
  exact S_vreturn dX12_again_69 rfl H
abbrev LpX12_dies_35 (l : Launch) (G : Gx) (d : Nat) (Q : Option Value → Hp → Prop) (sh : Sh) (fR : FRt) (B : Nat) (f : FI) (g : FL) (a1 : Int32) (a2 : Int32) (a3 : Int32) : Prop := WP l G (Zq G 0 0 Q) mX12_dies (rmd (d + 2) 0 0) 0 0 35 [some (.ref B), some (.int a1), some (.int a2), some (.int a3)] [] (sh, f, g, fR)
abbrev LpX12_dies_75 (l : Launch) (G : Gx) (d : Nat) (Q : Option Value → Hp → Prop) (sh : Sh) (fR : FRt) (B : Nat) (f : FI) (g : FL) (a1 : Int32) (a2 : Int32) (a3 : Int32) : Prop := WP l G (Zq G 0 0 Q) mX12_dies (rmd (d + 2) 0 0) 0 0 75 [some (.ref B), some (.int a1), some (.int a2), some (.int a3)] [] (sh, f, g, fR)
set_option maxHeartbeats 2000000 in
set_option maxRecDepth 4000 in
theorem VX12_dies {l : Launch} {G : Gx} {d : Nat} {Q : Option Value → Hp → Prop} {sh : Sh} {fR : FRt} {B : Nat} {f : FI} {g : FL} {a1 : Int32} {a2 : Int32} (hs : StM sh fR B)
    (H : inb (((((nI 40) * a1) + (nI 14)) + ((nI 6) * a2)) + (nI 1)) 880 ∧ ((¬ (f (B + 23) (((((nI 40) * a1) + (nI 14)) + ((nI 6) * a2)) + (nI 1)).toNatClampNeg) = (nI 1) → inb (((((nI 40) * a1) + (nI 14)) + ((nI 6) * a2)) + (nI 1)) 880 ∧ inb (((nI 40) * a1) + (nI 0)) 880 ∧ Cl l G (d + 1) 0 0 mX12_writesDown [.ref B, .int a1, .int (nI 2), .int a2, .int ((up2 f (B + 23) (((((nI 40) * a1) + (nI 14)) + ((nI 6) * a2)) + (nI 1)).toNatClampNeg (nI 1)) (B + 23) (((nI 40) * a1) + (nI 0)).toNatClampNeg)] (sh, (up2 f (B + 23) (((((nI 40) * a1) + (nI 14)) + ((nI 6) * a2)) + (nI 1)).toNatClampNeg (nI 1)), g, fR) (qv sh fR fun f5 g6 => LpX12_dies_35 l G d Q sh fR B f5 g6 a1 a2 (nI 0))) ∧ ((f (B + 23) (((((nI 40) * a1) + (nI 14)) + ((nI 6) * a2)) + (nI 1)).toNatClampNeg) = (nI 1) → Q none (sh, f, g, fR)))) :
    Cl l G (d + 2) 0 0 mX12_dies [.ref B, .int a1, .int a2] (sh, f, g, fR) Q := by
  refine Cl.of (L0 := [some (.ref B), some (.int a1), some (.int a2), none]) miX12_dies rfl rfl ?_
  refine S_aload_n (pc := 0) dX12_dies_0 rfl rfl ?_
  refine S_iload_n (pc := 1) dX12_dies_1 rfl rfl ?_
  refine S_iload_n (pc := 2) dX12_dies_2 rfl rfl ?_
  refine S_iconst (pc := 3) dX12_dies_3 ic1 ?_
  refine S_callV (As := [.int a1, .int a2, .int (nI 1)]) (mc := 0) (ms := 0) (pc := 4) dX12_dies_4 miX12_p mvX12_p mlX12_438 rfl (sM_0 hs) rfl rfl rfl (RmOK.of rfl) (Q := fun r h => WP _ _ _ _ _ _ _ 7 [some (.ref B), some (.int a1), some (.int a2), none] (r.toList ++ []) h) (Cl.of miX12_p rfl rfl ?_) (fun _ _ q => q)
  refine S_aload_n (pc := 0) dX12_p_0 rfl rfl ?_
  refine S_getR (pc := 1) dX12_p_1 flX12_144 (sM_0 hs) rfl (rM_43 hs) ?_
  refine S_bipush (pc := 4) dX12_p_4 bp40 ?_
  refine S_iload_n (pc := 6) dX12_p_6 rfl rfl ?_
  refine S_imul (pc := 7) dX12_p_7 ?_
  refine S_bipush (pc := 8) dX12_p_8 bp14 ?_
  refine S_iadd (pc := 10) dX12_p_10 ?_
  refine S_bipush (pc := 11) dX12_p_11 bp6 ?_
  refine S_iload_n (pc := 13) dX12_p_13 rfl rfl ?_
  refine S_imul (pc := 14) dX12_p_14 ?_
  refine S_iadd (pc := 15) dX12_p_15 ?_
  refine S_iload_n (pc := 16) dX12_p_16 rfl rfl ?_
  refine S_iadd (pc := 17) dX12_p_17 ?_
  obtain ⟨hb1, H⟩ := H
  refine S_iald (pc := 18) dX12_p_18 (sM_23 hs) hb1 ?_
  refine S_ireturn dX12_p_19 rfl ?_
  show WP _ _ _ _ _ _ _ 7 [some (.ref B), some (.int a1), some (.int a2), none] [.int (f (B + 23) (((((nI 40) * a1) + (nI 14)) + ((nI 6) * a2)) + (nI 1)).toNatClampNeg)] (sh, f, g, fR)
  refine S_iconst (pc := 7) dX12_dies_7 ic1 ?_
  refine S_icmp_ne (pc := 8) (tgt := 12) dX12_dies_8 rfl (fun hc2 => ?_) (fun hc2 => ?_)
  · replace H := H.1 hc2
    refine S_aload_n (pc := 12) dX12_dies_12 rfl rfl ?_
    refine S_iload_n (pc := 13) dX12_dies_13 rfl rfl ?_
    refine S_iload_n (pc := 14) dX12_dies_14 rfl rfl ?_
    refine S_iconst (pc := 15) dX12_dies_15 ic1 ?_
    refine S_iconst (pc := 16) dX12_dies_16 ic1 ?_
    refine S_callV (As := [.int a1, .int a2, .int (nI 1), .int (nI 1)]) (mc := 0) (ms := 0) (pc := 17) dX12_dies_17 miX12_setsPath mvX12_setsPath mlX12_412 rfl (sM_0 hs) rfl rfl rfl (RmOK.of rfl) (Q := fun r h => WP _ _ _ _ _ _ _ 20 [some (.ref B), some (.int a1), some (.int a2), none] (r.toList ++ []) h) (Cl.of miX12_setsPath rfl rfl ?_) (fun _ _ q => q)
    refine S_aload_n (pc := 0) dX12_setsPath_0 rfl rfl ?_
    refine S_getR (pc := 1) dX12_setsPath_1 flX12_144 (sM_0 hs) rfl (rM_43 hs) ?_
    refine S_bipush (pc := 4) dX12_setsPath_4 bp40 ?_
    refine S_iload_n (pc := 6) dX12_setsPath_6 rfl rfl ?_
    refine S_imul (pc := 7) dX12_setsPath_7 ?_
    refine S_bipush (pc := 8) dX12_setsPath_8 bp14 ?_
    refine S_iadd (pc := 10) dX12_setsPath_10 ?_
    refine S_bipush (pc := 11) dX12_setsPath_11 bp6 ?_
    refine S_iload_n (pc := 13) dX12_setsPath_13 rfl rfl ?_
    refine S_imul (pc := 14) dX12_setsPath_14 ?_
    refine S_iadd (pc := 15) dX12_setsPath_15 ?_
    refine S_iload_n (pc := 16) dX12_setsPath_16 rfl rfl ?_
    refine S_iadd (pc := 17) dX12_setsPath_17 ?_
    refine S_iload (pc := 18) dX12_setsPath_18 rfl ?_
    obtain ⟨hb3, H⟩ := H
    refine S_iast (pc := 20) dX12_setsPath_20 (sM_23 hs) (Nat.succ_pos _) hb3 ?_
    refine S_vreturn dX12_setsPath_21 rfl ?_
    show WP _ _ _ _ _ _ _ 20 [some (.ref B), some (.int a1), some (.int a2), none] [] (sh, (up2 f (B + 23) (((((nI 40) * a1) + (nI 14)) + ((nI 6) * a2)) + (nI 1)).toNatClampNeg (nI 1)), g, fR)
    refine S_aload_n (pc := 20) dX12_dies_20 rfl rfl ?_
    refine S_iload_n (pc := 21) dX12_dies_21 rfl rfl ?_
    refine S_iconst (pc := 22) dX12_dies_22 ic2 ?_
    refine S_iload_n (pc := 23) dX12_dies_23 rfl rfl ?_
    refine S_aload_n (pc := 24) dX12_dies_24 rfl rfl ?_
    refine S_iload_n (pc := 25) dX12_dies_25 rfl rfl ?_
    refine S_iconst (pc := 26) dX12_dies_26 ic0 ?_
    refine S_callV (As := [.int a1, .int (nI 0)]) (mc := 0) (ms := 0) (pc := 27) dX12_dies_27 miX12_n mvX12_n mlX12_402 rfl (sM_0 hs) rfl rfl rfl (RmOK.of rfl) (Q := fun r h => WP _ _ _ _ _ _ _ 30 [some (.ref B), some (.int a1), some (.int a2), none] (r.toList ++ [.int a2, .int (nI 2), .int a1, .ref B]) h) (Cl.of miX12_n rfl rfl ?_) (fun _ _ q => q)
    refine S_aload_n (pc := 0) dX12_n_0 rfl rfl ?_
    refine S_getR (pc := 1) dX12_n_1 flX12_144 (sM_0 hs) rfl (rM_43 hs) ?_
    refine S_bipush (pc := 4) dX12_n_4 bp40 ?_
    refine S_iload_n (pc := 6) dX12_n_6 rfl rfl ?_
    refine S_imul (pc := 7) dX12_n_7 ?_
    refine S_iload_n (pc := 8) dX12_n_8 rfl rfl ?_
    refine S_iadd (pc := 9) dX12_n_9 ?_
    obtain ⟨hb4, H⟩ := H
    refine S_iald (pc := 10) dX12_n_10 (sM_23 hs) hb4 ?_
    refine S_ireturn dX12_n_11 rfl ?_
    show WP _ _ _ _ _ _ _ 30 [some (.ref B), some (.int a1), some (.int a2), none] [.int ((up2 f (B + 23) (((((nI 40) * a1) + (nI 14)) + ((nI 6) * a2)) + (nI 1)).toNatClampNeg (nI 1)) (B + 23) (((nI 40) * a1) + (nI 0)).toNatClampNeg), .int a2, .int (nI 2), .int a1, .ref B] (sh, (up2 f (B + 23) (((((nI 40) * a1) + (nI 14)) + ((nI 6) * a2)) + (nI 1)).toNatClampNeg (nI 1)), g, fR)
    refine S_callV (As := [.int a1, .int (nI 2), .int a2, .int ((up2 f (B + 23) (((((nI 40) * a1) + (nI 14)) + ((nI 6) * a2)) + (nI 1)).toNatClampNeg (nI 1)) (B + 23) (((nI 40) * a1) + (nI 0)).toNatClampNeg)]) (mc := 0) (ms := 0) (pc := 30) dX12_dies_30 miX12_writesDown mvX12_writesDown mlX12_504 rfl (sM_0 hs) rfl rfl rfl (RmOK.of rfl) H ?_
    rintro _ _ ⟨f5, g6, rfl, rfl, H⟩
    show WP _ _ _ _ _ _ _ 33 [some (.ref B), some (.int a1), some (.int a2), none] [] (sh, f5, g6, fR)
    refine S_iconst (pc := 33) dX12_dies_33 ic0 ?_
    refine S_istore_n (pc := 34) (L' := [some (.ref B), some (.int a1), some (.int a2), some (.int (nI 0))]) dX12_dies_34 rfl (by decide) rfl ?_
    exact H
  · replace H := H.2 hc2
    exact S_vreturn dX12_dies_11 rfl H
set_option maxHeartbeats 2000000 in
set_option maxRecDepth 4000 in
theorem VX12_dies_35 {l : Launch} {G : Gx} {d : Nat} {Q : Option Value → Hp → Prop} {sh : Sh} {fR : FRt} {B : Nat} {f : FI} {g : FL} {a1 : Int32} {a2 : Int32} {a3 : Int32} (hs : StM sh fR B)
    (H : inb (((nI 40) * a1) + (nI 6)) 880 ∧ (((f (B + 23) (((nI 40) * a1) + (nI 6)).toNatClampNeg) ≤ a3 → Q none (sh, f, g, fR)) ∧ (¬ (f (B + 23) (((nI 40) * a1) + (nI 6)).toNatClampNeg) ≤ a3 → inb (((nI 8) * (((nI 480) * a1) + a3)) + (nI 0)) 84480 ∧ ((¬ (f (B + 24) (((nI 8) * (((nI 480) * a1) + a3)) + (nI 0)).toNatClampNeg) = a2 → LpX12_dies_75 l G d Q sh fR B f g a1 a2 a3) ∧ ((f (B + 24) (((nI 8) * (((nI 480) * a1) + a3)) + (nI 0)).toNatClampNeg) = a2 → inb (((nI 8) * (((nI 480) * a1) + a3)) + (nI 6)) 84480 ∧ ((¬ (f (B + 24) (((nI 8) * (((nI 480) * a1) + a3)) + (nI 6)).toNatClampNeg) = (nI 1) → LpX12_dies_75 l G d Q sh fR B f g a1 a2 a3) ∧ ((f (B + 24) (((nI 8) * (((nI 480) * a1) + a3)) + (nI 6)).toNatClampNeg) = (nI 1) → Cl l G (d + 1) 0 0 mX12_again [.ref B, .int a1, .int a3] (sh, f, g, fR) (qv sh fR fun f13 g14 => LpX12_dies_75 l G d Q sh fR B f13 g14 a1 a2 a3)))))))) :
    LpX12_dies_35 l G d Q sh fR B f g a1 a2 a3 := by
  refine S_iload_n (pc := 35) dX12_dies_35 rfl rfl ?_
  refine S_aload_n (pc := 36) dX12_dies_36 rfl rfl ?_
  refine S_iload_n (pc := 37) dX12_dies_37 rfl rfl ?_
  refine S_bipush (pc := 38) dX12_dies_38 bp6 ?_
  refine S_callV (As := [.int a1, .int (nI 6)]) (mc := 0) (ms := 0) (pc := 40) dX12_dies_40 miX12_n mvX12_n mlX12_402 rfl (sM_0 hs) rfl rfl rfl (RmOK.of rfl) (Q := fun r h => WP _ _ _ _ _ _ _ 43 [some (.ref B), some (.int a1), some (.int a2), some (.int a3)] (r.toList ++ [.int a3]) h) (Cl.of miX12_n rfl rfl ?_) (fun _ _ q => q)
  refine S_aload_n (pc := 0) dX12_n_0 rfl rfl ?_
  refine S_getR (pc := 1) dX12_n_1 flX12_144 (sM_0 hs) rfl (rM_43 hs) ?_
  refine S_bipush (pc := 4) dX12_n_4 bp40 ?_
  refine S_iload_n (pc := 6) dX12_n_6 rfl rfl ?_
  refine S_imul (pc := 7) dX12_n_7 ?_
  refine S_iload_n (pc := 8) dX12_n_8 rfl rfl ?_
  refine S_iadd (pc := 9) dX12_n_9 ?_
  obtain ⟨hb7, H⟩ := H
  refine S_iald (pc := 10) dX12_n_10 (sM_23 hs) hb7 ?_
  refine S_ireturn dX12_n_11 rfl ?_
  show WP _ _ _ _ _ _ _ 43 [some (.ref B), some (.int a1), some (.int a2), some (.int a3)] [.int (f (B + 23) (((nI 40) * a1) + (nI 6)).toNatClampNeg), .int a3] (sh, f, g, fR)
  refine S_icmp_ge (pc := 43) (tgt := 81) dX12_dies_43 rfl (fun hc8 => ?_) (fun hc8 => ?_)
  · replace H := H.1 hc8
    exact S_vreturn dX12_dies_81 rfl H
  · replace H := H.2 hc8
    refine S_aload_n (pc := 46) dX12_dies_46 rfl rfl ?_
    refine S_iload_n (pc := 47) dX12_dies_47 rfl rfl ?_
    refine S_iload_n (pc := 48) dX12_dies_48 rfl rfl ?_
    refine S_iconst (pc := 49) dX12_dies_49 ic0 ?_
    refine S_callV (As := [.int a1, .int a3, .int (nI 0)]) (mc := 0) (ms := 0) (pc := 50) dX12_dies_50 miX12_s mvX12_s mlX12_445 rfl (sM_0 hs) rfl rfl rfl (RmOK.of rfl) (Q := fun r h => WP _ _ _ _ _ _ _ 53 [some (.ref B), some (.int a1), some (.int a2), some (.int a3)] (r.toList ++ []) h) (Cl.of miX12_s rfl rfl ?_) (fun _ _ q => q)
    refine S_aload_n (pc := 0) dX12_s_0 rfl rfl ?_
    refine S_getR (pc := 1) dX12_s_1 flX12_148 (sM_0 hs) rfl (rM_44 hs) ?_
    refine S_bipush (pc := 4) dX12_s_4 bp8 ?_
    refine S_sipush (pc := 6) dX12_s_6 sp480 ?_
    refine S_iload_n (pc := 9) dX12_s_9 rfl rfl ?_
    refine S_imul (pc := 10) dX12_s_10 ?_
    refine S_iload_n (pc := 11) dX12_s_11 rfl rfl ?_
    refine S_iadd (pc := 12) dX12_s_12 ?_
    refine S_imul (pc := 13) dX12_s_13 ?_
    refine S_iload_n (pc := 14) dX12_s_14 rfl rfl ?_
    refine S_iadd (pc := 15) dX12_s_15 ?_
    obtain ⟨hb9, H⟩ := H
    refine S_iald (pc := 16) dX12_s_16 (sM_24 hs) hb9 ?_
    refine S_ireturn dX12_s_17 rfl ?_
    show WP _ _ _ _ _ _ _ 53 [some (.ref B), some (.int a1), some (.int a2), some (.int a3)] [.int (f (B + 24) (((nI 8) * (((nI 480) * a1) + a3)) + (nI 0)).toNatClampNeg)] (sh, f, g, fR)
    refine S_iload_n (pc := 53) dX12_dies_53 rfl rfl ?_
    refine S_icmp_ne (pc := 54) (tgt := 75) dX12_dies_54 rfl (fun hc10 => ?_) (fun hc10 => ?_)
    · replace H := H.1 hc10
      exact H
    · replace H := H.2 hc10
      refine S_aload_n (pc := 57) dX12_dies_57 rfl rfl ?_
      refine S_iload_n (pc := 58) dX12_dies_58 rfl rfl ?_
      refine S_iload_n (pc := 59) dX12_dies_59 rfl rfl ?_
      refine S_bipush (pc := 60) dX12_dies_60 bp6 ?_
      refine S_callV (As := [.int a1, .int a3, .int (nI 6)]) (mc := 0) (ms := 0) (pc := 62) dX12_dies_62 miX12_s mvX12_s mlX12_445 rfl (sM_0 hs) rfl rfl rfl (RmOK.of rfl) (Q := fun r h => WP _ _ _ _ _ _ _ 65 [some (.ref B), some (.int a1), some (.int a2), some (.int a3)] (r.toList ++ []) h) (Cl.of miX12_s rfl rfl ?_) (fun _ _ q => q)
      refine S_aload_n (pc := 0) dX12_s_0 rfl rfl ?_
      refine S_getR (pc := 1) dX12_s_1 flX12_148 (sM_0 hs) rfl (rM_44 hs) ?_
      refine S_bipush (pc := 4) dX12_s_4 bp8 ?_
      refine S_sipush (pc := 6) dX12_s_6 sp480 ?_
      refine S_iload_n (pc := 9) dX12_s_9 rfl rfl ?_
      refine S_imul (pc := 10) dX12_s_10 ?_
      refine S_iload_n (pc := 11) dX12_s_11 rfl rfl ?_
      refine S_iadd (pc := 12) dX12_s_12 ?_
      refine S_imul (pc := 13) dX12_s_13 ?_
      refine S_iload_n (pc := 14) dX12_s_14 rfl rfl ?_
      refine S_iadd (pc := 15) dX12_s_15 ?_
      obtain ⟨hb11, H⟩ := H
      refine S_iald (pc := 16) dX12_s_16 (sM_24 hs) hb11 ?_
      refine S_ireturn dX12_s_17 rfl ?_
      show WP _ _ _ _ _ _ _ 65 [some (.ref B), some (.int a1), some (.int a2), some (.int a3)] [.int (f (B + 24) (((nI 8) * (((nI 480) * a1) + a3)) + (nI 6)).toNatClampNeg)] (sh, f, g, fR)
      refine S_iconst (pc := 65) dX12_dies_65 ic1 ?_
      refine S_icmp_ne (pc := 66) (tgt := 75) dX12_dies_66 rfl (fun hc12 => ?_) (fun hc12 => ?_)
      · replace H := H.1 hc12
        exact H
      · replace H := H.2 hc12
        refine S_aload_n (pc := 69) dX12_dies_69 rfl rfl ?_
        refine S_iload_n (pc := 70) dX12_dies_70 rfl rfl ?_
        refine S_iload_n (pc := 71) dX12_dies_71 rfl rfl ?_
        refine S_callV (As := [.int a1, .int a3]) (mc := 0) (ms := 0) (pc := 72) dX12_dies_72 miX12_again mvX12_again mlX12_507 rfl (sM_0 hs) rfl rfl rfl (RmOK.of rfl) H ?_
        rintro _ _ ⟨f13, g14, rfl, rfl, H⟩
        show WP _ _ _ _ _ _ _ 75 [some (.ref B), some (.int a1), some (.int a2), some (.int a3)] [] (sh, f13, g14, fR)
        exact H
set_option maxHeartbeats 2000000 in
set_option maxRecDepth 4000 in
theorem VX12_dies_75 {l : Launch} {G : Gx} {d : Nat} {Q : Option Value → Hp → Prop} {sh : Sh} {fR : FRt} {B : Nat} {f : FI} {g : FL} {a1 : Int32} {a2 : Int32} {a3 : Int32} (hs : StM sh fR B)
    (H : LpX12_dies_35 l G d Q sh fR B f g a1 a2 (a3 + nI 1)) :
    LpX12_dies_75 l G d Q sh fR B f g a1 a2 a3 := by
  refine S_iinc (pc := 75) (v := nI 1) (L' := [some (.ref B), some (.int a1), some (.int a2), some (.int (a3 + nI 1))]) dX12_dies_75 rfl ic1 rfl ?_
  refine S_goto (pc := 78) (tgt := 35) dX12_dies_78 rfl ?_
  exact H
set_option maxHeartbeats 2000000 in
set_option maxRecDepth 4000 in
theorem VX12_halved {l : Launch} {G : Gx} {d : Nat} {Q : Option Value → Hp → Prop} {sh : Sh} {fR : FRt} {B : Nat} {f : FI} {g : FL} {a0 : Int32} (hs : StM sh fR B)
    (H : (((nI 1000) ≤ (a0 / (nI 2)) → Q (some (.int (a0 / (nI 2)))) (sh, f, g, fR)) ∧ (¬ (nI 1000) ≤ (a0 / (nI 2)) → Q (some (.int (nI 1000))) (sh, f, g, fR)))) :
    Cl l G d 0 0 mX12_halved [.int a0] (sh, f, g, fR) Q := by
  refine Cl.of (L0 := [some (.int a0)]) miX12_halved rfl rfl ?_
  refine S_iload_n (pc := 0) dX12_halved_0 rfl rfl ?_
  refine S_iconst (pc := 1) dX12_halved_1 ic2 ?_
  refine S_idiv (pc := 2) dX12_halved_2 (by decide) ?_
  refine S_sipush (pc := 3) dX12_halved_3 sp1000 ?_
  refine S_icmp_ge (pc := 6) (tgt := 15) dX12_halved_6 rfl (fun hc1 => ?_) (fun hc1 => ?_)
  · replace H := H.1 hc1
    refine S_iload_n (pc := 15) dX12_halved_15 rfl rfl ?_
    refine S_iconst (pc := 16) dX12_halved_16 ic2 ?_
    refine S_idiv (pc := 17) dX12_halved_17 (by decide) ?_
    exact S_ireturn dX12_halved_18 rfl H
  · replace H := H.2 hc1
    refine S_sipush (pc := 9) dX12_halved_9 sp1000 ?_
    refine S_goto (pc := 12) (tgt := 18) dX12_halved_12 rfl ?_
    exact S_ireturn dX12_halved_18 rfl H
abbrev LpX12_fails_10 (l : Launch) (G : Gx) (d : Nat) (Q : Option Value → Hp → Prop) (sh : Sh) (fR : FRt) (B : Nat) (f : FI) (g : FL) (a1 : Int32) (a2 : Int32) (a3 : Int32) (a4 : Int32) : Prop := WP l G (Zq G 0 0 Q) mX12_fails (rmd (d + 4) 0 0) 0 0 10 [some (.ref B), some (.int a1), some (.int a2), some (.int a3), some (.int a4)] [] (sh, f, g, fR)
abbrev LpX12_fails_141 (l : Launch) (G : Gx) (d : Nat) (Q : Option Value → Hp → Prop) (sh : Sh) (fR : FRt) (B : Nat) (f : FI) (g : FL) (a1 : Int32) (a2 : Int32) (a3 : Int32) (a4 : Int32) : Prop := WP l G (Zq G 0 0 Q) mX12_fails (rmd (d + 4) 0 0) 0 0 141 [some (.ref B), some (.int a1), some (.int a2), some (.int a3), some (.int a4)] [] (sh, f, g, fR)
set_option maxHeartbeats 2000000 in
set_option maxRecDepth 4000 in
theorem VX12_fails {l : Launch} {G : Gx} {d : Nat} {Q : Option Value → Hp → Prop} {sh : Sh} {fR : FRt} {B : Nat} {f : FI} {g : FL} {a1 : Int32} {a2 : Int32} (hs : StM sh fR B)
    (H : Cl l G (d + 3) 0 0 mX12_waitOf [.ref B, .int a1, .int a2] (sh, f, g, fR) (qi sh fR fun x3 f1 g2 => LpX12_fails_10 l G d Q sh fR B f1 g2 a1 a2 x3 (nI 0))) :
    Cl l G (d + 4) 0 0 mX12_fails [.ref B, .int a1, .int a2] (sh, f, g, fR) Q := by
  refine Cl.of (L0 := [some (.ref B), some (.int a1), some (.int a2), none, none]) miX12_fails rfl rfl ?_
  refine S_aload_n (pc := 0) dX12_fails_0 rfl rfl ?_
  refine S_iload_n (pc := 1) dX12_fails_1 rfl rfl ?_
  refine S_iload_n (pc := 2) dX12_fails_2 rfl rfl ?_
  refine S_callV (As := [.int a1, .int a2]) (mc := 0) (ms := 0) (pc := 3) dX12_fails_3 miX12_waitOf mvX12_waitOf mlX12_510 rfl (sM_0 hs) rfl rfl rfl (RmOK.of rfl) H ?_
  rintro _ _ ⟨x3, f1, g2, rfl, rfl, H⟩
  show WP _ _ _ _ _ _ _ 6 [some (.ref B), some (.int a1), some (.int a2), none, none] [.int x3] (sh, f1, g2, fR)
  refine S_istore_n (pc := 6) (L' := [some (.ref B), some (.int a1), some (.int a2), some (.int x3), none]) dX12_fails_6 rfl (by decide) rfl ?_
  refine S_iconst (pc := 7) dX12_fails_7 ic0 ?_
  refine S_istore (pc := 8) (L' := [some (.ref B), some (.int a1), some (.int a2), some (.int x3), some (.int (nI 0))]) dX12_fails_8 (by decide) rfl ?_
  exact H
set_option maxHeartbeats 2000000 in
set_option maxRecDepth 4000 in
theorem VX12_fails_10 {l : Launch} {G : Gx} {d : Nat} {Q : Option Value → Hp → Prop} {sh : Sh} {fR : FRt} {B : Nat} {f : FI} {g : FL} {a1 : Int32} {a2 : Int32} {a3 : Int32} {a4 : Int32} (hs : StM sh fR B)
    (H : inb (((nI 40) * a1) + (nI 6)) 880 ∧ (((f (B + 23) (((nI 40) * a1) + (nI 6)).toNatClampNeg) ≤ a4 → Q none (sh, f, g, fR)) ∧ (¬ (f (B + 23) (((nI 40) * a1) + (nI 6)).toNatClampNeg) ≤ a4 → inb (((nI 8) * (((nI 480) * a1) + a4)) + (nI 0)) 84480 ∧ ((¬ (f (B + 24) (((nI 8) * (((nI 480) * a1) + a4)) + (nI 0)).toNatClampNeg) = a2 → LpX12_fails_141 l G d Q sh fR B f g a1 a2 a3 a4) ∧ ((f (B + 24) (((nI 8) * (((nI 480) * a1) + a4)) + (nI 0)).toNatClampNeg) = a2 → inb (((nI 8) * (((nI 480) * a1) + a4)) + (nI 6)) 84480 ∧ (((f (B + 24) (((nI 8) * (((nI 480) * a1) + a4)) + (nI 6)).toNatClampNeg) = 0 → LpX12_fails_141 l G d Q sh fR B f g a1 a2 a3 a4) ∧ (¬ (f (B + 24) (((nI 8) * (((nI 480) * a1) + a4)) + (nI 6)).toNatClampNeg) = 0 → inb (((nI 40) * a1) + (nI 0)) 880 ∧ inb (((nI 8) * (((nI 480) * a1) + a4)) + (nI 4)) 84480 ∧ ((a3 ≤ ((f (B + 23) (((nI 40) * a1) + (nI 0)).toNatClampNeg) - (f (B + 24) (((nI 8) * (((nI 480) * a1) + a4)) + (nI 4)).toNatClampNeg)) → inb (((nI 8) * (((nI 480) * a1) + a4)) + (nI 2)) 84480 ∧ Cl l G (d + 3) 0 0 mX12_writesDown [.ref B, .int a1, .int (nI 0), .int a2, .int (f (B + 24) (((nI 8) * (((nI 480) * a1) + a4)) + (nI 2)).toNatClampNeg)] (sh, f, g, fR) (qv sh fR fun f14 g15 => Cl l G (d + 3) 0 0 mX12_again [.ref B, .int a1, .int a4] (sh, f14, g15, fR) (qv sh fR fun f16 g17 => inb (((((nI 40) * a1) + (nI 14)) + ((nI 6) * a2)) + (nI 3)) 880 ∧ inb (((((nI 40) * a1) + (nI 14)) + ((nI 6) * a2)) + (nI 3)) 880 ∧ inb (((((nI 40) * a1) + (nI 14)) + ((nI 6) * a2)) + (nI 2)) 880 ∧ Cl l G (d + 3) 0 0 mX12_halved [.int ((up2 f16 (B + 23) (((((nI 40) * a1) + (nI 14)) + ((nI 6) * a2)) + (nI 3)).toNatClampNeg ((f16 (B + 23) (((((nI 40) * a1) + (nI 14)) + ((nI 6) * a2)) + (nI 3)).toNatClampNeg) + (nI 1))) (B + 23) (((((nI 40) * a1) + (nI 14)) + ((nI 6) * a2)) + (nI 2)).toNatClampNeg)] (sh, (up2 f16 (B + 23) (((((nI 40) * a1) + (nI 14)) + ((nI 6) * a2)) + (nI 3)).toNatClampNeg ((f16 (B + 23) (((((nI 40) * a1) + (nI 14)) + ((nI 6) * a2)) + (nI 3)).toNatClampNeg) + (nI 1))), g17, fR) (qi sh fR fun x23 f21 g22 => inb (((((nI 40) * a1) + (nI 14)) + ((nI 6) * a2)) + (nI 2)) 880 ∧ inb (((((nI 40) * a1) + (nI 14)) + ((nI 6) * a2)) + (nI 3)) 880 ∧ ((¬ ((up2 f21 (B + 23) (((((nI 40) * a1) + (nI 14)) + ((nI 6) * a2)) + (nI 2)).toNatClampNeg x23) (B + 23) (((((nI 40) * a1) + (nI 14)) + ((nI 6) * a2)) + (nI 3)).toNatClampNeg) = (nI 3) → Q none (sh, (up2 f21 (B + 23) (((((nI 40) * a1) + (nI 14)) + ((nI 6) * a2)) + (nI 2)).toNatClampNeg x23), g22, fR)) ∧ (((up2 f21 (B + 23) (((((nI 40) * a1) + (nI 14)) + ((nI 6) * a2)) + (nI 2)).toNatClampNeg x23) (B + 23) (((((nI 40) * a1) + (nI 14)) + ((nI 6) * a2)) + (nI 3)).toNatClampNeg) = (nI 3) → Cl l G (d + 3) 0 0 mX12_dies [.ref B, .int a1, .int a2] (sh, (up2 f21 (B + 23) (((((nI 40) * a1) + (nI 14)) + ((nI 6) * a2)) + (nI 2)).toNatClampNeg x23), g22, fR) (qv sh fR fun f27 g28 => Q none (sh, f27, g28, fR)))))))) ∧ (¬ a3 ≤ ((f (B + 23) (((nI 40) * a1) + (nI 0)).toNatClampNeg) - (f (B + 24) (((nI 8) * (((nI 480) * a1) + a4)) + (nI 4)).toNatClampNeg)) → LpX12_fails_141 l G d Q sh fR B f g a1 a2 a3 a4))))))))) :
    LpX12_fails_10 l G d Q sh fR B f g a1 a2 a3 a4 := by
  refine S_iload (pc := 10) dX12_fails_10 rfl ?_
  refine S_aload_n (pc := 12) dX12_fails_12 rfl rfl ?_
  refine S_iload_n (pc := 13) dX12_fails_13 rfl rfl ?_
  refine S_bipush (pc := 14) dX12_fails_14 bp6 ?_
  refine S_callV (As := [.int a1, .int (nI 6)]) (mc := 0) (ms := 0) (pc := 16) dX12_fails_16 miX12_n mvX12_n mlX12_402 rfl (sM_0 hs) rfl rfl rfl (RmOK.of rfl) (Q := fun r h => WP _ _ _ _ _ _ _ 19 [some (.ref B), some (.int a1), some (.int a2), some (.int a3), some (.int a4)] (r.toList ++ [.int a4]) h) (Cl.of miX12_n rfl rfl ?_) (fun _ _ q => q)
  refine S_aload_n (pc := 0) dX12_n_0 rfl rfl ?_
  refine S_getR (pc := 1) dX12_n_1 flX12_144 (sM_0 hs) rfl (rM_43 hs) ?_
  refine S_bipush (pc := 4) dX12_n_4 bp40 ?_
  refine S_iload_n (pc := 6) dX12_n_6 rfl rfl ?_
  refine S_imul (pc := 7) dX12_n_7 ?_
  refine S_iload_n (pc := 8) dX12_n_8 rfl rfl ?_
  refine S_iadd (pc := 9) dX12_n_9 ?_
  obtain ⟨hb4, H⟩ := H
  refine S_iald (pc := 10) dX12_n_10 (sM_23 hs) hb4 ?_
  refine S_ireturn dX12_n_11 rfl ?_
  show WP _ _ _ _ _ _ _ 19 [some (.ref B), some (.int a1), some (.int a2), some (.int a3), some (.int a4)] [.int (f (B + 23) (((nI 40) * a1) + (nI 6)).toNatClampNeg), .int a4] (sh, f, g, fR)
  refine S_icmp_ge (pc := 19) (tgt := 147) dX12_fails_19 rfl (fun hc5 => ?_) (fun hc5 => ?_)
  · replace H := H.1 hc5
    exact S_vreturn dX12_fails_147 rfl H
  · replace H := H.2 hc5
    refine S_aload_n (pc := 22) dX12_fails_22 rfl rfl ?_
    refine S_iload_n (pc := 23) dX12_fails_23 rfl rfl ?_
    refine S_iload (pc := 24) dX12_fails_24 rfl ?_
    refine S_iconst (pc := 26) dX12_fails_26 ic0 ?_
    refine S_callV (As := [.int a1, .int a4, .int (nI 0)]) (mc := 0) (ms := 0) (pc := 27) dX12_fails_27 miX12_s mvX12_s mlX12_445 rfl (sM_0 hs) rfl rfl rfl (RmOK.of rfl) (Q := fun r h => WP _ _ _ _ _ _ _ 30 [some (.ref B), some (.int a1), some (.int a2), some (.int a3), some (.int a4)] (r.toList ++ []) h) (Cl.of miX12_s rfl rfl ?_) (fun _ _ q => q)
    refine S_aload_n (pc := 0) dX12_s_0 rfl rfl ?_
    refine S_getR (pc := 1) dX12_s_1 flX12_148 (sM_0 hs) rfl (rM_44 hs) ?_
    refine S_bipush (pc := 4) dX12_s_4 bp8 ?_
    refine S_sipush (pc := 6) dX12_s_6 sp480 ?_
    refine S_iload_n (pc := 9) dX12_s_9 rfl rfl ?_
    refine S_imul (pc := 10) dX12_s_10 ?_
    refine S_iload_n (pc := 11) dX12_s_11 rfl rfl ?_
    refine S_iadd (pc := 12) dX12_s_12 ?_
    refine S_imul (pc := 13) dX12_s_13 ?_
    refine S_iload_n (pc := 14) dX12_s_14 rfl rfl ?_
    refine S_iadd (pc := 15) dX12_s_15 ?_
    obtain ⟨hb6, H⟩ := H
    refine S_iald (pc := 16) dX12_s_16 (sM_24 hs) hb6 ?_
    refine S_ireturn dX12_s_17 rfl ?_
    show WP _ _ _ _ _ _ _ 30 [some (.ref B), some (.int a1), some (.int a2), some (.int a3), some (.int a4)] [.int (f (B + 24) (((nI 8) * (((nI 480) * a1) + a4)) + (nI 0)).toNatClampNeg)] (sh, f, g, fR)
    refine S_iload_n (pc := 30) dX12_fails_30 rfl rfl ?_
    refine S_icmp_ne (pc := 31) (tgt := 141) dX12_fails_31 rfl (fun hc7 => ?_) (fun hc7 => ?_)
    · replace H := H.1 hc7
      exact H
    · replace H := H.2 hc7
      refine S_aload_n (pc := 34) dX12_fails_34 rfl rfl ?_
      refine S_iload_n (pc := 35) dX12_fails_35 rfl rfl ?_
      refine S_iload (pc := 36) dX12_fails_36 rfl ?_
      refine S_bipush (pc := 38) dX12_fails_38 bp6 ?_
      refine S_callV (As := [.int a1, .int a4, .int (nI 6)]) (mc := 0) (ms := 0) (pc := 40) dX12_fails_40 miX12_s mvX12_s mlX12_445 rfl (sM_0 hs) rfl rfl rfl (RmOK.of rfl) (Q := fun r h => WP _ _ _ _ _ _ _ 43 [some (.ref B), some (.int a1), some (.int a2), some (.int a3), some (.int a4)] (r.toList ++ []) h) (Cl.of miX12_s rfl rfl ?_) (fun _ _ q => q)
      refine S_aload_n (pc := 0) dX12_s_0 rfl rfl ?_
      refine S_getR (pc := 1) dX12_s_1 flX12_148 (sM_0 hs) rfl (rM_44 hs) ?_
      refine S_bipush (pc := 4) dX12_s_4 bp8 ?_
      refine S_sipush (pc := 6) dX12_s_6 sp480 ?_
      refine S_iload_n (pc := 9) dX12_s_9 rfl rfl ?_
      refine S_imul (pc := 10) dX12_s_10 ?_
      refine S_iload_n (pc := 11) dX12_s_11 rfl rfl ?_
      refine S_iadd (pc := 12) dX12_s_12 ?_
      refine S_imul (pc := 13) dX12_s_13 ?_
      refine S_iload_n (pc := 14) dX12_s_14 rfl rfl ?_
      refine S_iadd (pc := 15) dX12_s_15 ?_
      obtain ⟨hb8, H⟩ := H
      refine S_iald (pc := 16) dX12_s_16 (sM_24 hs) hb8 ?_
      refine S_ireturn dX12_s_17 rfl ?_
      show WP _ _ _ _ _ _ _ 43 [some (.ref B), some (.int a1), some (.int a2), some (.int a3), some (.int a4)] [.int (f (B + 24) (((nI 8) * (((nI 480) * a1) + a4)) + (nI 6)).toNatClampNeg)] (sh, f, g, fR)
      refine S_if_eq (pc := 43) (tgt := 141) dX12_fails_43 rfl (fun hc9 => ?_) (fun hc9 => ?_)
      · replace H := H.1 hc9
        exact H
      · replace H := H.2 hc9
        refine S_aload_n (pc := 46) dX12_fails_46 rfl rfl ?_
        refine S_iload_n (pc := 47) dX12_fails_47 rfl rfl ?_
        refine S_iconst (pc := 48) dX12_fails_48 ic0 ?_
        refine S_callV (As := [.int a1, .int (nI 0)]) (mc := 0) (ms := 0) (pc := 49) dX12_fails_49 miX12_n mvX12_n mlX12_402 rfl (sM_0 hs) rfl rfl rfl (RmOK.of rfl) (Q := fun r h => WP _ _ _ _ _ _ _ 52 [some (.ref B), some (.int a1), some (.int a2), some (.int a3), some (.int a4)] (r.toList ++ []) h) (Cl.of miX12_n rfl rfl ?_) (fun _ _ q => q)
        refine S_aload_n (pc := 0) dX12_n_0 rfl rfl ?_
        refine S_getR (pc := 1) dX12_n_1 flX12_144 (sM_0 hs) rfl (rM_43 hs) ?_
        refine S_bipush (pc := 4) dX12_n_4 bp40 ?_
        refine S_iload_n (pc := 6) dX12_n_6 rfl rfl ?_
        refine S_imul (pc := 7) dX12_n_7 ?_
        refine S_iload_n (pc := 8) dX12_n_8 rfl rfl ?_
        refine S_iadd (pc := 9) dX12_n_9 ?_
        obtain ⟨hb10, H⟩ := H
        refine S_iald (pc := 10) dX12_n_10 (sM_23 hs) hb10 ?_
        refine S_ireturn dX12_n_11 rfl ?_
        show WP _ _ _ _ _ _ _ 52 [some (.ref B), some (.int a1), some (.int a2), some (.int a3), some (.int a4)] [.int (f (B + 23) (((nI 40) * a1) + (nI 0)).toNatClampNeg)] (sh, f, g, fR)
        refine S_aload_n (pc := 52) dX12_fails_52 rfl rfl ?_
        refine S_iload_n (pc := 53) dX12_fails_53 rfl rfl ?_
        refine S_iload (pc := 54) dX12_fails_54 rfl ?_
        refine S_iconst (pc := 56) dX12_fails_56 ic4 ?_
        refine S_callV (As := [.int a1, .int a4, .int (nI 4)]) (mc := 0) (ms := 0) (pc := 57) dX12_fails_57 miX12_s mvX12_s mlX12_445 rfl (sM_0 hs) rfl rfl rfl (RmOK.of rfl) (Q := fun r h => WP _ _ _ _ _ _ _ 60 [some (.ref B), some (.int a1), some (.int a2), some (.int a3), some (.int a4)] (r.toList ++ [.int (f (B + 23) (((nI 40) * a1) + (nI 0)).toNatClampNeg)]) h) (Cl.of miX12_s rfl rfl ?_) (fun _ _ q => q)
        refine S_aload_n (pc := 0) dX12_s_0 rfl rfl ?_
        refine S_getR (pc := 1) dX12_s_1 flX12_148 (sM_0 hs) rfl (rM_44 hs) ?_
        refine S_bipush (pc := 4) dX12_s_4 bp8 ?_
        refine S_sipush (pc := 6) dX12_s_6 sp480 ?_
        refine S_iload_n (pc := 9) dX12_s_9 rfl rfl ?_
        refine S_imul (pc := 10) dX12_s_10 ?_
        refine S_iload_n (pc := 11) dX12_s_11 rfl rfl ?_
        refine S_iadd (pc := 12) dX12_s_12 ?_
        refine S_imul (pc := 13) dX12_s_13 ?_
        refine S_iload_n (pc := 14) dX12_s_14 rfl rfl ?_
        refine S_iadd (pc := 15) dX12_s_15 ?_
        obtain ⟨hb11, H⟩ := H
        refine S_iald (pc := 16) dX12_s_16 (sM_24 hs) hb11 ?_
        refine S_ireturn dX12_s_17 rfl ?_
        show WP _ _ _ _ _ _ _ 60 [some (.ref B), some (.int a1), some (.int a2), some (.int a3), some (.int a4)] [.int (f (B + 24) (((nI 8) * (((nI 480) * a1) + a4)) + (nI 4)).toNatClampNeg), .int (f (B + 23) (((nI 40) * a1) + (nI 0)).toNatClampNeg)] (sh, f, g, fR)
        refine S_isub (pc := 60) dX12_fails_60 ?_
        refine S_iload_n (pc := 61) dX12_fails_61 rfl rfl ?_
        refine S_icmp_ge (pc := 62) (tgt := 68) dX12_fails_62 rfl (fun hc12 => ?_) (fun hc12 => ?_)
        · replace H := H.1 hc12
          refine S_aload_n (pc := 68) dX12_fails_68 rfl rfl ?_
          refine S_iload_n (pc := 69) dX12_fails_69 rfl rfl ?_
          refine S_iconst (pc := 70) dX12_fails_70 ic0 ?_
          refine S_iload_n (pc := 71) dX12_fails_71 rfl rfl ?_
          refine S_aload_n (pc := 72) dX12_fails_72 rfl rfl ?_
          refine S_iload_n (pc := 73) dX12_fails_73 rfl rfl ?_
          refine S_iload (pc := 74) dX12_fails_74 rfl ?_
          refine S_iconst (pc := 76) dX12_fails_76 ic2 ?_
          refine S_callV (As := [.int a1, .int a4, .int (nI 2)]) (mc := 0) (ms := 0) (pc := 77) dX12_fails_77 miX12_s mvX12_s mlX12_445 rfl (sM_0 hs) rfl rfl rfl (RmOK.of rfl) (Q := fun r h => WP _ _ _ _ _ _ _ 80 [some (.ref B), some (.int a1), some (.int a2), some (.int a3), some (.int a4)] (r.toList ++ [.int a2, .int (nI 0), .int a1, .ref B]) h) (Cl.of miX12_s rfl rfl ?_) (fun _ _ q => q)
          refine S_aload_n (pc := 0) dX12_s_0 rfl rfl ?_
          refine S_getR (pc := 1) dX12_s_1 flX12_148 (sM_0 hs) rfl (rM_44 hs) ?_
          refine S_bipush (pc := 4) dX12_s_4 bp8 ?_
          refine S_sipush (pc := 6) dX12_s_6 sp480 ?_
          refine S_iload_n (pc := 9) dX12_s_9 rfl rfl ?_
          refine S_imul (pc := 10) dX12_s_10 ?_
          refine S_iload_n (pc := 11) dX12_s_11 rfl rfl ?_
          refine S_iadd (pc := 12) dX12_s_12 ?_
          refine S_imul (pc := 13) dX12_s_13 ?_
          refine S_iload_n (pc := 14) dX12_s_14 rfl rfl ?_
          refine S_iadd (pc := 15) dX12_s_15 ?_
          obtain ⟨hb13, H⟩ := H
          refine S_iald (pc := 16) dX12_s_16 (sM_24 hs) hb13 ?_
          refine S_ireturn dX12_s_17 rfl ?_
          show WP _ _ _ _ _ _ _ 80 [some (.ref B), some (.int a1), some (.int a2), some (.int a3), some (.int a4)] [.int (f (B + 24) (((nI 8) * (((nI 480) * a1) + a4)) + (nI 2)).toNatClampNeg), .int a2, .int (nI 0), .int a1, .ref B] (sh, f, g, fR)
          refine S_callV (As := [.int a1, .int (nI 0), .int a2, .int (f (B + 24) (((nI 8) * (((nI 480) * a1) + a4)) + (nI 2)).toNatClampNeg)]) (mc := 0) (ms := 0) (pc := 80) dX12_fails_80 miX12_writesDown mvX12_writesDown mlX12_504 rfl (sM_0 hs) rfl rfl rfl (RmOK.of rfl) H ?_
          rintro _ _ ⟨f14, g15, rfl, rfl, H⟩
          show WP _ _ _ _ _ _ _ 83 [some (.ref B), some (.int a1), some (.int a2), some (.int a3), some (.int a4)] [] (sh, f14, g15, fR)
          refine S_aload_n (pc := 83) dX12_fails_83 rfl rfl ?_
          refine S_iload_n (pc := 84) dX12_fails_84 rfl rfl ?_
          refine S_iload (pc := 85) dX12_fails_85 rfl ?_
          refine S_callV (As := [.int a1, .int a4]) (mc := 0) (ms := 0) (pc := 87) dX12_fails_87 miX12_again mvX12_again mlX12_507 rfl (sM_0 hs) rfl rfl rfl (RmOK.of rfl) H ?_
          rintro _ _ ⟨f16, g17, rfl, rfl, H⟩
          show WP _ _ _ _ _ _ _ 90 [some (.ref B), some (.int a1), some (.int a2), some (.int a3), some (.int a4)] [] (sh, f16, g17, fR)
          refine S_aload_n (pc := 90) dX12_fails_90 rfl rfl ?_
          refine S_iload_n (pc := 91) dX12_fails_91 rfl rfl ?_
          refine S_iload_n (pc := 92) dX12_fails_92 rfl rfl ?_
          refine S_iconst (pc := 93) dX12_fails_93 ic3 ?_
          refine S_aload_n (pc := 94) dX12_fails_94 rfl rfl ?_
          refine S_iload_n (pc := 95) dX12_fails_95 rfl rfl ?_
          refine S_iload_n (pc := 96) dX12_fails_96 rfl rfl ?_
          refine S_iconst (pc := 97) dX12_fails_97 ic3 ?_
          refine S_callV (As := [.int a1, .int a2, .int (nI 3)]) (mc := 0) (ms := 0) (pc := 98) dX12_fails_98 miX12_p mvX12_p mlX12_438 rfl (sM_0 hs) rfl rfl rfl (RmOK.of rfl) (Q := fun r h => WP _ _ _ _ _ _ _ 101 [some (.ref B), some (.int a1), some (.int a2), some (.int a3), some (.int a4)] (r.toList ++ [.int (nI 3), .int a2, .int a1, .ref B]) h) (Cl.of miX12_p rfl rfl ?_) (fun _ _ q => q)
          refine S_aload_n (pc := 0) dX12_p_0 rfl rfl ?_
          refine S_getR (pc := 1) dX12_p_1 flX12_144 (sM_0 hs) rfl (rM_43 hs) ?_
          refine S_bipush (pc := 4) dX12_p_4 bp40 ?_
          refine S_iload_n (pc := 6) dX12_p_6 rfl rfl ?_
          refine S_imul (pc := 7) dX12_p_7 ?_
          refine S_bipush (pc := 8) dX12_p_8 bp14 ?_
          refine S_iadd (pc := 10) dX12_p_10 ?_
          refine S_bipush (pc := 11) dX12_p_11 bp6 ?_
          refine S_iload_n (pc := 13) dX12_p_13 rfl rfl ?_
          refine S_imul (pc := 14) dX12_p_14 ?_
          refine S_iadd (pc := 15) dX12_p_15 ?_
          refine S_iload_n (pc := 16) dX12_p_16 rfl rfl ?_
          refine S_iadd (pc := 17) dX12_p_17 ?_
          obtain ⟨hb18, H⟩ := H
          refine S_iald (pc := 18) dX12_p_18 (sM_23 hs) hb18 ?_
          refine S_ireturn dX12_p_19 rfl ?_
          show WP _ _ _ _ _ _ _ 101 [some (.ref B), some (.int a1), some (.int a2), some (.int a3), some (.int a4)] [.int (f16 (B + 23) (((((nI 40) * a1) + (nI 14)) + ((nI 6) * a2)) + (nI 3)).toNatClampNeg), .int (nI 3), .int a2, .int a1, .ref B] (sh, f16, g17, fR)
          refine S_iconst (pc := 101) dX12_fails_101 ic1 ?_
          refine S_iadd (pc := 102) dX12_fails_102 ?_
          refine S_callV (As := [.int a1, .int a2, .int (nI 3), .int ((f16 (B + 23) (((((nI 40) * a1) + (nI 14)) + ((nI 6) * a2)) + (nI 3)).toNatClampNeg) + (nI 1))]) (mc := 0) (ms := 0) (pc := 103) dX12_fails_103 miX12_setsPath mvX12_setsPath mlX12_412 rfl (sM_0 hs) rfl rfl rfl (RmOK.of rfl) (Q := fun r h => WP _ _ _ _ _ _ _ 106 [some (.ref B), some (.int a1), some (.int a2), some (.int a3), some (.int a4)] (r.toList ++ []) h) (Cl.of miX12_setsPath rfl rfl ?_) (fun _ _ q => q)
          refine S_aload_n (pc := 0) dX12_setsPath_0 rfl rfl ?_
          refine S_getR (pc := 1) dX12_setsPath_1 flX12_144 (sM_0 hs) rfl (rM_43 hs) ?_
          refine S_bipush (pc := 4) dX12_setsPath_4 bp40 ?_
          refine S_iload_n (pc := 6) dX12_setsPath_6 rfl rfl ?_
          refine S_imul (pc := 7) dX12_setsPath_7 ?_
          refine S_bipush (pc := 8) dX12_setsPath_8 bp14 ?_
          refine S_iadd (pc := 10) dX12_setsPath_10 ?_
          refine S_bipush (pc := 11) dX12_setsPath_11 bp6 ?_
          refine S_iload_n (pc := 13) dX12_setsPath_13 rfl rfl ?_
          refine S_imul (pc := 14) dX12_setsPath_14 ?_
          refine S_iadd (pc := 15) dX12_setsPath_15 ?_
          refine S_iload_n (pc := 16) dX12_setsPath_16 rfl rfl ?_
          refine S_iadd (pc := 17) dX12_setsPath_17 ?_
          refine S_iload (pc := 18) dX12_setsPath_18 rfl ?_
          obtain ⟨hb19, H⟩ := H
          refine S_iast (pc := 20) dX12_setsPath_20 (sM_23 hs) (Nat.succ_pos _) hb19 ?_
          refine S_vreturn dX12_setsPath_21 rfl ?_
          show WP _ _ _ _ _ _ _ 106 [some (.ref B), some (.int a1), some (.int a2), some (.int a3), some (.int a4)] [] (sh, (up2 f16 (B + 23) (((((nI 40) * a1) + (nI 14)) + ((nI 6) * a2)) + (nI 3)).toNatClampNeg ((f16 (B + 23) (((((nI 40) * a1) + (nI 14)) + ((nI 6) * a2)) + (nI 3)).toNatClampNeg) + (nI 1))), g17, fR)
          refine S_aload_n (pc := 106) dX12_fails_106 rfl rfl ?_
          refine S_iload_n (pc := 107) dX12_fails_107 rfl rfl ?_
          refine S_iload_n (pc := 108) dX12_fails_108 rfl rfl ?_
          refine S_iconst (pc := 109) dX12_fails_109 ic2 ?_
          refine S_aload_n (pc := 110) dX12_fails_110 rfl rfl ?_
          refine S_iload_n (pc := 111) dX12_fails_111 rfl rfl ?_
          refine S_iload_n (pc := 112) dX12_fails_112 rfl rfl ?_
          refine S_iconst (pc := 113) dX12_fails_113 ic2 ?_
          refine S_callV (As := [.int a1, .int a2, .int (nI 2)]) (mc := 0) (ms := 0) (pc := 114) dX12_fails_114 miX12_p mvX12_p mlX12_438 rfl (sM_0 hs) rfl rfl rfl (RmOK.of rfl) (Q := fun r h => WP _ _ _ _ _ _ _ 117 [some (.ref B), some (.int a1), some (.int a2), some (.int a3), some (.int a4)] (r.toList ++ [.int (nI 2), .int a2, .int a1, .ref B]) h) (Cl.of miX12_p rfl rfl ?_) (fun _ _ q => q)
          refine S_aload_n (pc := 0) dX12_p_0 rfl rfl ?_
          refine S_getR (pc := 1) dX12_p_1 flX12_144 (sM_0 hs) rfl (rM_43 hs) ?_
          refine S_bipush (pc := 4) dX12_p_4 bp40 ?_
          refine S_iload_n (pc := 6) dX12_p_6 rfl rfl ?_
          refine S_imul (pc := 7) dX12_p_7 ?_
          refine S_bipush (pc := 8) dX12_p_8 bp14 ?_
          refine S_iadd (pc := 10) dX12_p_10 ?_
          refine S_bipush (pc := 11) dX12_p_11 bp6 ?_
          refine S_iload_n (pc := 13) dX12_p_13 rfl rfl ?_
          refine S_imul (pc := 14) dX12_p_14 ?_
          refine S_iadd (pc := 15) dX12_p_15 ?_
          refine S_iload_n (pc := 16) dX12_p_16 rfl rfl ?_
          refine S_iadd (pc := 17) dX12_p_17 ?_
          obtain ⟨hb20, H⟩ := H
          refine S_iald (pc := 18) dX12_p_18 (sM_23 hs) hb20 ?_
          refine S_ireturn dX12_p_19 rfl ?_
          show WP _ _ _ _ _ _ _ 117 [some (.ref B), some (.int a1), some (.int a2), some (.int a3), some (.int a4)] [.int ((up2 f16 (B + 23) (((((nI 40) * a1) + (nI 14)) + ((nI 6) * a2)) + (nI 3)).toNatClampNeg ((f16 (B + 23) (((((nI 40) * a1) + (nI 14)) + ((nI 6) * a2)) + (nI 3)).toNatClampNeg) + (nI 1))) (B + 23) (((((nI 40) * a1) + (nI 14)) + ((nI 6) * a2)) + (nI 2)).toNatClampNeg), .int (nI 2), .int a2, .int a1, .ref B] (sh, (up2 f16 (B + 23) (((((nI 40) * a1) + (nI 14)) + ((nI 6) * a2)) + (nI 3)).toNatClampNeg ((f16 (B + 23) (((((nI 40) * a1) + (nI 14)) + ((nI 6) * a2)) + (nI 3)).toNatClampNeg) + (nI 1))), g17, fR)
          refine S_callS (As := [.int ((up2 f16 (B + 23) (((((nI 40) * a1) + (nI 14)) + ((nI 6) * a2)) + (nI 3)).toNatClampNeg ((f16 (B + 23) (((((nI 40) * a1) + (nI 14)) + ((nI 6) * a2)) + (nI 3)).toNatClampNeg) + (nI 1))) (B + 23) (((((nI 40) * a1) + (nI 14)) + ((nI 6) * a2)) + (nI 2)).toNatClampNeg)]) (mc := 0) (ms := 0) (pc := 117) dX12_fails_117 miX12_halved mvX12_halved mlX12_513 rfl rfl (RmOK.of rfl) H ?_
          rintro _ _ ⟨x23, f21, g22, rfl, rfl, H⟩
          show WP _ _ _ _ _ _ _ 120 [some (.ref B), some (.int a1), some (.int a2), some (.int a3), some (.int a4)] [.int x23, .int (nI 2), .int a2, .int a1, .ref B] (sh, f21, g22, fR)
          refine S_callV (As := [.int a1, .int a2, .int (nI 2), .int x23]) (mc := 0) (ms := 0) (pc := 120) dX12_fails_120 miX12_setsPath mvX12_setsPath mlX12_412 rfl (sM_0 hs) rfl rfl rfl (RmOK.of rfl) (Q := fun r h => WP _ _ _ _ _ _ _ 123 [some (.ref B), some (.int a1), some (.int a2), some (.int a3), some (.int a4)] (r.toList ++ []) h) (Cl.of miX12_setsPath rfl rfl ?_) (fun _ _ q => q)
          refine S_aload_n (pc := 0) dX12_setsPath_0 rfl rfl ?_
          refine S_getR (pc := 1) dX12_setsPath_1 flX12_144 (sM_0 hs) rfl (rM_43 hs) ?_
          refine S_bipush (pc := 4) dX12_setsPath_4 bp40 ?_
          refine S_iload_n (pc := 6) dX12_setsPath_6 rfl rfl ?_
          refine S_imul (pc := 7) dX12_setsPath_7 ?_
          refine S_bipush (pc := 8) dX12_setsPath_8 bp14 ?_
          refine S_iadd (pc := 10) dX12_setsPath_10 ?_
          refine S_bipush (pc := 11) dX12_setsPath_11 bp6 ?_
          refine S_iload_n (pc := 13) dX12_setsPath_13 rfl rfl ?_
          refine S_imul (pc := 14) dX12_setsPath_14 ?_
          refine S_iadd (pc := 15) dX12_setsPath_15 ?_
          refine S_iload_n (pc := 16) dX12_setsPath_16 rfl rfl ?_
          refine S_iadd (pc := 17) dX12_setsPath_17 ?_
          refine S_iload (pc := 18) dX12_setsPath_18 rfl ?_
          obtain ⟨hb24, H⟩ := H
          refine S_iast (pc := 20) dX12_setsPath_20 (sM_23 hs) (Nat.succ_pos _) hb24 ?_
          refine S_vreturn dX12_setsPath_21 rfl ?_
          show WP _ _ _ _ _ _ _ 123 [some (.ref B), some (.int a1), some (.int a2), some (.int a3), some (.int a4)] [] (sh, (up2 f21 (B + 23) (((((nI 40) * a1) + (nI 14)) + ((nI 6) * a2)) + (nI 2)).toNatClampNeg x23), g22, fR)
          refine S_aload_n (pc := 123) dX12_fails_123 rfl rfl ?_
          refine S_iload_n (pc := 124) dX12_fails_124 rfl rfl ?_
          refine S_iload_n (pc := 125) dX12_fails_125 rfl rfl ?_
          refine S_iconst (pc := 126) dX12_fails_126 ic3 ?_
          refine S_callV (As := [.int a1, .int a2, .int (nI 3)]) (mc := 0) (ms := 0) (pc := 127) dX12_fails_127 miX12_p mvX12_p mlX12_438 rfl (sM_0 hs) rfl rfl rfl (RmOK.of rfl) (Q := fun r h => WP _ _ _ _ _ _ _ 130 [some (.ref B), some (.int a1), some (.int a2), some (.int a3), some (.int a4)] (r.toList ++ []) h) (Cl.of miX12_p rfl rfl ?_) (fun _ _ q => q)
          refine S_aload_n (pc := 0) dX12_p_0 rfl rfl ?_
          refine S_getR (pc := 1) dX12_p_1 flX12_144 (sM_0 hs) rfl (rM_43 hs) ?_
          refine S_bipush (pc := 4) dX12_p_4 bp40 ?_
          refine S_iload_n (pc := 6) dX12_p_6 rfl rfl ?_
          refine S_imul (pc := 7) dX12_p_7 ?_
          refine S_bipush (pc := 8) dX12_p_8 bp14 ?_
          refine S_iadd (pc := 10) dX12_p_10 ?_
          refine S_bipush (pc := 11) dX12_p_11 bp6 ?_
          refine S_iload_n (pc := 13) dX12_p_13 rfl rfl ?_
          refine S_imul (pc := 14) dX12_p_14 ?_
          refine S_iadd (pc := 15) dX12_p_15 ?_
          refine S_iload_n (pc := 16) dX12_p_16 rfl rfl ?_
          refine S_iadd (pc := 17) dX12_p_17 ?_
          obtain ⟨hb25, H⟩ := H
          refine S_iald (pc := 18) dX12_p_18 (sM_23 hs) hb25 ?_
          refine S_ireturn dX12_p_19 rfl ?_
          show WP _ _ _ _ _ _ _ 130 [some (.ref B), some (.int a1), some (.int a2), some (.int a3), some (.int a4)] [.int ((up2 f21 (B + 23) (((((nI 40) * a1) + (nI 14)) + ((nI 6) * a2)) + (nI 2)).toNatClampNeg x23) (B + 23) (((((nI 40) * a1) + (nI 14)) + ((nI 6) * a2)) + (nI 3)).toNatClampNeg)] (sh, (up2 f21 (B + 23) (((((nI 40) * a1) + (nI 14)) + ((nI 6) * a2)) + (nI 2)).toNatClampNeg x23), g22, fR)
          refine S_iconst (pc := 130) dX12_fails_130 ic3 ?_
          refine S_icmp_ne (pc := 131) (tgt := 140) dX12_fails_131 rfl (fun hc26 => ?_) (fun hc26 => ?_)
          · replace H := H.1 hc26
            exact S_vreturn dX12_fails_140 rfl H
          · replace H := H.2 hc26
            refine S_aload_n (pc := 134) dX12_fails_134 rfl rfl ?_
            refine S_iload_n (pc := 135) dX12_fails_135 rfl rfl ?_
            refine S_iload_n (pc := 136) dX12_fails_136 rfl rfl ?_
            refine S_callV (As := [.int a1, .int a2]) (mc := 0) (ms := 0) (pc := 137) dX12_fails_137 miX12_dies mvX12_dies mlX12_516 rfl (sM_0 hs) rfl rfl rfl (RmOK.of rfl) H ?_
            rintro _ _ ⟨f27, g28, rfl, rfl, H⟩
            show WP _ _ _ _ _ _ _ 140 [some (.ref B), some (.int a1), some (.int a2), some (.int a3), some (.int a4)] [] (sh, f27, g28, fR)
            exact S_vreturn dX12_fails_140 rfl H
        · replace H := H.2 hc12
          refine S_goto (pc := 65) (tgt := 141) dX12_fails_65 rfl ?_
          exact H
set_option maxHeartbeats 2000000 in
set_option maxRecDepth 4000 in
theorem VX12_fails_141 {l : Launch} {G : Gx} {d : Nat} {Q : Option Value → Hp → Prop} {sh : Sh} {fR : FRt} {B : Nat} {f : FI} {g : FL} {a1 : Int32} {a2 : Int32} {a3 : Int32} {a4 : Int32} (hs : StM sh fR B)
    (H : LpX12_fails_10 l G d Q sh fR B f g a1 a2 a3 (a4 + nI 1)) :
    LpX12_fails_141 l G d Q sh fR B f g a1 a2 a3 a4 := by
  refine S_iinc (pc := 141) (v := nI 1) (L' := [some (.ref B), some (.int a1), some (.int a2), some (.int a3), some (.int (a4 + nI 1))]) dX12_fails_141 rfl ic1 rfl ?_
  refine S_goto (pc := 144) (tgt := 10) dX12_fails_144 rfl ?_
  exact H
abbrev LpX12_picked_8 (l : Launch) (G : Gx) (d : Nat) (Q : Option Value → Hp → Prop) (sh : Sh) (fR : FRt) (B : Nat) (f : FI) (g : FL) (a1 : Int32) (a2 : Int32) (a3 : Int32) (b4 : Int64) (a6 : Int32) : Prop := WP l G (Zq G 0 0 Q) mX12_picked (rmd (d + 3) 0 0) 0 0 8 [some (.ref B), some (.int a1), some (.int a2), some (.int a3), some (.long b4), none, some (.int a6), none, none] [] (sh, f, g, fR)
abbrev LpX12_picked_118 (l : Launch) (G : Gx) (d : Nat) (Q : Option Value → Hp → Prop) (sh : Sh) (fR : FRt) (B : Nat) (f : FI) (g : FL) (a1 : Int32) (a2 : Int32) (a3 : Int32) (b4 : Int64) (a6 : Int32) : Prop := WP l G (Zq G 0 0 Q) mX12_picked (rmd (d + 3) 0 0) 0 0 118 [some (.ref B), some (.int a1), some (.int a2), some (.int a3), some (.long b4), none, some (.int a6), none, none] [] (sh, f, g, fR)
abbrev LpX12_picked_95 (l : Launch) (G : Gx) (d : Nat) (Q : Option Value → Hp → Prop) (sh : Sh) (fR : FRt) (B : Nat) (f : FI) (g : FL) (a1 : Int32) (a2 : Int32) (a3 : Int32) (b4 : Int64) (a6 : Int32) (b7 : Int64) : Prop := WP l G (Zq G 0 0 Q) mX12_picked (rmd (d + 3) 0 0) 0 0 95 [some (.ref B), some (.int a1), some (.int a2), some (.int a3), some (.long b4), none, some (.int a6), some (.long b7), none] [] (sh, f, g, fR)
abbrev LpX12_picked_111 (l : Launch) (G : Gx) (d : Nat) (Q : Option Value → Hp → Prop) (sh : Sh) (fR : FRt) (B : Nat) (f : FI) (g : FL) (a1 : Int32) (a2 : Int32) (a6 : Int32) (b7 : Int64) : Prop := WP l G (Zq G 0 0 Q) mX12_picked (rmd (d + 3) 0 0) 0 0 111 [some (.ref B), some (.int a1), some (.int a2), none, none, none, some (.int a6), some (.long b7), none] [] (sh, f, g, fR)
set_option maxHeartbeats 2000000 in
set_option maxRecDepth 4000 in
theorem VX12_picked {l : Launch} {G : Gx} {d : Nat} {Q : Option Value → Hp → Prop} {sh : Sh} {fR : FRt} {B : Nat} {f : FI} {g : FL} {a1 : Int32} {a2 : Int32} (hs : StM sh fR B)
    (H : LpX12_picked_8 l G d Q sh fR B f g a1 a2 (-1) (lN 0) (nI 0)) :
    Cl l G (d + 3) 0 0 mX12_picked [.ref B, .int a1, .int a2] (sh, f, g, fR) Q := by
  refine Cl.of (L0 := [some (.ref B), some (.int a1), some (.int a2), none, none, none, none, none, none]) miX12_picked rfl rfl ?_
  refine S_iconst (pc := 0) dX12_picked_0 icm1 ?_
  refine S_istore_n (pc := 1) (L' := [some (.ref B), some (.int a1), some (.int a2), some (.int (-1)), none, none, none, none, none]) dX12_picked_1 rfl (by decide) rfl ?_
  refine S_lconst (pc := 2) dX12_picked_2 lc0 ?_
  refine S_lstore (pc := 3) (L' := [some (.ref B), some (.int a1), some (.int a2), some (.int (-1)), some (.long (lN 0)), none, none, none, none]) dX12_picked_3 (by decide) rfl ?_
  refine S_iconst (pc := 5) dX12_picked_5 ic0 ?_
  refine S_istore (pc := 6) (L' := [some (.ref B), some (.int a1), some (.int a2), some (.int (-1)), some (.long (lN 0)), none, some (.int (nI 0)), none, none]) dX12_picked_6 (by decide) rfl ?_
  exact H
set_option maxHeartbeats 2000000 in
set_option maxRecDepth 4000 in
theorem VX12_picked_8 {l : Launch} {G : Gx} {d : Nat} {Q : Option Value → Hp → Prop} {sh : Sh} {fR : FRt} {B : Nat} {f : FI} {g : FL} {a1 : Int32} {a2 : Int32} {a3 : Int32} {b4 : Int64} {a6 : Int32} (hs : StM sh fR B)
    (H : inb (f B 13) 2 ∧ (((f (B + 6) (f B 13).toNatClampNeg) ≤ a6 → Q (some (.int a3)) (sh, f, g, fR)) ∧ (¬ (f (B + 6) (f B 13).toNatClampNeg) ≤ a6 → ((a6 = a2 → LpX12_picked_118 l G d Q sh fR B f g a1 a2 a3 b4 a6) ∧ (¬ a6 = a2 → Cl l G (d + 2) 0 0 mX12_isFree [.ref B, .int a1, .int a6] (sh, f, g, fR) (qi sh fR fun x6 f4 g5 => ((x6 = 0 → LpX12_picked_118 l G d Q sh fR B f4 g5 a1 a2 a3 b4 a6) ∧ (¬ x6 = 0 → Cl l G (d + 2) 0 0 mX12_flyingOn [.ref B, .int a1, .int a6] (sh, f4, g5, fR) (qi sh fR fun x10 f8 g9 => inb (((((nI 40) * a1) + (nI 14)) + ((nI 6) * a6)) + (nI 2)) 880 ∧ ((((nI 1000) * x10) < (f8 (B + 23) (((((nI 40) * a1) + (nI 14)) + ((nI 6) * a6)) + (nI 2)).toNatClampNeg) → inb a6 4 ∧ (∀ z14 : Int64, z14 = (f8 (B + 29) a6.toNatClampNeg).toInt64 → Cl l G (d + 2) 0 0 mX12_isTold [.ref B, .int (nI 1)] (sh, f8, g9, fR) (qi sh fR fun x18 f16 g17 => ((x18 = 0 → LpX12_picked_95 l G d Q sh fR B f16 g17 a1 a2 a3 b4 a6 z14) ∧ (¬ x18 = 0 → Cl l G (d + 2) 0 0 mX12_lays [.ref B, .int a1, .int a6] (sh, f16, g17, fR) (qv sh fR fun f20 g21 => Cl l G (d + 2) 0 0 mX12_reckons [.ref B, .int (nI 1)] (sh, f20, g21, fR) (ql sh fR fun y24 f22 g23 => LpX12_picked_95 l G d Q sh fR B f22 g23 a1 a2 a3 b4 a6 y24))))))) ∧ (¬ ((nI 1000) * x10) < (f8 (B + 23) (((((nI 40) * a1) + (nI 14)) + ((nI 6) * a6)) + (nI 2)).toNatClampNeg) → LpX12_picked_118 l G d Q sh fR B f8 g9 a1 a2 a3 b4 a6))))))))))) :
    LpX12_picked_8 l G d Q sh fR B f g a1 a2 a3 b4 a6 := by
  refine S_iload (pc := 8) dX12_picked_8 rfl ?_
  refine S_aload_n (pc := 10) dX12_picked_10 rfl rfl ?_
  refine S_getR (pc := 11) dX12_picked_11 flX12_66 (sM_0 hs) rfl (rM_18 hs) ?_
  refine S_aload_n (pc := 14) dX12_picked_14 rfl rfl ?_
  refine S_get (pc := 15) (v := .int (f B 13)) dX12_picked_15 flX12_51 (sM_0 hs) rfl ?_
  obtain ⟨hb1, H⟩ := H
  refine S_iald (pc := 18) dX12_picked_18 (sM_6 hs) hb1 ?_
  refine S_icmp_ge (pc := 19) (tgt := 124) dX12_picked_19 rfl (fun hc2 => ?_) (fun hc2 => ?_)
  · replace H := H.1 hc2
    refine S_iload_n (pc := 124) dX12_picked_124 rfl rfl ?_
    exact S_ireturn dX12_picked_125 rfl H
  · replace H := H.2 hc2
    refine S_iload (pc := 22) dX12_picked_22 rfl ?_
    refine S_iload_n (pc := 24) dX12_picked_24 rfl rfl ?_
    refine S_icmp_eq (pc := 25) (tgt := 118) dX12_picked_25 rfl (fun hc3 => ?_) (fun hc3 => ?_)
    · replace H := H.1 hc3
      exact H
    · replace H := H.2 hc3
      refine S_aload_n (pc := 28) dX12_picked_28 rfl rfl ?_
      refine S_iload_n (pc := 29) dX12_picked_29 rfl rfl ?_
      refine S_iload (pc := 30) dX12_picked_30 rfl ?_
      refine S_callV (As := [.int a1, .int a6]) (mc := 0) (ms := 0) (pc := 32) dX12_picked_32 miX12_isFree mvX12_isFree mlX12_470 rfl (sM_0 hs) rfl rfl rfl (RmOK.of rfl) H ?_
      rintro _ _ ⟨x6, f4, g5, rfl, rfl, H⟩
      show WP _ _ _ _ _ _ _ 35 [some (.ref B), some (.int a1), some (.int a2), some (.int a3), some (.long b4), none, some (.int a6), none, none] [.int x6] (sh, f4, g5, fR)
      refine S_if_eq (pc := 35) (tgt := 118) dX12_picked_35 rfl (fun hc7 => ?_) (fun hc7 => ?_)
      · replace H := H.1 hc7
        exact H
      · replace H := H.2 hc7
        refine S_sipush (pc := 38) dX12_picked_38 sp1000 ?_
        refine S_aload_n (pc := 41) dX12_picked_41 rfl rfl ?_
        refine S_iload_n (pc := 42) dX12_picked_42 rfl rfl ?_
        refine S_iload (pc := 43) dX12_picked_43 rfl ?_
        refine S_callV (As := [.int a1, .int a6]) (mc := 0) (ms := 0) (pc := 45) dX12_picked_45 miX12_flyingOn mvX12_flyingOn mlX12_442 rfl (sM_0 hs) rfl rfl rfl (RmOK.of rfl) H ?_
        rintro _ _ ⟨x10, f8, g9, rfl, rfl, H⟩
        show WP _ _ _ _ _ _ _ 48 [some (.ref B), some (.int a1), some (.int a2), some (.int a3), some (.long b4), none, some (.int a6), none, none] [.int x10, .int (nI 1000)] (sh, f8, g9, fR)
        refine S_imul (pc := 48) dX12_picked_48 ?_
        refine S_aload_n (pc := 49) dX12_picked_49 rfl rfl ?_
        refine S_iload_n (pc := 50) dX12_picked_50 rfl rfl ?_
        refine S_iload (pc := 51) dX12_picked_51 rfl ?_
        refine S_iconst (pc := 53) dX12_picked_53 ic2 ?_
        refine S_callV (As := [.int a1, .int a6, .int (nI 2)]) (mc := 0) (ms := 0) (pc := 54) dX12_picked_54 miX12_p mvX12_p mlX12_438 rfl (sM_0 hs) rfl rfl rfl (RmOK.of rfl) (Q := fun r h => WP _ _ _ _ _ _ _ 57 [some (.ref B), some (.int a1), some (.int a2), some (.int a3), some (.long b4), none, some (.int a6), none, none] (r.toList ++ [.int ((nI 1000) * x10)]) h) (Cl.of miX12_p rfl rfl ?_) (fun _ _ q => q)
        refine S_aload_n (pc := 0) dX12_p_0 rfl rfl ?_
        refine S_getR (pc := 1) dX12_p_1 flX12_144 (sM_0 hs) rfl (rM_43 hs) ?_
        refine S_bipush (pc := 4) dX12_p_4 bp40 ?_
        refine S_iload_n (pc := 6) dX12_p_6 rfl rfl ?_
        refine S_imul (pc := 7) dX12_p_7 ?_
        refine S_bipush (pc := 8) dX12_p_8 bp14 ?_
        refine S_iadd (pc := 10) dX12_p_10 ?_
        refine S_bipush (pc := 11) dX12_p_11 bp6 ?_
        refine S_iload_n (pc := 13) dX12_p_13 rfl rfl ?_
        refine S_imul (pc := 14) dX12_p_14 ?_
        refine S_iadd (pc := 15) dX12_p_15 ?_
        refine S_iload_n (pc := 16) dX12_p_16 rfl rfl ?_
        refine S_iadd (pc := 17) dX12_p_17 ?_
        obtain ⟨hb11, H⟩ := H
        refine S_iald (pc := 18) dX12_p_18 (sM_23 hs) hb11 ?_
        refine S_ireturn dX12_p_19 rfl ?_
        show WP _ _ _ _ _ _ _ 57 [some (.ref B), some (.int a1), some (.int a2), some (.int a3), some (.long b4), none, some (.int a6), none, none] [.int (f8 (B + 23) (((((nI 40) * a1) + (nI 14)) + ((nI 6) * a6)) + (nI 2)).toNatClampNeg), .int ((nI 1000) * x10)] (sh, f8, g9, fR)
        refine S_icmp_lt (pc := 57) (tgt := 63) dX12_picked_57 rfl (fun hc12 => ?_) (fun hc12 => ?_)
        · replace H := H.1 hc12
          refine S_aload_n (pc := 63) dX12_picked_63 rfl rfl ?_
          refine S_getR (pc := 64) dX12_picked_64 flX12_176 (sM_0 hs) rfl (rM_53 hs) ?_
          refine S_iload (pc := 67) dX12_picked_67 rfl ?_
          obtain ⟨hb13, H⟩ := H
          refine S_iald (pc := 69) dX12_picked_69 (sM_29 hs) hb13 ?_
          refine S_i2l (pc := 70) dX12_picked_70 ?_
          refine S_namel (fun z14 e15 => ?_)
          replace H := H z14 e15
          refine S_lstore (pc := 71) (L' := [some (.ref B), some (.int a1), some (.int a2), some (.int a3), some (.long b4), none, some (.int a6), some (.long z14), none]) dX12_picked_71 (by decide) rfl ?_
          refine S_aload_n (pc := 73) dX12_picked_73 rfl rfl ?_
          refine S_iconst (pc := 74) dX12_picked_74 ic1 ?_
          refine S_callV (As := [.int (nI 1)]) (mc := 0) (ms := 0) (pc := 75) dX12_picked_75 miX12_isTold mvX12_isTold mlX12_452 rfl (sM_0 hs) rfl rfl rfl (RmOK.of rfl) H ?_
          rintro _ _ ⟨x18, f16, g17, rfl, rfl, H⟩
          show WP _ _ _ _ _ _ _ 78 [some (.ref B), some (.int a1), some (.int a2), some (.int a3), some (.long b4), none, some (.int a6), some (.long z14), none] [.int x18] (sh, f16, g17, fR)
          refine S_if_eq (pc := 78) (tgt := 95) dX12_picked_78 rfl (fun hc19 => ?_) (fun hc19 => ?_)
          · replace H := H.1 hc19
            exact H
          · replace H := H.2 hc19
            refine S_aload_n (pc := 81) dX12_picked_81 rfl rfl ?_
            refine S_iload_n (pc := 82) dX12_picked_82 rfl rfl ?_
            refine S_iload (pc := 83) dX12_picked_83 rfl ?_
            refine S_callV (As := [.int a1, .int a6]) (mc := 0) (ms := 0) (pc := 85) dX12_picked_85 miX12_lays mvX12_lays mlX12_455 rfl (sM_0 hs) rfl rfl rfl (RmOK.of rfl) H ?_
            rintro _ _ ⟨f20, g21, rfl, rfl, H⟩
            show WP _ _ _ _ _ _ _ 88 [some (.ref B), some (.int a1), some (.int a2), some (.int a3), some (.long b4), none, some (.int a6), some (.long z14), none] [] (sh, f20, g21, fR)
            refine S_aload_n (pc := 88) dX12_picked_88 rfl rfl ?_
            refine S_iconst (pc := 89) dX12_picked_89 ic1 ?_
            refine S_callV (As := [.int (nI 1)]) (mc := 0) (ms := 0) (pc := 90) dX12_picked_90 miX12_reckons mvX12_reckons mlX12_458 rfl (sM_0 hs) rfl rfl rfl (RmOK.of rfl) H ?_
            rintro _ _ ⟨y24, f22, g23, rfl, rfl, H⟩
            show WP _ _ _ _ _ _ _ 93 [some (.ref B), some (.int a1), some (.int a2), some (.int a3), some (.long b4), none, some (.int a6), some (.long z14), none] [.long y24] (sh, f22, g23, fR)
            refine S_lstore (pc := 93) (L' := [some (.ref B), some (.int a1), some (.int a2), some (.int a3), some (.long b4), none, some (.int a6), some (.long y24), none]) dX12_picked_93 (by decide) rfl ?_
            exact H
        · replace H := H.2 hc12
          refine S_goto (pc := 60) (tgt := 118) dX12_picked_60 rfl ?_
          exact H
set_option maxHeartbeats 2000000 in
set_option maxRecDepth 4000 in
theorem VX12_picked_118 {l : Launch} {G : Gx} {d : Nat} {Q : Option Value → Hp → Prop} {sh : Sh} {fR : FRt} {B : Nat} {f : FI} {g : FL} {a1 : Int32} {a2 : Int32} {a3 : Int32} {b4 : Int64} {a6 : Int32} (hs : StM sh fR B)
    (H : LpX12_picked_8 l G d Q sh fR B f g a1 a2 a3 b4 (a6 + nI 1)) :
    LpX12_picked_118 l G d Q sh fR B f g a1 a2 a3 b4 a6 := by
  refine S_iinc (pc := 118) (v := nI 1) (L' := [some (.ref B), some (.int a1), some (.int a2), some (.int a3), some (.long b4), none, some (.int (a6 + nI 1)), none, none]) dX12_picked_118 rfl ic1 rfl ?_
  refine S_goto (pc := 121) (tgt := 8) dX12_picked_121 rfl ?_
  exact H
set_option maxHeartbeats 2000000 in
set_option maxRecDepth 4000 in
theorem VX12_picked_95 {l : Launch} {G : Gx} {d : Nat} {Q : Option Value → Hp → Prop} {sh : Sh} {fR : FRt} {B : Nat} {f : FI} {g : FL} {a1 : Int32} {a2 : Int32} {a3 : Int32} {b4 : Int64} {a6 : Int32} {b7 : Int64} (hs : StM sh fR B)
    (H : ((a3 = (-1) → LpX12_picked_111 l G d Q sh fR B f g a1 a2 a6 b7) ∧ (¬ a3 = (-1) → ((b7 < b4 → LpX12_picked_111 l G d Q sh fR B f g a1 a2 a6 b7) ∧ (¬ b7 < b4 → LpX12_picked_118 l G d Q sh fR B f g a1 a2 a3 b4 a6))))) :
    LpX12_picked_95 l G d Q sh fR B f g a1 a2 a3 b4 a6 b7 := by
  refine S_iload_n (pc := 95) dX12_picked_95 rfl rfl ?_
  refine S_iconst (pc := 96) dX12_picked_96 icm1 ?_
  refine S_icmp_eq (pc := 97) (tgt := 111) dX12_picked_97 rfl (fun hc25 => ?_) (fun hc25 => ?_)
  · replace H := H.1 hc25
    exact S_weak (L' := [some (.ref B), some (.int a1), some (.int a2), none, none, none, some (.int a6), some (.long b7), none]) (ls_e (ls_e (ls_e (ls_n (ls_n (ls_e (ls_e (ls_e (ls_e ls_0))))))))) H
  · replace H := H.2 hc25
    refine S_lload (pc := 100) dX12_picked_100 rfl ?_
    refine S_lload (pc := 102) dX12_picked_102 rfl ?_
    refine S_lcmp_lt (pc := 104) (tgt := 111) dX12_picked_104 dX12_picked_105 rfl (fun hc26 => ?_) (fun hc26 => ?_)
    · replace H := H.1 hc26
      exact S_weak (L' := [some (.ref B), some (.int a1), some (.int a2), none, none, none, some (.int a6), some (.long b7), none]) (ls_e (ls_e (ls_e (ls_n (ls_n (ls_e (ls_e (ls_e (ls_e ls_0))))))))) H
    · replace H := H.2 hc26
      refine S_goto (pc := 108) (tgt := 118) dX12_picked_108 rfl ?_
      exact S_weak (L' := [some (.ref B), some (.int a1), some (.int a2), some (.int a3), some (.long b4), none, some (.int a6), none, none]) (ls_e (ls_e (ls_e (ls_e (ls_e (ls_e (ls_e (ls_n (ls_e ls_0))))))))) H
set_option maxHeartbeats 2000000 in
set_option maxRecDepth 4000 in
theorem VX12_picked_111 {l : Launch} {G : Gx} {d : Nat} {Q : Option Value → Hp → Prop} {sh : Sh} {fR : FRt} {B : Nat} {f : FI} {g : FL} {a1 : Int32} {a2 : Int32} {a6 : Int32} {b7 : Int64} (hs : StM sh fR B)
    (H : LpX12_picked_118 l G d Q sh fR B f g a1 a2 a6 b7 a6) :
    LpX12_picked_111 l G d Q sh fR B f g a1 a2 a6 b7 := by
  refine S_iload (pc := 111) dX12_picked_111 rfl ?_
  refine S_istore_n (pc := 113) (L' := [some (.ref B), some (.int a1), some (.int a2), some (.int a6), none, none, some (.int a6), some (.long b7), none]) dX12_picked_113 rfl (by decide) rfl ?_
  refine S_lload (pc := 114) dX12_picked_114 rfl ?_
  refine S_lstore (pc := 116) (L' := [some (.ref B), some (.int a1), some (.int a2), some (.int a6), some (.long b7), none, some (.int a6), some (.long b7), none]) dX12_picked_116 (by decide) rfl ?_
  exact S_weak (L' := [some (.ref B), some (.int a1), some (.int a2), some (.int a6), some (.long b7), none, some (.int a6), none, none]) (ls_e (ls_e (ls_e (ls_e (ls_e (ls_e (ls_e (ls_n (ls_e ls_0))))))))) H
abbrev LpX12_sends_67 (l : Launch) (G : Gx) (d : Nat) (Q : Option Value → Hp → Prop) (sh : Sh) (fR : FRt) (B : Nat) (f : FI) (g : FL) (a1 : Int32) (a2 : Int32) (a3 : Int32) (a4 : Int32) (a5 : Int32) (a6 : Int32) (a7 : Int32) : Prop := WP l G (Zq G 0 0 Q) mX12_sends (rmd (d + 3) 0 0) 0 0 67 [some (.ref B), some (.int a1), some (.int a2), some (.int a3), some (.int a4), some (.int a5), some (.int a6), some (.int a7)] [] (sh, f, g, fR)
abbrev LpX12_sends_80 (l : Launch) (G : Gx) (d : Nat) (Q : Option Value → Hp → Prop) (sh : Sh) (fR : FRt) (B : Nat) (f : FI) (g : FL) (a1 : Int32) (a2 : Int32) (a3 : Int32) (a4 : Int32) (a5 : Int32) (a6 : Int32) (a7 : Int32) : Prop := WP l G (Zq G 0 0 Q) mX12_sends (rmd (d + 3) 0 0) 0 0 80 [some (.ref B), some (.int a1), some (.int a2), some (.int a3), some (.int a4), some (.int a5), some (.int a6), some (.int a7)] [] (sh, f, g, fR)
abbrev LpX12_sends_128 (l : Launch) (G : Gx) (d : Nat) (Q : Option Value → Hp → Prop) (sh : Sh) (fR : FRt) (B : Nat) (f : FI) (g : FL) (a1 : Int32) (a2 : Int32) (a3 : Int32) (a4 : Int32) (a5 : Int32) (a6 : Int32) (a7 : Int32) : Prop := WP l G (Zq G 0 0 Q) mX12_sends (rmd (d + 3) 0 0) 0 0 128 [some (.ref B), some (.int a1), some (.int a2), some (.int a3), some (.int a4), some (.int a5), some (.int a6), some (.int a7)] [] (sh, f, g, fR)
set_option maxHeartbeats 2000000 in
set_option maxRecDepth 4000 in
theorem VX12_sends {l : Launch} {G : Gx} {d : Nat} {Q : Option Value → Hp → Prop} {sh : Sh} {fR : FRt} {B : Nat} {f : FI} {g : FL} {a1 : Int32} {a2 : Int32} {a3 : Int32} {a4 : Int32} (hs : StM sh fR B)
    (H : inb (((nI 40) * a1) + (nI 6)) 880 ∧ (∀ w2 : Int32, w2 = f (B + 23) (((nI 40) * a1) + (nI 6)).toNatClampNeg → inb (((((nI 40) * a1) + (nI 14)) + ((nI 6) * a2)) + (nI 4)) 880 ∧ (∀ w5 : Int32, w5 = f (B + 23) (((((nI 40) * a1) + (nI 14)) + ((nI 6) * a2)) + (nI 4)).toNatClampNeg → Cl l G (d + 2) 0 0 mX12_isTold [.ref B, .int (nI 0)] (sh, f, g, fR) (qi sh fR fun x9 f7 g8 => ((x9 = 0 → LpX12_sends_67 l G d Q sh fR B f7 g8 a1 a2 a3 a4 w2 w5 (nI 0)) ∧ (¬ x9 = 0 → Cl l G (d + 2) 0 0 mX12_lays [.ref B, .int a1, .int a2] (sh, f7, g8, fR) (qv sh fR fun f11 g12 => Cl l G (d + 2) 0 0 mX12_reckons [.ref B, .int (nI 0)] (sh, (up2 (up2 f11 (B + 31) 3 w5) (B + 31) 4 a3), g12, fR) (ql sh fR fun y15 f13 g14 => ((¬ y15 = (lN 1) → LpX12_sends_67 l G d Q sh fR B f13 g14 a1 a2 a3 a4 w2 w5 (nI 0)) ∧ (y15 = (lN 1) → LpX12_sends_67 l G d Q sh fR B f13 g14 a1 a2 a3 a4 w2 w5 (nI 1))))))))))) :
    Cl l G (d + 3) 0 0 mX12_sends [.ref B, .int a1, .int a2, .int a3, .int a4] (sh, f, g, fR) Q := by
  refine Cl.of (L0 := [some (.ref B), some (.int a1), some (.int a2), some (.int a3), some (.int a4), none, none, none]) miX12_sends rfl rfl ?_
  refine S_aload_n (pc := 0) dX12_sends_0 rfl rfl ?_
  refine S_iload_n (pc := 1) dX12_sends_1 rfl rfl ?_
  refine S_bipush (pc := 2) dX12_sends_2 bp6 ?_
  refine S_callV (As := [.int a1, .int (nI 6)]) (mc := 0) (ms := 0) (pc := 4) dX12_sends_4 miX12_n mvX12_n mlX12_402 rfl (sM_0 hs) rfl rfl rfl (RmOK.of rfl) (Q := fun r h => WP _ _ _ _ _ _ _ 7 [some (.ref B), some (.int a1), some (.int a2), some (.int a3), some (.int a4), none, none, none] (r.toList ++ []) h) (Cl.of miX12_n rfl rfl ?_) (fun _ _ q => q)
  refine S_aload_n (pc := 0) dX12_n_0 rfl rfl ?_
  refine S_getR (pc := 1) dX12_n_1 flX12_144 (sM_0 hs) rfl (rM_43 hs) ?_
  refine S_bipush (pc := 4) dX12_n_4 bp40 ?_
  refine S_iload_n (pc := 6) dX12_n_6 rfl rfl ?_
  refine S_imul (pc := 7) dX12_n_7 ?_
  refine S_iload_n (pc := 8) dX12_n_8 rfl rfl ?_
  refine S_iadd (pc := 9) dX12_n_9 ?_
  obtain ⟨hb1, H⟩ := H
  refine S_iald (pc := 10) dX12_n_10 (sM_23 hs) hb1 ?_
  refine S_ireturn dX12_n_11 rfl ?_
  show WP _ _ _ _ _ _ _ 7 [some (.ref B), some (.int a1), some (.int a2), some (.int a3), some (.int a4), none, none, none] [.int (f (B + 23) (((nI 40) * a1) + (nI 6)).toNatClampNeg)] (sh, f, g, fR)
  refine S_namei (fun w2 e3 => ?_)
  replace H := H w2 e3
  refine S_istore (pc := 7) (L' := [some (.ref B), some (.int a1), some (.int a2), some (.int a3), some (.int a4), some (.int w2), none, none]) dX12_sends_7 (by decide) rfl ?_
  refine S_aload_n (pc := 9) dX12_sends_9 rfl rfl ?_
  refine S_iload_n (pc := 10) dX12_sends_10 rfl rfl ?_
  refine S_iload_n (pc := 11) dX12_sends_11 rfl rfl ?_
  refine S_iconst (pc := 12) dX12_sends_12 ic4 ?_
  refine S_callV (As := [.int a1, .int a2, .int (nI 4)]) (mc := 0) (ms := 0) (pc := 13) dX12_sends_13 miX12_p mvX12_p mlX12_438 rfl (sM_0 hs) rfl rfl rfl (RmOK.of rfl) (Q := fun r h => WP _ _ _ _ _ _ _ 16 [some (.ref B), some (.int a1), some (.int a2), some (.int a3), some (.int a4), some (.int w2), none, none] (r.toList ++ []) h) (Cl.of miX12_p rfl rfl ?_) (fun _ _ q => q)
  refine S_aload_n (pc := 0) dX12_p_0 rfl rfl ?_
  refine S_getR (pc := 1) dX12_p_1 flX12_144 (sM_0 hs) rfl (rM_43 hs) ?_
  refine S_bipush (pc := 4) dX12_p_4 bp40 ?_
  refine S_iload_n (pc := 6) dX12_p_6 rfl rfl ?_
  refine S_imul (pc := 7) dX12_p_7 ?_
  refine S_bipush (pc := 8) dX12_p_8 bp14 ?_
  refine S_iadd (pc := 10) dX12_p_10 ?_
  refine S_bipush (pc := 11) dX12_p_11 bp6 ?_
  refine S_iload_n (pc := 13) dX12_p_13 rfl rfl ?_
  refine S_imul (pc := 14) dX12_p_14 ?_
  refine S_iadd (pc := 15) dX12_p_15 ?_
  refine S_iload_n (pc := 16) dX12_p_16 rfl rfl ?_
  refine S_iadd (pc := 17) dX12_p_17 ?_
  obtain ⟨hb4, H⟩ := H
  refine S_iald (pc := 18) dX12_p_18 (sM_23 hs) hb4 ?_
  refine S_ireturn dX12_p_19 rfl ?_
  show WP _ _ _ _ _ _ _ 16 [some (.ref B), some (.int a1), some (.int a2), some (.int a3), some (.int a4), some (.int w2), none, none] [.int (f (B + 23) (((((nI 40) * a1) + (nI 14)) + ((nI 6) * a2)) + (nI 4)).toNatClampNeg)] (sh, f, g, fR)
  refine S_namei (fun w5 e6 => ?_)
  replace H := H w5 e6
  refine S_istore (pc := 16) (L' := [some (.ref B), some (.int a1), some (.int a2), some (.int a3), some (.int a4), some (.int w2), some (.int w5), none]) dX12_sends_16 (by decide) rfl ?_
  refine S_iconst (pc := 18) dX12_sends_18 ic0 ?_
  refine S_istore (pc := 19) (L' := [some (.ref B), some (.int a1), some (.int a2), some (.int a3), some (.int a4), some (.int w2), some (.int w5), some (.int (nI 0))]) dX12_sends_19 (by decide) rfl ?_
  refine S_aload_n (pc := 21) dX12_sends_21 rfl rfl ?_
  refine S_iconst (pc := 22) dX12_sends_22 ic0 ?_
  refine S_callV (As := [.int (nI 0)]) (mc := 0) (ms := 0) (pc := 23) dX12_sends_23 miX12_isTold mvX12_isTold mlX12_452 rfl (sM_0 hs) rfl rfl rfl (RmOK.of rfl) H ?_
  rintro _ _ ⟨x9, f7, g8, rfl, rfl, H⟩
  show WP _ _ _ _ _ _ _ 26 [some (.ref B), some (.int a1), some (.int a2), some (.int a3), some (.int a4), some (.int w2), some (.int w5), some (.int (nI 0))] [.int x9] (sh, f7, g8, fR)
  refine S_if_eq (pc := 26) (tgt := 67) dX12_sends_26 rfl (fun hc10 => ?_) (fun hc10 => ?_)
  · replace H := H.1 hc10
    exact H
  · replace H := H.2 hc10
    refine S_aload_n (pc := 29) dX12_sends_29 rfl rfl ?_
    refine S_iload_n (pc := 30) dX12_sends_30 rfl rfl ?_
    refine S_iload_n (pc := 31) dX12_sends_31 rfl rfl ?_
    refine S_callV (As := [.int a1, .int a2]) (mc := 0) (ms := 0) (pc := 32) dX12_sends_32 miX12_lays mvX12_lays mlX12_455 rfl (sM_0 hs) rfl rfl rfl (RmOK.of rfl) H ?_
    rintro _ _ ⟨f11, g12, rfl, rfl, H⟩
    show WP _ _ _ _ _ _ _ 35 [some (.ref B), some (.int a1), some (.int a2), some (.int a3), some (.int a4), some (.int w2), some (.int w5), some (.int (nI 0))] [] (sh, f11, g12, fR)
    refine S_aload_n (pc := 35) dX12_sends_35 rfl rfl ?_
    refine S_getR (pc := 36) dX12_sends_36 flX12_182 (sM_0 hs) rfl (rM_55 hs) ?_
    refine S_iconst (pc := 39) dX12_sends_39 ic3 ?_
    refine S_iload (pc := 40) dX12_sends_40 rfl ?_
    refine S_iast (pc := 42) dX12_sends_42 (sM_31 hs) (Nat.succ_pos _) (vp_in_nI (by decide) (by decide)) ?_
    show WP _ _ _ _ _ _ _ 43 _ _ (sh, (up2 f11 (B + 31) 3 w5), g12, fR)
    refine S_aload_n (pc := 43) dX12_sends_43 rfl rfl ?_
    refine S_getR (pc := 44) dX12_sends_44 flX12_182 (sM_0 hs) rfl (rM_55 hs) ?_
    refine S_iconst (pc := 47) dX12_sends_47 ic4 ?_
    refine S_iload_n (pc := 48) dX12_sends_48 rfl rfl ?_
    refine S_iast (pc := 49) dX12_sends_49 (sM_31 hs) (Nat.succ_pos _) (vp_in_nI (by decide) (by decide)) ?_
    show WP _ _ _ _ _ _ _ 50 _ _ (sh, (up2 (up2 f11 (B + 31) 3 w5) (B + 31) 4 a3), g12, fR)
    refine S_aload_n (pc := 50) dX12_sends_50 rfl rfl ?_
    refine S_iconst (pc := 51) dX12_sends_51 ic0 ?_
    refine S_callV (As := [.int (nI 0)]) (mc := 0) (ms := 0) (pc := 52) dX12_sends_52 miX12_reckons mvX12_reckons mlX12_458 rfl (sM_0 hs) rfl rfl rfl (RmOK.of rfl) H ?_
    rintro _ _ ⟨y15, f13, g14, rfl, rfl, H⟩
    show WP _ _ _ _ _ _ _ 55 [some (.ref B), some (.int a1), some (.int a2), some (.int a3), some (.int a4), some (.int w2), some (.int w5), some (.int (nI 0))] [.long y15] (sh, f13, g14, fR)
    refine S_lconst (pc := 55) dX12_sends_55 lc1 ?_
    refine S_lcmp_ne (pc := 56) (tgt := 64) dX12_sends_56 dX12_sends_57 rfl (fun hc16 => ?_) (fun hc16 => ?_)
    · replace H := H.1 hc16
      refine S_iconst (pc := 64) dX12_sends_64 ic0 ?_
      refine S_istore (pc := 65) (L' := [some (.ref B), some (.int a1), some (.int a2), some (.int a3), some (.int a4), some (.int w2), some (.int w5), some (.int (nI 0))]) dX12_sends_65 (by decide) rfl ?_
      exact H
    · replace H := H.2 hc16
      refine S_iconst (pc := 60) dX12_sends_60 ic1 ?_
      refine S_goto (pc := 61) (tgt := 65) dX12_sends_61 rfl ?_
      refine S_istore (pc := 65) (L' := [some (.ref B), some (.int a1), some (.int a2), some (.int a3), some (.int a4), some (.int w2), some (.int w5), some (.int (nI 1))]) dX12_sends_65 (by decide) rfl ?_
      exact H
set_option maxHeartbeats 2000000 in
set_option maxRecDepth 4000 in
theorem VX12_sends_67 {l : Launch} {G : Gx} {d : Nat} {Q : Option Value → Hp → Prop} {sh : Sh} {fR : FRt} {B : Nat} {f : FI} {g : FL} {a1 : Int32} {a2 : Int32} {a3 : Int32} {a4 : Int32} {a5 : Int32} {a6 : Int32} {a7 : Int32} (hs : StM sh fR B)
    (H : ((¬ (f B 61) = 0 → LpX12_sends_80 l G d Q sh fR B f g a1 a2 a3 a4 a5 a6 a7) ∧ ((f B 61) = 0 → (a7 = 0 ∨ a7 = 1) ∧ LpX12_sends_80 l G d Q sh fR B (up2 f B 63 a7) g a1 a2 a3 a4 a5 a6 a7))) :
    LpX12_sends_67 l G d Q sh fR B f g a1 a2 a3 a4 a5 a6 a7 := by
  refine S_aload_n (pc := 67) dX12_sends_67 rfl rfl ?_
  refine S_get (pc := 68) (v := .int (f B 61)) dX12_sends_68 flX12_200 (sM_0 hs) rfl ?_
  refine S_if_ne (pc := 71) (tgt := 80) dX12_sends_71 rfl (fun hc17 => ?_) (fun hc17 => ?_)
  · replace H := H.1 hc17
    exact H
  · replace H := H.2 hc17
    refine S_aload_n (pc := 74) dX12_sends_74 rfl rfl ?_
    refine S_iload (pc := 75) dX12_sends_75 rfl ?_
    obtain ⟨hc18, H⟩ := H
    refine S_putI (pc := 77) dX12_sends_77 flX12_206 (sM_0 hs) hs.2.2 (nf_12_63) (nb_of hc18) (fb_of hc18) (fun _ => rfl) ?_
    exact H
set_option maxHeartbeats 2000000 in
set_option maxRecDepth 4000 in
theorem VX12_sends_80 {l : Launch} {G : Gx} {d : Nat} {Q : Option Value → Hp → Prop} {sh : Sh} {fR : FRt} {B : Nat} {f : FI} {g : FL} {a1 : Int32} {a2 : Int32} {a3 : Int32} {a4 : Int32} {a5 : Int32} {a6 : Int32} {a7 : Int32} (hs : StM sh fR B)
    (H : (((f B 60) = 0 → LpX12_sends_128 l G d Q sh fR B (up2 f B 61 ((f B 61) + (nI 1))) g a1 a2 a3 a4 a5 a6 a7) ∧ (¬ (f B 60) = 0 → Cl l G (d + 2) 0 0 mX12_draw [.ref B, .int (nI 100)] (sh, (up2 f B 61 ((f B 61) + (nI 1))), g, fR) (qi sh fR fun x22 f20 g21 => inb (f20 B 13) 2 ∧ (((f20 (B + 10) (f20 B 13).toNatClampNeg) ≤ x22 → LpX12_sends_128 l G d Q sh fR B f20 g21 a1 a2 a3 a4 a5 a6 a7) ∧ (¬ (f20 (B + 10) (f20 B 13).toNatClampNeg) ≤ x22 → LpX12_sends_128 l G d Q sh fR B (up2 f20 B 62 ((f20 B 62) + (nI 1))) g21 a1 a2 a3 a4 a5 a6 (nI 1))))))) :
    LpX12_sends_80 l G d Q sh fR B f g a1 a2 a3 a4 a5 a6 a7 := by
  refine S_aload_n (pc := 80) dX12_sends_80 rfl rfl ?_
  refine S_dup (pc := 81) dX12_sends_81 rfl ?_
  refine S_get (pc := 82) (v := .int (f B 61)) dX12_sends_82 flX12_200 (sM_0 hs) rfl ?_
  refine S_iconst (pc := 85) dX12_sends_85 ic1 ?_
  refine S_iadd (pc := 86) dX12_sends_86 ?_
  refine S_putI (pc := 87) dX12_sends_87 flX12_200 (sM_0 hs) hs.2.2 (nf_12_61) rfl rfl (fun _ => rfl) ?_
  refine S_aload_n (pc := 90) dX12_sends_90 rfl rfl ?_
  refine S_get (pc := 91) (v := .int ((up2 f B 61 ((f B 61) + (nI 1))) B 60)) dX12_sends_91 flX12_197 (sM_0 hs) rfl ?_
  refine S_eqi (x := f B 60) ((up2_k (by decide)).trans rfl) ?_
  refine S_if_eq (pc := 94) (tgt := 128) dX12_sends_94 rfl (fun hc19 => ?_) (fun hc19 => ?_)
  · replace H := H.1 hc19
    exact H
  · replace H := H.2 hc19
    refine S_aload_n (pc := 97) dX12_sends_97 rfl rfl ?_
    refine S_bipush (pc := 98) dX12_sends_98 bp100 ?_
    refine S_callV (As := [.int (nI 100)]) (mc := 0) (ms := 0) (pc := 100) dX12_sends_100 miX12_draw mvX12_draw mlX12_519 rfl (sM_0 hs) rfl rfl rfl (RmOK.of rfl) H ?_
    rintro _ _ ⟨x22, f20, g21, rfl, rfl, H⟩
    show WP _ _ _ _ _ _ _ 103 [some (.ref B), some (.int a1), some (.int a2), some (.int a3), some (.int a4), some (.int a5), some (.int a6), some (.int a7)] [.int x22] (sh, f20, g21, fR)
    refine S_aload_n (pc := 103) dX12_sends_103 rfl rfl ?_
    refine S_getR (pc := 104) dX12_sends_104 flX12_78 (sM_0 hs) rfl (rM_22 hs) ?_
    refine S_aload_n (pc := 107) dX12_sends_107 rfl rfl ?_
    refine S_get (pc := 108) (v := .int (f20 B 13)) dX12_sends_108 flX12_51 (sM_0 hs) rfl ?_
    obtain ⟨hb23, H⟩ := H
    refine S_iald (pc := 111) dX12_sends_111 (sM_10 hs) hb23 ?_
    refine S_icmp_ge (pc := 112) (tgt := 128) dX12_sends_112 rfl (fun hc24 => ?_) (fun hc24 => ?_)
    · replace H := H.1 hc24
      exact H
    · replace H := H.2 hc24
      refine S_aload_n (pc := 115) dX12_sends_115 rfl rfl ?_
      refine S_dup (pc := 116) dX12_sends_116 rfl ?_
      refine S_get (pc := 117) (v := .int (f20 B 62)) dX12_sends_117 flX12_203 (sM_0 hs) rfl ?_
      refine S_iconst (pc := 120) dX12_sends_120 ic1 ?_
      refine S_iadd (pc := 121) dX12_sends_121 ?_
      refine S_putI (pc := 122) dX12_sends_122 flX12_203 (sM_0 hs) hs.2.2 (nf_12_62) rfl rfl (fun _ => rfl) ?_
      refine S_iconst (pc := 125) dX12_sends_125 ic1 ?_
      refine S_istore (pc := 126) (L' := [some (.ref B), some (.int a1), some (.int a2), some (.int a3), some (.int a4), some (.int a5), some (.int a6), some (.int (nI 1))]) dX12_sends_126 (by decide) rfl ?_
      exact H
set_option maxHeartbeats 2000000 in
set_option maxRecDepth 4000 in
theorem VX12_sends_128 {l : Launch} {G : Gx} {d : Nat} {Q : Option Value → Hp → Prop} {sh : Sh} {fR : FRt} {B : Nat} {f : FI} {g : FL} {a1 : Int32} {a2 : Int32} {a3 : Int32} {a4 : Int32} {a5 : Int32} {a6 : Int32} {a7 : Int32} (hs : StM sh fR B)
    (H : inb (((nI 8) * (((nI 480) * a1) + a5)) + (nI 0)) 84480 ∧ inb (((nI 8) * (((nI 480) * a1) + a5)) + (nI 1)) 84480 ∧ inb (((nI 8) * (((nI 480) * a1) + a5)) + (nI 2)) 84480 ∧ inb (((nI 8) * (((nI 480) * a1) + a5)) + (nI 3)) 84480 ∧ inb (((nI 40) * a1) + (nI 0)) 880 ∧ inb (((nI 8) * (((nI 480) * a1) + a5)) + (nI 4)) 84480 ∧ ((a7 = 0 → inb (((nI 40) * a1) + (nI 0)) 880 ∧ inb a2 4 ∧ inb (((nI 8) * (((nI 480) * a1) + a5)) + (nI 5)) 84480 ∧ inb (((nI 8) * (((nI 480) * a1) + a5)) + (nI 6)) 84480 ∧ inb (((((nI 40) * a1) + (nI 14)) + ((nI 6) * a2)) + (nI 5)) 880 ∧ inb (((nI 8) * (((nI 480) * a1) + a5)) + (nI 7)) 84480 ∧ inb (((((nI 40) * a1) + (nI 14)) + ((nI 6) * a2)) + (nI 5)) 880 ∧ inb (((((nI 40) * a1) + (nI 14)) + ((nI 6) * a2)) + (nI 4)) 880 ∧ inb (((nI 40) * a1) + (nI 6)) 880 ∧ inb (((nI 40) * a1) + (nI 5)) 880 ∧ inb (((nI 40) * a1) + (nI 5)) 880 ∧ Q none (sh, (up2 (up2 (up2 (up2 (up2 (up2 (up2 (up2 (up2 (up2 (up2 (up2 f (B + 24) (((nI 8) * (((nI 480) * a1) + a5)) + (nI 0)).toNatClampNeg a2) (B + 24) (((nI 8) * (((nI 480) * a1) + a5)) + (nI 1)).toNatClampNeg a6) (B + 24) (((nI 8) * (((nI 480) * a1) + a5)) + (nI 2)).toNatClampNeg a3) (B + 24) (((nI 8) * (((nI 480) * a1) + a5)) + (nI 3)).toNatClampNeg a4) (B + 24) (((nI 8) * (((nI 480) * a1) + a5)) + (nI 4)).toNatClampNeg (f (B + 23) (((nI 40) * a1) + (nI 0)).toNatClampNeg)) (B + 24) (((nI 8) * (((nI 480) * a1) + a5)) + (nI 5)).toNatClampNeg ((f (B + 23) (((nI 40) * a1) + (nI 0)).toNatClampNeg) + (f (B + 29) a2.toNatClampNeg))) (B + 24) (((nI 8) * (((nI 480) * a1) + a5)) + (nI 6)).toNatClampNeg (nI 1)) (B + 24) (((nI 8) * (((nI 480) * a1) + a5)) + (nI 7)).toNatClampNeg (f (B + 23) (((((nI 40) * a1) + (nI 14)) + ((nI 6) * a2)) + (nI 5)).toNatClampNeg)) (B + 23) (((((nI 40) * a1) + (nI 14)) + ((nI 6) * a2)) + (nI 5)).toNatClampNeg (nI 0)) (B + 23) (((((nI 40) * a1) + (nI 14)) + ((nI 6) * a2)) + (nI 4)).toNatClampNeg (a6 + (nI 1))) (B + 23) (((nI 40) * a1) + (nI 6)).toNatClampNeg (a5 + (nI 1))) (B + 23) (((nI 40) * a1) + (nI 5)).toNatClampNeg (((up2 (up2 (up2 (up2 (up2 (up2 (up2 (up2 (up2 (up2 (up2 f (B + 24) (((nI 8) * (((nI 480) * a1) + a5)) + (nI 0)).toNatClampNeg a2) (B + 24) (((nI 8) * (((nI 480) * a1) + a5)) + (nI 1)).toNatClampNeg a6) (B + 24) (((nI 8) * (((nI 480) * a1) + a5)) + (nI 2)).toNatClampNeg a3) (B + 24) (((nI 8) * (((nI 480) * a1) + a5)) + (nI 3)).toNatClampNeg a4) (B + 24) (((nI 8) * (((nI 480) * a1) + a5)) + (nI 4)).toNatClampNeg (f (B + 23) (((nI 40) * a1) + (nI 0)).toNatClampNeg)) (B + 24) (((nI 8) * (((nI 480) * a1) + a5)) + (nI 5)).toNatClampNeg ((f (B + 23) (((nI 40) * a1) + (nI 0)).toNatClampNeg) + (f (B + 29) a2.toNatClampNeg))) (B + 24) (((nI 8) * (((nI 480) * a1) + a5)) + (nI 6)).toNatClampNeg (nI 1)) (B + 24) (((nI 8) * (((nI 480) * a1) + a5)) + (nI 7)).toNatClampNeg (f (B + 23) (((((nI 40) * a1) + (nI 14)) + ((nI 6) * a2)) + (nI 5)).toNatClampNeg)) (B + 23) (((((nI 40) * a1) + (nI 14)) + ((nI 6) * a2)) + (nI 5)).toNatClampNeg (nI 0)) (B + 23) (((((nI 40) * a1) + (nI 14)) + ((nI 6) * a2)) + (nI 4)).toNatClampNeg (a6 + (nI 1))) (B + 23) (((nI 40) * a1) + (nI 6)).toNatClampNeg (a5 + (nI 1))) (B + 23) (((nI 40) * a1) + (nI 5)).toNatClampNeg) + a4)), g, fR)) ∧ (¬ a7 = 0 → inb (((nI 8) * (((nI 480) * a1) + a5)) + (nI 5)) 84480 ∧ inb (((nI 8) * (((nI 480) * a1) + a5)) + (nI 6)) 84480 ∧ inb (((((nI 40) * a1) + (nI 14)) + ((nI 6) * a2)) + (nI 5)) 880 ∧ inb (((nI 8) * (((nI 480) * a1) + a5)) + (nI 7)) 84480 ∧ inb (((((nI 40) * a1) + (nI 14)) + ((nI 6) * a2)) + (nI 5)) 880 ∧ inb (((((nI 40) * a1) + (nI 14)) + ((nI 6) * a2)) + (nI 4)) 880 ∧ inb (((nI 40) * a1) + (nI 6)) 880 ∧ inb (((nI 40) * a1) + (nI 5)) 880 ∧ inb (((nI 40) * a1) + (nI 5)) 880 ∧ Q none (sh, (up2 (up2 (up2 (up2 (up2 (up2 (up2 (up2 (up2 (up2 (up2 (up2 f (B + 24) (((nI 8) * (((nI 480) * a1) + a5)) + (nI 0)).toNatClampNeg a2) (B + 24) (((nI 8) * (((nI 480) * a1) + a5)) + (nI 1)).toNatClampNeg a6) (B + 24) (((nI 8) * (((nI 480) * a1) + a5)) + (nI 2)).toNatClampNeg a3) (B + 24) (((nI 8) * (((nI 480) * a1) + a5)) + (nI 3)).toNatClampNeg a4) (B + 24) (((nI 8) * (((nI 480) * a1) + a5)) + (nI 4)).toNatClampNeg (f (B + 23) (((nI 40) * a1) + (nI 0)).toNatClampNeg)) (B + 24) (((nI 8) * (((nI 480) * a1) + a5)) + (nI 5)).toNatClampNeg (-1)) (B + 24) (((nI 8) * (((nI 480) * a1) + a5)) + (nI 6)).toNatClampNeg (nI 1)) (B + 24) (((nI 8) * (((nI 480) * a1) + a5)) + (nI 7)).toNatClampNeg (f (B + 23) (((((nI 40) * a1) + (nI 14)) + ((nI 6) * a2)) + (nI 5)).toNatClampNeg)) (B + 23) (((((nI 40) * a1) + (nI 14)) + ((nI 6) * a2)) + (nI 5)).toNatClampNeg (nI 0)) (B + 23) (((((nI 40) * a1) + (nI 14)) + ((nI 6) * a2)) + (nI 4)).toNatClampNeg (a6 + (nI 1))) (B + 23) (((nI 40) * a1) + (nI 6)).toNatClampNeg (a5 + (nI 1))) (B + 23) (((nI 40) * a1) + (nI 5)).toNatClampNeg (((up2 (up2 (up2 (up2 (up2 (up2 (up2 (up2 (up2 (up2 (up2 f (B + 24) (((nI 8) * (((nI 480) * a1) + a5)) + (nI 0)).toNatClampNeg a2) (B + 24) (((nI 8) * (((nI 480) * a1) + a5)) + (nI 1)).toNatClampNeg a6) (B + 24) (((nI 8) * (((nI 480) * a1) + a5)) + (nI 2)).toNatClampNeg a3) (B + 24) (((nI 8) * (((nI 480) * a1) + a5)) + (nI 3)).toNatClampNeg a4) (B + 24) (((nI 8) * (((nI 480) * a1) + a5)) + (nI 4)).toNatClampNeg (f (B + 23) (((nI 40) * a1) + (nI 0)).toNatClampNeg)) (B + 24) (((nI 8) * (((nI 480) * a1) + a5)) + (nI 5)).toNatClampNeg (-1)) (B + 24) (((nI 8) * (((nI 480) * a1) + a5)) + (nI 6)).toNatClampNeg (nI 1)) (B + 24) (((nI 8) * (((nI 480) * a1) + a5)) + (nI 7)).toNatClampNeg (f (B + 23) (((((nI 40) * a1) + (nI 14)) + ((nI 6) * a2)) + (nI 5)).toNatClampNeg)) (B + 23) (((((nI 40) * a1) + (nI 14)) + ((nI 6) * a2)) + (nI 5)).toNatClampNeg (nI 0)) (B + 23) (((((nI 40) * a1) + (nI 14)) + ((nI 6) * a2)) + (nI 4)).toNatClampNeg (a6 + (nI 1))) (B + 23) (((nI 40) * a1) + (nI 6)).toNatClampNeg (a5 + (nI 1))) (B + 23) (((nI 40) * a1) + (nI 5)).toNatClampNeg) + a4)), g, fR)))) :
    LpX12_sends_128 l G d Q sh fR B f g a1 a2 a3 a4 a5 a6 a7 := by
  refine S_aload_n (pc := 128) dX12_sends_128 rfl rfl ?_
  refine S_iload_n (pc := 129) dX12_sends_129 rfl rfl ?_
  refine S_iload (pc := 130) dX12_sends_130 rfl ?_
  refine S_iconst (pc := 132) dX12_sends_132 ic0 ?_
  refine S_iload_n (pc := 133) dX12_sends_133 rfl rfl ?_
  refine S_callV (As := [.int a1, .int a5, .int (nI 0), .int a2]) (mc := 0) (ms := 0) (pc := 134) dX12_sends_134 miX12_setsSegment mvX12_setsSegment mlX12_482 rfl (sM_0 hs) rfl rfl rfl (RmOK.of rfl) (Q := fun r h => WP _ _ _ _ _ _ _ 137 [some (.ref B), some (.int a1), some (.int a2), some (.int a3), some (.int a4), some (.int a5), some (.int a6), some (.int a7)] (r.toList ++ []) h) (Cl.of miX12_setsSegment rfl rfl ?_) (fun _ _ q => q)
  refine S_aload_n (pc := 0) dX12_setsSegment_0 rfl rfl ?_
  refine S_getR (pc := 1) dX12_setsSegment_1 flX12_148 (sM_0 hs) rfl (rM_44 hs) ?_
  refine S_bipush (pc := 4) dX12_setsSegment_4 bp8 ?_
  refine S_sipush (pc := 6) dX12_setsSegment_6 sp480 ?_
  refine S_iload_n (pc := 9) dX12_setsSegment_9 rfl rfl ?_
  refine S_imul (pc := 10) dX12_setsSegment_10 ?_
  refine S_iload_n (pc := 11) dX12_setsSegment_11 rfl rfl ?_
  refine S_iadd (pc := 12) dX12_setsSegment_12 ?_
  refine S_imul (pc := 13) dX12_setsSegment_13 ?_
  refine S_iload_n (pc := 14) dX12_setsSegment_14 rfl rfl ?_
  refine S_iadd (pc := 15) dX12_setsSegment_15 ?_
  refine S_iload (pc := 16) dX12_setsSegment_16 rfl ?_
  obtain ⟨hb25, H⟩ := H
  refine S_iast (pc := 18) dX12_setsSegment_18 (sM_24 hs) (Nat.succ_pos _) hb25 ?_
  refine S_vreturn dX12_setsSegment_19 rfl ?_
  show WP _ _ _ _ _ _ _ 137 [some (.ref B), some (.int a1), some (.int a2), some (.int a3), some (.int a4), some (.int a5), some (.int a6), some (.int a7)] [] (sh, (up2 f (B + 24) (((nI 8) * (((nI 480) * a1) + a5)) + (nI 0)).toNatClampNeg a2), g, fR)
  refine S_aload_n (pc := 137) dX12_sends_137 rfl rfl ?_
  refine S_iload_n (pc := 138) dX12_sends_138 rfl rfl ?_
  refine S_iload (pc := 139) dX12_sends_139 rfl ?_
  refine S_iconst (pc := 141) dX12_sends_141 ic1 ?_
  refine S_iload (pc := 142) dX12_sends_142 rfl ?_
  refine S_callV (As := [.int a1, .int a5, .int (nI 1), .int a6]) (mc := 0) (ms := 0) (pc := 144) dX12_sends_144 miX12_setsSegment mvX12_setsSegment mlX12_482 rfl (sM_0 hs) rfl rfl rfl (RmOK.of rfl) (Q := fun r h => WP _ _ _ _ _ _ _ 147 [some (.ref B), some (.int a1), some (.int a2), some (.int a3), some (.int a4), some (.int a5), some (.int a6), some (.int a7)] (r.toList ++ []) h) (Cl.of miX12_setsSegment rfl rfl ?_) (fun _ _ q => q)
  refine S_aload_n (pc := 0) dX12_setsSegment_0 rfl rfl ?_
  refine S_getR (pc := 1) dX12_setsSegment_1 flX12_148 (sM_0 hs) rfl (rM_44 hs) ?_
  refine S_bipush (pc := 4) dX12_setsSegment_4 bp8 ?_
  refine S_sipush (pc := 6) dX12_setsSegment_6 sp480 ?_
  refine S_iload_n (pc := 9) dX12_setsSegment_9 rfl rfl ?_
  refine S_imul (pc := 10) dX12_setsSegment_10 ?_
  refine S_iload_n (pc := 11) dX12_setsSegment_11 rfl rfl ?_
  refine S_iadd (pc := 12) dX12_setsSegment_12 ?_
  refine S_imul (pc := 13) dX12_setsSegment_13 ?_
  refine S_iload_n (pc := 14) dX12_setsSegment_14 rfl rfl ?_
  refine S_iadd (pc := 15) dX12_setsSegment_15 ?_
  refine S_iload (pc := 16) dX12_setsSegment_16 rfl ?_
  obtain ⟨hb26, H⟩ := H
  refine S_iast (pc := 18) dX12_setsSegment_18 (sM_24 hs) (Nat.succ_pos _) hb26 ?_
  refine S_vreturn dX12_setsSegment_19 rfl ?_
  show WP _ _ _ _ _ _ _ 147 [some (.ref B), some (.int a1), some (.int a2), some (.int a3), some (.int a4), some (.int a5), some (.int a6), some (.int a7)] [] (sh, (up2 (up2 f (B + 24) (((nI 8) * (((nI 480) * a1) + a5)) + (nI 0)).toNatClampNeg a2) (B + 24) (((nI 8) * (((nI 480) * a1) + a5)) + (nI 1)).toNatClampNeg a6), g, fR)
  refine S_aload_n (pc := 147) dX12_sends_147 rfl rfl ?_
  refine S_iload_n (pc := 148) dX12_sends_148 rfl rfl ?_
  refine S_iload (pc := 149) dX12_sends_149 rfl ?_
  refine S_iconst (pc := 151) dX12_sends_151 ic2 ?_
  refine S_iload_n (pc := 152) dX12_sends_152 rfl rfl ?_
  refine S_callV (As := [.int a1, .int a5, .int (nI 2), .int a3]) (mc := 0) (ms := 0) (pc := 153) dX12_sends_153 miX12_setsSegment mvX12_setsSegment mlX12_482 rfl (sM_0 hs) rfl rfl rfl (RmOK.of rfl) (Q := fun r h => WP _ _ _ _ _ _ _ 156 [some (.ref B), some (.int a1), some (.int a2), some (.int a3), some (.int a4), some (.int a5), some (.int a6), some (.int a7)] (r.toList ++ []) h) (Cl.of miX12_setsSegment rfl rfl ?_) (fun _ _ q => q)
  refine S_aload_n (pc := 0) dX12_setsSegment_0 rfl rfl ?_
  refine S_getR (pc := 1) dX12_setsSegment_1 flX12_148 (sM_0 hs) rfl (rM_44 hs) ?_
  refine S_bipush (pc := 4) dX12_setsSegment_4 bp8 ?_
  refine S_sipush (pc := 6) dX12_setsSegment_6 sp480 ?_
  refine S_iload_n (pc := 9) dX12_setsSegment_9 rfl rfl ?_
  refine S_imul (pc := 10) dX12_setsSegment_10 ?_
  refine S_iload_n (pc := 11) dX12_setsSegment_11 rfl rfl ?_
  refine S_iadd (pc := 12) dX12_setsSegment_12 ?_
  refine S_imul (pc := 13) dX12_setsSegment_13 ?_
  refine S_iload_n (pc := 14) dX12_setsSegment_14 rfl rfl ?_
  refine S_iadd (pc := 15) dX12_setsSegment_15 ?_
  refine S_iload (pc := 16) dX12_setsSegment_16 rfl ?_
  obtain ⟨hb27, H⟩ := H
  refine S_iast (pc := 18) dX12_setsSegment_18 (sM_24 hs) (Nat.succ_pos _) hb27 ?_
  refine S_vreturn dX12_setsSegment_19 rfl ?_
  show WP _ _ _ _ _ _ _ 156 [some (.ref B), some (.int a1), some (.int a2), some (.int a3), some (.int a4), some (.int a5), some (.int a6), some (.int a7)] [] (sh, (up2 (up2 (up2 f (B + 24) (((nI 8) * (((nI 480) * a1) + a5)) + (nI 0)).toNatClampNeg a2) (B + 24) (((nI 8) * (((nI 480) * a1) + a5)) + (nI 1)).toNatClampNeg a6) (B + 24) (((nI 8) * (((nI 480) * a1) + a5)) + (nI 2)).toNatClampNeg a3), g, fR)
  refine S_aload_n (pc := 156) dX12_sends_156 rfl rfl ?_
  refine S_iload_n (pc := 157) dX12_sends_157 rfl rfl ?_
  refine S_iload (pc := 158) dX12_sends_158 rfl ?_
  refine S_iconst (pc := 160) dX12_sends_160 ic3 ?_
  refine S_iload (pc := 161) dX12_sends_161 rfl ?_
  refine S_callV (As := [.int a1, .int a5, .int (nI 3), .int a4]) (mc := 0) (ms := 0) (pc := 163) dX12_sends_163 miX12_setsSegment mvX12_setsSegment mlX12_482 rfl (sM_0 hs) rfl rfl rfl (RmOK.of rfl) (Q := fun r h => WP _ _ _ _ _ _ _ 166 [some (.ref B), some (.int a1), some (.int a2), some (.int a3), some (.int a4), some (.int a5), some (.int a6), some (.int a7)] (r.toList ++ []) h) (Cl.of miX12_setsSegment rfl rfl ?_) (fun _ _ q => q)
  refine S_aload_n (pc := 0) dX12_setsSegment_0 rfl rfl ?_
  refine S_getR (pc := 1) dX12_setsSegment_1 flX12_148 (sM_0 hs) rfl (rM_44 hs) ?_
  refine S_bipush (pc := 4) dX12_setsSegment_4 bp8 ?_
  refine S_sipush (pc := 6) dX12_setsSegment_6 sp480 ?_
  refine S_iload_n (pc := 9) dX12_setsSegment_9 rfl rfl ?_
  refine S_imul (pc := 10) dX12_setsSegment_10 ?_
  refine S_iload_n (pc := 11) dX12_setsSegment_11 rfl rfl ?_
  refine S_iadd (pc := 12) dX12_setsSegment_12 ?_
  refine S_imul (pc := 13) dX12_setsSegment_13 ?_
  refine S_iload_n (pc := 14) dX12_setsSegment_14 rfl rfl ?_
  refine S_iadd (pc := 15) dX12_setsSegment_15 ?_
  refine S_iload (pc := 16) dX12_setsSegment_16 rfl ?_
  obtain ⟨hb28, H⟩ := H
  refine S_iast (pc := 18) dX12_setsSegment_18 (sM_24 hs) (Nat.succ_pos _) hb28 ?_
  refine S_vreturn dX12_setsSegment_19 rfl ?_
  show WP _ _ _ _ _ _ _ 166 [some (.ref B), some (.int a1), some (.int a2), some (.int a3), some (.int a4), some (.int a5), some (.int a6), some (.int a7)] [] (sh, (up2 (up2 (up2 (up2 f (B + 24) (((nI 8) * (((nI 480) * a1) + a5)) + (nI 0)).toNatClampNeg a2) (B + 24) (((nI 8) * (((nI 480) * a1) + a5)) + (nI 1)).toNatClampNeg a6) (B + 24) (((nI 8) * (((nI 480) * a1) + a5)) + (nI 2)).toNatClampNeg a3) (B + 24) (((nI 8) * (((nI 480) * a1) + a5)) + (nI 3)).toNatClampNeg a4), g, fR)
  refine S_aload_n (pc := 166) dX12_sends_166 rfl rfl ?_
  refine S_iload_n (pc := 167) dX12_sends_167 rfl rfl ?_
  refine S_iload (pc := 168) dX12_sends_168 rfl ?_
  refine S_iconst (pc := 170) dX12_sends_170 ic4 ?_
  refine S_aload_n (pc := 171) dX12_sends_171 rfl rfl ?_
  refine S_iload_n (pc := 172) dX12_sends_172 rfl rfl ?_
  refine S_iconst (pc := 173) dX12_sends_173 ic0 ?_
  refine S_callV (As := [.int a1, .int (nI 0)]) (mc := 0) (ms := 0) (pc := 174) dX12_sends_174 miX12_n mvX12_n mlX12_402 rfl (sM_0 hs) rfl rfl rfl (RmOK.of rfl) (Q := fun r h => WP _ _ _ _ _ _ _ 177 [some (.ref B), some (.int a1), some (.int a2), some (.int a3), some (.int a4), some (.int a5), some (.int a6), some (.int a7)] (r.toList ++ [.int (nI 4), .int a5, .int a1, .ref B]) h) (Cl.of miX12_n rfl rfl ?_) (fun _ _ q => q)
  refine S_aload_n (pc := 0) dX12_n_0 rfl rfl ?_
  refine S_getR (pc := 1) dX12_n_1 flX12_144 (sM_0 hs) rfl (rM_43 hs) ?_
  refine S_bipush (pc := 4) dX12_n_4 bp40 ?_
  refine S_iload_n (pc := 6) dX12_n_6 rfl rfl ?_
  refine S_imul (pc := 7) dX12_n_7 ?_
  refine S_iload_n (pc := 8) dX12_n_8 rfl rfl ?_
  refine S_iadd (pc := 9) dX12_n_9 ?_
  obtain ⟨hb29, H⟩ := H
  refine S_iald (pc := 10) dX12_n_10 (sM_23 hs) hb29 ?_
  refine S_eqi (x := f (B + 23) (((nI 40) * a1) + (nI 0)).toNatClampNeg) ((up2_r (by omega)).trans ((up2_r (by omega)).trans ((up2_r (by omega)).trans ((up2_r (by omega)).trans rfl)))) ?_
  refine S_ireturn dX12_n_11 rfl ?_
  show WP _ _ _ _ _ _ _ 177 [some (.ref B), some (.int a1), some (.int a2), some (.int a3), some (.int a4), some (.int a5), some (.int a6), some (.int a7)] [.int (f (B + 23) (((nI 40) * a1) + (nI 0)).toNatClampNeg), .int (nI 4), .int a5, .int a1, .ref B] (sh, (up2 (up2 (up2 (up2 f (B + 24) (((nI 8) * (((nI 480) * a1) + a5)) + (nI 0)).toNatClampNeg a2) (B + 24) (((nI 8) * (((nI 480) * a1) + a5)) + (nI 1)).toNatClampNeg a6) (B + 24) (((nI 8) * (((nI 480) * a1) + a5)) + (nI 2)).toNatClampNeg a3) (B + 24) (((nI 8) * (((nI 480) * a1) + a5)) + (nI 3)).toNatClampNeg a4), g, fR)
  refine S_callV (As := [.int a1, .int a5, .int (nI 4), .int (f (B + 23) (((nI 40) * a1) + (nI 0)).toNatClampNeg)]) (mc := 0) (ms := 0) (pc := 177) dX12_sends_177 miX12_setsSegment mvX12_setsSegment mlX12_482 rfl (sM_0 hs) rfl rfl rfl (RmOK.of rfl) (Q := fun r h => WP _ _ _ _ _ _ _ 180 [some (.ref B), some (.int a1), some (.int a2), some (.int a3), some (.int a4), some (.int a5), some (.int a6), some (.int a7)] (r.toList ++ []) h) (Cl.of miX12_setsSegment rfl rfl ?_) (fun _ _ q => q)
  refine S_aload_n (pc := 0) dX12_setsSegment_0 rfl rfl ?_
  refine S_getR (pc := 1) dX12_setsSegment_1 flX12_148 (sM_0 hs) rfl (rM_44 hs) ?_
  refine S_bipush (pc := 4) dX12_setsSegment_4 bp8 ?_
  refine S_sipush (pc := 6) dX12_setsSegment_6 sp480 ?_
  refine S_iload_n (pc := 9) dX12_setsSegment_9 rfl rfl ?_
  refine S_imul (pc := 10) dX12_setsSegment_10 ?_
  refine S_iload_n (pc := 11) dX12_setsSegment_11 rfl rfl ?_
  refine S_iadd (pc := 12) dX12_setsSegment_12 ?_
  refine S_imul (pc := 13) dX12_setsSegment_13 ?_
  refine S_iload_n (pc := 14) dX12_setsSegment_14 rfl rfl ?_
  refine S_iadd (pc := 15) dX12_setsSegment_15 ?_
  refine S_iload (pc := 16) dX12_setsSegment_16 rfl ?_
  obtain ⟨hb30, H⟩ := H
  refine S_iast (pc := 18) dX12_setsSegment_18 (sM_24 hs) (Nat.succ_pos _) hb30 ?_
  refine S_vreturn dX12_setsSegment_19 rfl ?_
  show WP _ _ _ _ _ _ _ 180 [some (.ref B), some (.int a1), some (.int a2), some (.int a3), some (.int a4), some (.int a5), some (.int a6), some (.int a7)] [] (sh, (up2 (up2 (up2 (up2 (up2 f (B + 24) (((nI 8) * (((nI 480) * a1) + a5)) + (nI 0)).toNatClampNeg a2) (B + 24) (((nI 8) * (((nI 480) * a1) + a5)) + (nI 1)).toNatClampNeg a6) (B + 24) (((nI 8) * (((nI 480) * a1) + a5)) + (nI 2)).toNatClampNeg a3) (B + 24) (((nI 8) * (((nI 480) * a1) + a5)) + (nI 3)).toNatClampNeg a4) (B + 24) (((nI 8) * (((nI 480) * a1) + a5)) + (nI 4)).toNatClampNeg (f (B + 23) (((nI 40) * a1) + (nI 0)).toNatClampNeg)), g, fR)
  refine S_aload_n (pc := 180) dX12_sends_180 rfl rfl ?_
  refine S_iload_n (pc := 181) dX12_sends_181 rfl rfl ?_
  refine S_iload (pc := 182) dX12_sends_182 rfl ?_
  refine S_iconst (pc := 184) dX12_sends_184 ic5 ?_
  refine S_iload (pc := 185) dX12_sends_185 rfl ?_
  refine S_if_eq (pc := 187) (tgt := 194) dX12_sends_187 rfl (fun hc31 => ?_) (fun hc31 => ?_)
  · replace H := H.1 hc31
    refine S_aload_n (pc := 194) dX12_sends_194 rfl rfl ?_
    refine S_iload_n (pc := 195) dX12_sends_195 rfl rfl ?_
    refine S_iconst (pc := 196) dX12_sends_196 ic0 ?_
    refine S_callV (As := [.int a1, .int (nI 0)]) (mc := 0) (ms := 0) (pc := 197) dX12_sends_197 miX12_n mvX12_n mlX12_402 rfl (sM_0 hs) rfl rfl rfl (RmOK.of rfl) (Q := fun r h => WP _ _ _ _ _ _ _ 200 [some (.ref B), some (.int a1), some (.int a2), some (.int a3), some (.int a4), some (.int a5), some (.int a6), some (.int a7)] (r.toList ++ [.int (nI 5), .int a5, .int a1, .ref B]) h) (Cl.of miX12_n rfl rfl ?_) (fun _ _ q => q)
    refine S_aload_n (pc := 0) dX12_n_0 rfl rfl ?_
    refine S_getR (pc := 1) dX12_n_1 flX12_144 (sM_0 hs) rfl (rM_43 hs) ?_
    refine S_bipush (pc := 4) dX12_n_4 bp40 ?_
    refine S_iload_n (pc := 6) dX12_n_6 rfl rfl ?_
    refine S_imul (pc := 7) dX12_n_7 ?_
    refine S_iload_n (pc := 8) dX12_n_8 rfl rfl ?_
    refine S_iadd (pc := 9) dX12_n_9 ?_
    obtain ⟨hb32, H⟩ := H
    refine S_iald (pc := 10) dX12_n_10 (sM_23 hs) hb32 ?_
    refine S_eqi (x := f (B + 23) (((nI 40) * a1) + (nI 0)).toNatClampNeg) ((up2_r (by omega)).trans ((up2_r (by omega)).trans ((up2_r (by omega)).trans ((up2_r (by omega)).trans ((up2_r (by omega)).trans rfl))))) ?_
    refine S_ireturn dX12_n_11 rfl ?_
    show WP _ _ _ _ _ _ _ 200 [some (.ref B), some (.int a1), some (.int a2), some (.int a3), some (.int a4), some (.int a5), some (.int a6), some (.int a7)] [.int (f (B + 23) (((nI 40) * a1) + (nI 0)).toNatClampNeg), .int (nI 5), .int a5, .int a1, .ref B] (sh, (up2 (up2 (up2 (up2 (up2 f (B + 24) (((nI 8) * (((nI 480) * a1) + a5)) + (nI 0)).toNatClampNeg a2) (B + 24) (((nI 8) * (((nI 480) * a1) + a5)) + (nI 1)).toNatClampNeg a6) (B + 24) (((nI 8) * (((nI 480) * a1) + a5)) + (nI 2)).toNatClampNeg a3) (B + 24) (((nI 8) * (((nI 480) * a1) + a5)) + (nI 3)).toNatClampNeg a4) (B + 24) (((nI 8) * (((nI 480) * a1) + a5)) + (nI 4)).toNatClampNeg (f (B + 23) (((nI 40) * a1) + (nI 0)).toNatClampNeg)), g, fR)
    refine S_aload_n (pc := 200) dX12_sends_200 rfl rfl ?_
    refine S_getR (pc := 201) dX12_sends_201 flX12_176 (sM_0 hs) rfl (rM_53 hs) ?_
    refine S_iload_n (pc := 204) dX12_sends_204 rfl rfl ?_
    obtain ⟨hb33, H⟩ := H
    refine S_iald (pc := 205) dX12_sends_205 (sM_29 hs) hb33 ?_
    refine S_eqi (x := f (B + 29) a2.toNatClampNeg) ((up2_r (by omega)).trans ((up2_r (by omega)).trans ((up2_r (by omega)).trans ((up2_r (by omega)).trans ((up2_r (by omega)).trans rfl))))) ?_
    refine S_iadd (pc := 206) dX12_sends_206 ?_
    refine S_callV (As := [.int a1, .int a5, .int (nI 5), .int ((f (B + 23) (((nI 40) * a1) + (nI 0)).toNatClampNeg) + (f (B + 29) a2.toNatClampNeg))]) (mc := 0) (ms := 0) (pc := 207) dX12_sends_207 miX12_setsSegment mvX12_setsSegment mlX12_482 rfl (sM_0 hs) rfl rfl rfl (RmOK.of rfl) (Q := fun r h => WP _ _ _ _ _ _ _ 210 [some (.ref B), some (.int a1), some (.int a2), some (.int a3), some (.int a4), some (.int a5), some (.int a6), some (.int a7)] (r.toList ++ []) h) (Cl.of miX12_setsSegment rfl rfl ?_) (fun _ _ q => q)
    refine S_aload_n (pc := 0) dX12_setsSegment_0 rfl rfl ?_
    refine S_getR (pc := 1) dX12_setsSegment_1 flX12_148 (sM_0 hs) rfl (rM_44 hs) ?_
    refine S_bipush (pc := 4) dX12_setsSegment_4 bp8 ?_
    refine S_sipush (pc := 6) dX12_setsSegment_6 sp480 ?_
    refine S_iload_n (pc := 9) dX12_setsSegment_9 rfl rfl ?_
    refine S_imul (pc := 10) dX12_setsSegment_10 ?_
    refine S_iload_n (pc := 11) dX12_setsSegment_11 rfl rfl ?_
    refine S_iadd (pc := 12) dX12_setsSegment_12 ?_
    refine S_imul (pc := 13) dX12_setsSegment_13 ?_
    refine S_iload_n (pc := 14) dX12_setsSegment_14 rfl rfl ?_
    refine S_iadd (pc := 15) dX12_setsSegment_15 ?_
    refine S_iload (pc := 16) dX12_setsSegment_16 rfl ?_
    obtain ⟨hb34, H⟩ := H
    refine S_iast (pc := 18) dX12_setsSegment_18 (sM_24 hs) (Nat.succ_pos _) hb34 ?_
    refine S_vreturn dX12_setsSegment_19 rfl ?_
    show WP _ _ _ _ _ _ _ 210 [some (.ref B), some (.int a1), some (.int a2), some (.int a3), some (.int a4), some (.int a5), some (.int a6), some (.int a7)] [] (sh, (up2 (up2 (up2 (up2 (up2 (up2 f (B + 24) (((nI 8) * (((nI 480) * a1) + a5)) + (nI 0)).toNatClampNeg a2) (B + 24) (((nI 8) * (((nI 480) * a1) + a5)) + (nI 1)).toNatClampNeg a6) (B + 24) (((nI 8) * (((nI 480) * a1) + a5)) + (nI 2)).toNatClampNeg a3) (B + 24) (((nI 8) * (((nI 480) * a1) + a5)) + (nI 3)).toNatClampNeg a4) (B + 24) (((nI 8) * (((nI 480) * a1) + a5)) + (nI 4)).toNatClampNeg (f (B + 23) (((nI 40) * a1) + (nI 0)).toNatClampNeg)) (B + 24) (((nI 8) * (((nI 480) * a1) + a5)) + (nI 5)).toNatClampNeg ((f (B + 23) (((nI 40) * a1) + (nI 0)).toNatClampNeg) + (f (B + 29) a2.toNatClampNeg))), g, fR)
    refine S_aload_n (pc := 210) dX12_sends_210 rfl rfl ?_
    refine S_iload_n (pc := 211) dX12_sends_211 rfl rfl ?_
    refine S_iload (pc := 212) dX12_sends_212 rfl ?_
    refine S_bipush (pc := 214) dX12_sends_214 bp6 ?_
    refine S_iconst (pc := 216) dX12_sends_216 ic1 ?_
    refine S_callV (As := [.int a1, .int a5, .int (nI 6), .int (nI 1)]) (mc := 0) (ms := 0) (pc := 217) dX12_sends_217 miX12_setsSegment mvX12_setsSegment mlX12_482 rfl (sM_0 hs) rfl rfl rfl (RmOK.of rfl) (Q := fun r h => WP _ _ _ _ _ _ _ 220 [some (.ref B), some (.int a1), some (.int a2), some (.int a3), some (.int a4), some (.int a5), some (.int a6), some (.int a7)] (r.toList ++ []) h) (Cl.of miX12_setsSegment rfl rfl ?_) (fun _ _ q => q)
    refine S_aload_n (pc := 0) dX12_setsSegment_0 rfl rfl ?_
    refine S_getR (pc := 1) dX12_setsSegment_1 flX12_148 (sM_0 hs) rfl (rM_44 hs) ?_
    refine S_bipush (pc := 4) dX12_setsSegment_4 bp8 ?_
    refine S_sipush (pc := 6) dX12_setsSegment_6 sp480 ?_
    refine S_iload_n (pc := 9) dX12_setsSegment_9 rfl rfl ?_
    refine S_imul (pc := 10) dX12_setsSegment_10 ?_
    refine S_iload_n (pc := 11) dX12_setsSegment_11 rfl rfl ?_
    refine S_iadd (pc := 12) dX12_setsSegment_12 ?_
    refine S_imul (pc := 13) dX12_setsSegment_13 ?_
    refine S_iload_n (pc := 14) dX12_setsSegment_14 rfl rfl ?_
    refine S_iadd (pc := 15) dX12_setsSegment_15 ?_
    refine S_iload (pc := 16) dX12_setsSegment_16 rfl ?_
    obtain ⟨hb35, H⟩ := H
    refine S_iast (pc := 18) dX12_setsSegment_18 (sM_24 hs) (Nat.succ_pos _) hb35 ?_
    refine S_vreturn dX12_setsSegment_19 rfl ?_
    show WP _ _ _ _ _ _ _ 220 [some (.ref B), some (.int a1), some (.int a2), some (.int a3), some (.int a4), some (.int a5), some (.int a6), some (.int a7)] [] (sh, (up2 (up2 (up2 (up2 (up2 (up2 (up2 f (B + 24) (((nI 8) * (((nI 480) * a1) + a5)) + (nI 0)).toNatClampNeg a2) (B + 24) (((nI 8) * (((nI 480) * a1) + a5)) + (nI 1)).toNatClampNeg a6) (B + 24) (((nI 8) * (((nI 480) * a1) + a5)) + (nI 2)).toNatClampNeg a3) (B + 24) (((nI 8) * (((nI 480) * a1) + a5)) + (nI 3)).toNatClampNeg a4) (B + 24) (((nI 8) * (((nI 480) * a1) + a5)) + (nI 4)).toNatClampNeg (f (B + 23) (((nI 40) * a1) + (nI 0)).toNatClampNeg)) (B + 24) (((nI 8) * (((nI 480) * a1) + a5)) + (nI 5)).toNatClampNeg ((f (B + 23) (((nI 40) * a1) + (nI 0)).toNatClampNeg) + (f (B + 29) a2.toNatClampNeg))) (B + 24) (((nI 8) * (((nI 480) * a1) + a5)) + (nI 6)).toNatClampNeg (nI 1)), g, fR)
    refine S_aload_n (pc := 220) dX12_sends_220 rfl rfl ?_
    refine S_iload_n (pc := 221) dX12_sends_221 rfl rfl ?_
    refine S_iload (pc := 222) dX12_sends_222 rfl ?_
    refine S_bipush (pc := 224) dX12_sends_224 bp7 ?_
    refine S_aload_n (pc := 226) dX12_sends_226 rfl rfl ?_
    refine S_iload_n (pc := 227) dX12_sends_227 rfl rfl ?_
    refine S_iload_n (pc := 228) dX12_sends_228 rfl rfl ?_
    refine S_iconst (pc := 229) dX12_sends_229 ic5 ?_
    refine S_callV (As := [.int a1, .int a2, .int (nI 5)]) (mc := 0) (ms := 0) (pc := 230) dX12_sends_230 miX12_p mvX12_p mlX12_438 rfl (sM_0 hs) rfl rfl rfl (RmOK.of rfl) (Q := fun r h => WP _ _ _ _ _ _ _ 233 [some (.ref B), some (.int a1), some (.int a2), some (.int a3), some (.int a4), some (.int a5), some (.int a6), some (.int a7)] (r.toList ++ [.int (nI 7), .int a5, .int a1, .ref B]) h) (Cl.of miX12_p rfl rfl ?_) (fun _ _ q => q)
    refine S_aload_n (pc := 0) dX12_p_0 rfl rfl ?_
    refine S_getR (pc := 1) dX12_p_1 flX12_144 (sM_0 hs) rfl (rM_43 hs) ?_
    refine S_bipush (pc := 4) dX12_p_4 bp40 ?_
    refine S_iload_n (pc := 6) dX12_p_6 rfl rfl ?_
    refine S_imul (pc := 7) dX12_p_7 ?_
    refine S_bipush (pc := 8) dX12_p_8 bp14 ?_
    refine S_iadd (pc := 10) dX12_p_10 ?_
    refine S_bipush (pc := 11) dX12_p_11 bp6 ?_
    refine S_iload_n (pc := 13) dX12_p_13 rfl rfl ?_
    refine S_imul (pc := 14) dX12_p_14 ?_
    refine S_iadd (pc := 15) dX12_p_15 ?_
    refine S_iload_n (pc := 16) dX12_p_16 rfl rfl ?_
    refine S_iadd (pc := 17) dX12_p_17 ?_
    obtain ⟨hb36, H⟩ := H
    refine S_iald (pc := 18) dX12_p_18 (sM_23 hs) hb36 ?_
    refine S_eqi (x := f (B + 23) (((((nI 40) * a1) + (nI 14)) + ((nI 6) * a2)) + (nI 5)).toNatClampNeg) ((up2_r (by omega)).trans ((up2_r (by omega)).trans ((up2_r (by omega)).trans ((up2_r (by omega)).trans ((up2_r (by omega)).trans ((up2_r (by omega)).trans ((up2_r (by omega)).trans rfl))))))) ?_
    refine S_ireturn dX12_p_19 rfl ?_
    show WP _ _ _ _ _ _ _ 233 [some (.ref B), some (.int a1), some (.int a2), some (.int a3), some (.int a4), some (.int a5), some (.int a6), some (.int a7)] [.int (f (B + 23) (((((nI 40) * a1) + (nI 14)) + ((nI 6) * a2)) + (nI 5)).toNatClampNeg), .int (nI 7), .int a5, .int a1, .ref B] (sh, (up2 (up2 (up2 (up2 (up2 (up2 (up2 f (B + 24) (((nI 8) * (((nI 480) * a1) + a5)) + (nI 0)).toNatClampNeg a2) (B + 24) (((nI 8) * (((nI 480) * a1) + a5)) + (nI 1)).toNatClampNeg a6) (B + 24) (((nI 8) * (((nI 480) * a1) + a5)) + (nI 2)).toNatClampNeg a3) (B + 24) (((nI 8) * (((nI 480) * a1) + a5)) + (nI 3)).toNatClampNeg a4) (B + 24) (((nI 8) * (((nI 480) * a1) + a5)) + (nI 4)).toNatClampNeg (f (B + 23) (((nI 40) * a1) + (nI 0)).toNatClampNeg)) (B + 24) (((nI 8) * (((nI 480) * a1) + a5)) + (nI 5)).toNatClampNeg ((f (B + 23) (((nI 40) * a1) + (nI 0)).toNatClampNeg) + (f (B + 29) a2.toNatClampNeg))) (B + 24) (((nI 8) * (((nI 480) * a1) + a5)) + (nI 6)).toNatClampNeg (nI 1)), g, fR)
    refine S_callV (As := [.int a1, .int a5, .int (nI 7), .int (f (B + 23) (((((nI 40) * a1) + (nI 14)) + ((nI 6) * a2)) + (nI 5)).toNatClampNeg)]) (mc := 0) (ms := 0) (pc := 233) dX12_sends_233 miX12_setsSegment mvX12_setsSegment mlX12_482 rfl (sM_0 hs) rfl rfl rfl (RmOK.of rfl) (Q := fun r h => WP _ _ _ _ _ _ _ 236 [some (.ref B), some (.int a1), some (.int a2), some (.int a3), some (.int a4), some (.int a5), some (.int a6), some (.int a7)] (r.toList ++ []) h) (Cl.of miX12_setsSegment rfl rfl ?_) (fun _ _ q => q)
    refine S_aload_n (pc := 0) dX12_setsSegment_0 rfl rfl ?_
    refine S_getR (pc := 1) dX12_setsSegment_1 flX12_148 (sM_0 hs) rfl (rM_44 hs) ?_
    refine S_bipush (pc := 4) dX12_setsSegment_4 bp8 ?_
    refine S_sipush (pc := 6) dX12_setsSegment_6 sp480 ?_
    refine S_iload_n (pc := 9) dX12_setsSegment_9 rfl rfl ?_
    refine S_imul (pc := 10) dX12_setsSegment_10 ?_
    refine S_iload_n (pc := 11) dX12_setsSegment_11 rfl rfl ?_
    refine S_iadd (pc := 12) dX12_setsSegment_12 ?_
    refine S_imul (pc := 13) dX12_setsSegment_13 ?_
    refine S_iload_n (pc := 14) dX12_setsSegment_14 rfl rfl ?_
    refine S_iadd (pc := 15) dX12_setsSegment_15 ?_
    refine S_iload (pc := 16) dX12_setsSegment_16 rfl ?_
    obtain ⟨hb37, H⟩ := H
    refine S_iast (pc := 18) dX12_setsSegment_18 (sM_24 hs) (Nat.succ_pos _) hb37 ?_
    refine S_vreturn dX12_setsSegment_19 rfl ?_
    show WP _ _ _ _ _ _ _ 236 [some (.ref B), some (.int a1), some (.int a2), some (.int a3), some (.int a4), some (.int a5), some (.int a6), some (.int a7)] [] (sh, (up2 (up2 (up2 (up2 (up2 (up2 (up2 (up2 f (B + 24) (((nI 8) * (((nI 480) * a1) + a5)) + (nI 0)).toNatClampNeg a2) (B + 24) (((nI 8) * (((nI 480) * a1) + a5)) + (nI 1)).toNatClampNeg a6) (B + 24) (((nI 8) * (((nI 480) * a1) + a5)) + (nI 2)).toNatClampNeg a3) (B + 24) (((nI 8) * (((nI 480) * a1) + a5)) + (nI 3)).toNatClampNeg a4) (B + 24) (((nI 8) * (((nI 480) * a1) + a5)) + (nI 4)).toNatClampNeg (f (B + 23) (((nI 40) * a1) + (nI 0)).toNatClampNeg)) (B + 24) (((nI 8) * (((nI 480) * a1) + a5)) + (nI 5)).toNatClampNeg ((f (B + 23) (((nI 40) * a1) + (nI 0)).toNatClampNeg) + (f (B + 29) a2.toNatClampNeg))) (B + 24) (((nI 8) * (((nI 480) * a1) + a5)) + (nI 6)).toNatClampNeg (nI 1)) (B + 24) (((nI 8) * (((nI 480) * a1) + a5)) + (nI 7)).toNatClampNeg (f (B + 23) (((((nI 40) * a1) + (nI 14)) + ((nI 6) * a2)) + (nI 5)).toNatClampNeg)), g, fR)
    refine S_aload_n (pc := 236) dX12_sends_236 rfl rfl ?_
    refine S_iload_n (pc := 237) dX12_sends_237 rfl rfl ?_
    refine S_iload_n (pc := 238) dX12_sends_238 rfl rfl ?_
    refine S_iconst (pc := 239) dX12_sends_239 ic5 ?_
    refine S_iconst (pc := 240) dX12_sends_240 ic0 ?_
    refine S_callV (As := [.int a1, .int a2, .int (nI 5), .int (nI 0)]) (mc := 0) (ms := 0) (pc := 241) dX12_sends_241 miX12_setsPath mvX12_setsPath mlX12_412 rfl (sM_0 hs) rfl rfl rfl (RmOK.of rfl) (Q := fun r h => WP _ _ _ _ _ _ _ 244 [some (.ref B), some (.int a1), some (.int a2), some (.int a3), some (.int a4), some (.int a5), some (.int a6), some (.int a7)] (r.toList ++ []) h) (Cl.of miX12_setsPath rfl rfl ?_) (fun _ _ q => q)
    refine S_aload_n (pc := 0) dX12_setsPath_0 rfl rfl ?_
    refine S_getR (pc := 1) dX12_setsPath_1 flX12_144 (sM_0 hs) rfl (rM_43 hs) ?_
    refine S_bipush (pc := 4) dX12_setsPath_4 bp40 ?_
    refine S_iload_n (pc := 6) dX12_setsPath_6 rfl rfl ?_
    refine S_imul (pc := 7) dX12_setsPath_7 ?_
    refine S_bipush (pc := 8) dX12_setsPath_8 bp14 ?_
    refine S_iadd (pc := 10) dX12_setsPath_10 ?_
    refine S_bipush (pc := 11) dX12_setsPath_11 bp6 ?_
    refine S_iload_n (pc := 13) dX12_setsPath_13 rfl rfl ?_
    refine S_imul (pc := 14) dX12_setsPath_14 ?_
    refine S_iadd (pc := 15) dX12_setsPath_15 ?_
    refine S_iload_n (pc := 16) dX12_setsPath_16 rfl rfl ?_
    refine S_iadd (pc := 17) dX12_setsPath_17 ?_
    refine S_iload (pc := 18) dX12_setsPath_18 rfl ?_
    obtain ⟨hb38, H⟩ := H
    refine S_iast (pc := 20) dX12_setsPath_20 (sM_23 hs) (Nat.succ_pos _) hb38 ?_
    refine S_vreturn dX12_setsPath_21 rfl ?_
    show WP _ _ _ _ _ _ _ 244 [some (.ref B), some (.int a1), some (.int a2), some (.int a3), some (.int a4), some (.int a5), some (.int a6), some (.int a7)] [] (sh, (up2 (up2 (up2 (up2 (up2 (up2 (up2 (up2 (up2 f (B + 24) (((nI 8) * (((nI 480) * a1) + a5)) + (nI 0)).toNatClampNeg a2) (B + 24) (((nI 8) * (((nI 480) * a1) + a5)) + (nI 1)).toNatClampNeg a6) (B + 24) (((nI 8) * (((nI 480) * a1) + a5)) + (nI 2)).toNatClampNeg a3) (B + 24) (((nI 8) * (((nI 480) * a1) + a5)) + (nI 3)).toNatClampNeg a4) (B + 24) (((nI 8) * (((nI 480) * a1) + a5)) + (nI 4)).toNatClampNeg (f (B + 23) (((nI 40) * a1) + (nI 0)).toNatClampNeg)) (B + 24) (((nI 8) * (((nI 480) * a1) + a5)) + (nI 5)).toNatClampNeg ((f (B + 23) (((nI 40) * a1) + (nI 0)).toNatClampNeg) + (f (B + 29) a2.toNatClampNeg))) (B + 24) (((nI 8) * (((nI 480) * a1) + a5)) + (nI 6)).toNatClampNeg (nI 1)) (B + 24) (((nI 8) * (((nI 480) * a1) + a5)) + (nI 7)).toNatClampNeg (f (B + 23) (((((nI 40) * a1) + (nI 14)) + ((nI 6) * a2)) + (nI 5)).toNatClampNeg)) (B + 23) (((((nI 40) * a1) + (nI 14)) + ((nI 6) * a2)) + (nI 5)).toNatClampNeg (nI 0)), g, fR)
    refine S_aload_n (pc := 244) dX12_sends_244 rfl rfl ?_
    refine S_iload_n (pc := 245) dX12_sends_245 rfl rfl ?_
    refine S_iload_n (pc := 246) dX12_sends_246 rfl rfl ?_
    refine S_iconst (pc := 247) dX12_sends_247 ic4 ?_
    refine S_iload (pc := 248) dX12_sends_248 rfl ?_
    refine S_iconst (pc := 250) dX12_sends_250 ic1 ?_
    refine S_iadd (pc := 251) dX12_sends_251 ?_
    refine S_callV (As := [.int a1, .int a2, .int (nI 4), .int (a6 + (nI 1))]) (mc := 0) (ms := 0) (pc := 252) dX12_sends_252 miX12_setsPath mvX12_setsPath mlX12_412 rfl (sM_0 hs) rfl rfl rfl (RmOK.of rfl) (Q := fun r h => WP _ _ _ _ _ _ _ 255 [some (.ref B), some (.int a1), some (.int a2), some (.int a3), some (.int a4), some (.int a5), some (.int a6), some (.int a7)] (r.toList ++ []) h) (Cl.of miX12_setsPath rfl rfl ?_) (fun _ _ q => q)
    refine S_aload_n (pc := 0) dX12_setsPath_0 rfl rfl ?_
    refine S_getR (pc := 1) dX12_setsPath_1 flX12_144 (sM_0 hs) rfl (rM_43 hs) ?_
    refine S_bipush (pc := 4) dX12_setsPath_4 bp40 ?_
    refine S_iload_n (pc := 6) dX12_setsPath_6 rfl rfl ?_
    refine S_imul (pc := 7) dX12_setsPath_7 ?_
    refine S_bipush (pc := 8) dX12_setsPath_8 bp14 ?_
    refine S_iadd (pc := 10) dX12_setsPath_10 ?_
    refine S_bipush (pc := 11) dX12_setsPath_11 bp6 ?_
    refine S_iload_n (pc := 13) dX12_setsPath_13 rfl rfl ?_
    refine S_imul (pc := 14) dX12_setsPath_14 ?_
    refine S_iadd (pc := 15) dX12_setsPath_15 ?_
    refine S_iload_n (pc := 16) dX12_setsPath_16 rfl rfl ?_
    refine S_iadd (pc := 17) dX12_setsPath_17 ?_
    refine S_iload (pc := 18) dX12_setsPath_18 rfl ?_
    obtain ⟨hb39, H⟩ := H
    refine S_iast (pc := 20) dX12_setsPath_20 (sM_23 hs) (Nat.succ_pos _) hb39 ?_
    refine S_vreturn dX12_setsPath_21 rfl ?_
    show WP _ _ _ _ _ _ _ 255 [some (.ref B), some (.int a1), some (.int a2), some (.int a3), some (.int a4), some (.int a5), some (.int a6), some (.int a7)] [] (sh, (up2 (up2 (up2 (up2 (up2 (up2 (up2 (up2 (up2 (up2 f (B + 24) (((nI 8) * (((nI 480) * a1) + a5)) + (nI 0)).toNatClampNeg a2) (B + 24) (((nI 8) * (((nI 480) * a1) + a5)) + (nI 1)).toNatClampNeg a6) (B + 24) (((nI 8) * (((nI 480) * a1) + a5)) + (nI 2)).toNatClampNeg a3) (B + 24) (((nI 8) * (((nI 480) * a1) + a5)) + (nI 3)).toNatClampNeg a4) (B + 24) (((nI 8) * (((nI 480) * a1) + a5)) + (nI 4)).toNatClampNeg (f (B + 23) (((nI 40) * a1) + (nI 0)).toNatClampNeg)) (B + 24) (((nI 8) * (((nI 480) * a1) + a5)) + (nI 5)).toNatClampNeg ((f (B + 23) (((nI 40) * a1) + (nI 0)).toNatClampNeg) + (f (B + 29) a2.toNatClampNeg))) (B + 24) (((nI 8) * (((nI 480) * a1) + a5)) + (nI 6)).toNatClampNeg (nI 1)) (B + 24) (((nI 8) * (((nI 480) * a1) + a5)) + (nI 7)).toNatClampNeg (f (B + 23) (((((nI 40) * a1) + (nI 14)) + ((nI 6) * a2)) + (nI 5)).toNatClampNeg)) (B + 23) (((((nI 40) * a1) + (nI 14)) + ((nI 6) * a2)) + (nI 5)).toNatClampNeg (nI 0)) (B + 23) (((((nI 40) * a1) + (nI 14)) + ((nI 6) * a2)) + (nI 4)).toNatClampNeg (a6 + (nI 1))), g, fR)
    refine S_aload_n (pc := 255) dX12_sends_255 rfl rfl ?_
    refine S_iload_n (pc := 256) dX12_sends_256 rfl rfl ?_
    refine S_bipush (pc := 257) dX12_sends_257 bp6 ?_
    refine S_iload (pc := 259) dX12_sends_259 rfl ?_
    refine S_iconst (pc := 261) dX12_sends_261 ic1 ?_
    refine S_iadd (pc := 262) dX12_sends_262 ?_
    refine S_callV (As := [.int a1, .int (nI 6), .int (a5 + (nI 1))]) (mc := 0) (ms := 0) (pc := 263) dX12_sends_263 miX12_sets mvX12_sets mlX12_405 rfl (sM_0 hs) rfl rfl rfl (RmOK.of rfl) (Q := fun r h => WP _ _ _ _ _ _ _ 266 [some (.ref B), some (.int a1), some (.int a2), some (.int a3), some (.int a4), some (.int a5), some (.int a6), some (.int a7)] (r.toList ++ []) h) (Cl.of miX12_sets rfl rfl ?_) (fun _ _ q => q)
    refine S_aload_n (pc := 0) dX12_sets_0 rfl rfl ?_
    refine S_getR (pc := 1) dX12_sets_1 flX12_144 (sM_0 hs) rfl (rM_43 hs) ?_
    refine S_bipush (pc := 4) dX12_sets_4 bp40 ?_
    refine S_iload_n (pc := 6) dX12_sets_6 rfl rfl ?_
    refine S_imul (pc := 7) dX12_sets_7 ?_
    refine S_iload_n (pc := 8) dX12_sets_8 rfl rfl ?_
    refine S_iadd (pc := 9) dX12_sets_9 ?_
    refine S_iload_n (pc := 10) dX12_sets_10 rfl rfl ?_
    obtain ⟨hb40, H⟩ := H
    refine S_iast (pc := 11) dX12_sets_11 (sM_23 hs) (Nat.succ_pos _) hb40 ?_
    refine S_vreturn dX12_sets_12 rfl ?_
    show WP _ _ _ _ _ _ _ 266 [some (.ref B), some (.int a1), some (.int a2), some (.int a3), some (.int a4), some (.int a5), some (.int a6), some (.int a7)] [] (sh, (up2 (up2 (up2 (up2 (up2 (up2 (up2 (up2 (up2 (up2 (up2 f (B + 24) (((nI 8) * (((nI 480) * a1) + a5)) + (nI 0)).toNatClampNeg a2) (B + 24) (((nI 8) * (((nI 480) * a1) + a5)) + (nI 1)).toNatClampNeg a6) (B + 24) (((nI 8) * (((nI 480) * a1) + a5)) + (nI 2)).toNatClampNeg a3) (B + 24) (((nI 8) * (((nI 480) * a1) + a5)) + (nI 3)).toNatClampNeg a4) (B + 24) (((nI 8) * (((nI 480) * a1) + a5)) + (nI 4)).toNatClampNeg (f (B + 23) (((nI 40) * a1) + (nI 0)).toNatClampNeg)) (B + 24) (((nI 8) * (((nI 480) * a1) + a5)) + (nI 5)).toNatClampNeg ((f (B + 23) (((nI 40) * a1) + (nI 0)).toNatClampNeg) + (f (B + 29) a2.toNatClampNeg))) (B + 24) (((nI 8) * (((nI 480) * a1) + a5)) + (nI 6)).toNatClampNeg (nI 1)) (B + 24) (((nI 8) * (((nI 480) * a1) + a5)) + (nI 7)).toNatClampNeg (f (B + 23) (((((nI 40) * a1) + (nI 14)) + ((nI 6) * a2)) + (nI 5)).toNatClampNeg)) (B + 23) (((((nI 40) * a1) + (nI 14)) + ((nI 6) * a2)) + (nI 5)).toNatClampNeg (nI 0)) (B + 23) (((((nI 40) * a1) + (nI 14)) + ((nI 6) * a2)) + (nI 4)).toNatClampNeg (a6 + (nI 1))) (B + 23) (((nI 40) * a1) + (nI 6)).toNatClampNeg (a5 + (nI 1))), g, fR)
    refine S_aload_n (pc := 266) dX12_sends_266 rfl rfl ?_
    refine S_iload_n (pc := 267) dX12_sends_267 rfl rfl ?_
    refine S_iconst (pc := 268) dX12_sends_268 ic5 ?_
    refine S_aload_n (pc := 269) dX12_sends_269 rfl rfl ?_
    refine S_iload_n (pc := 270) dX12_sends_270 rfl rfl ?_
    refine S_iconst (pc := 271) dX12_sends_271 ic5 ?_
    refine S_callV (As := [.int a1, .int (nI 5)]) (mc := 0) (ms := 0) (pc := 272) dX12_sends_272 miX12_n mvX12_n mlX12_402 rfl (sM_0 hs) rfl rfl rfl (RmOK.of rfl) (Q := fun r h => WP _ _ _ _ _ _ _ 275 [some (.ref B), some (.int a1), some (.int a2), some (.int a3), some (.int a4), some (.int a5), some (.int a6), some (.int a7)] (r.toList ++ [.int (nI 5), .int a1, .ref B]) h) (Cl.of miX12_n rfl rfl ?_) (fun _ _ q => q)
    refine S_aload_n (pc := 0) dX12_n_0 rfl rfl ?_
    refine S_getR (pc := 1) dX12_n_1 flX12_144 (sM_0 hs) rfl (rM_43 hs) ?_
    refine S_bipush (pc := 4) dX12_n_4 bp40 ?_
    refine S_iload_n (pc := 6) dX12_n_6 rfl rfl ?_
    refine S_imul (pc := 7) dX12_n_7 ?_
    refine S_iload_n (pc := 8) dX12_n_8 rfl rfl ?_
    refine S_iadd (pc := 9) dX12_n_9 ?_
    obtain ⟨hb41, H⟩ := H
    refine S_iald (pc := 10) dX12_n_10 (sM_23 hs) hb41 ?_
    refine S_ireturn dX12_n_11 rfl ?_
    show WP _ _ _ _ _ _ _ 275 [some (.ref B), some (.int a1), some (.int a2), some (.int a3), some (.int a4), some (.int a5), some (.int a6), some (.int a7)] [.int ((up2 (up2 (up2 (up2 (up2 (up2 (up2 (up2 (up2 (up2 (up2 f (B + 24) (((nI 8) * (((nI 480) * a1) + a5)) + (nI 0)).toNatClampNeg a2) (B + 24) (((nI 8) * (((nI 480) * a1) + a5)) + (nI 1)).toNatClampNeg a6) (B + 24) (((nI 8) * (((nI 480) * a1) + a5)) + (nI 2)).toNatClampNeg a3) (B + 24) (((nI 8) * (((nI 480) * a1) + a5)) + (nI 3)).toNatClampNeg a4) (B + 24) (((nI 8) * (((nI 480) * a1) + a5)) + (nI 4)).toNatClampNeg (f (B + 23) (((nI 40) * a1) + (nI 0)).toNatClampNeg)) (B + 24) (((nI 8) * (((nI 480) * a1) + a5)) + (nI 5)).toNatClampNeg ((f (B + 23) (((nI 40) * a1) + (nI 0)).toNatClampNeg) + (f (B + 29) a2.toNatClampNeg))) (B + 24) (((nI 8) * (((nI 480) * a1) + a5)) + (nI 6)).toNatClampNeg (nI 1)) (B + 24) (((nI 8) * (((nI 480) * a1) + a5)) + (nI 7)).toNatClampNeg (f (B + 23) (((((nI 40) * a1) + (nI 14)) + ((nI 6) * a2)) + (nI 5)).toNatClampNeg)) (B + 23) (((((nI 40) * a1) + (nI 14)) + ((nI 6) * a2)) + (nI 5)).toNatClampNeg (nI 0)) (B + 23) (((((nI 40) * a1) + (nI 14)) + ((nI 6) * a2)) + (nI 4)).toNatClampNeg (a6 + (nI 1))) (B + 23) (((nI 40) * a1) + (nI 6)).toNatClampNeg (a5 + (nI 1))) (B + 23) (((nI 40) * a1) + (nI 5)).toNatClampNeg), .int (nI 5), .int a1, .ref B] (sh, (up2 (up2 (up2 (up2 (up2 (up2 (up2 (up2 (up2 (up2 (up2 f (B + 24) (((nI 8) * (((nI 480) * a1) + a5)) + (nI 0)).toNatClampNeg a2) (B + 24) (((nI 8) * (((nI 480) * a1) + a5)) + (nI 1)).toNatClampNeg a6) (B + 24) (((nI 8) * (((nI 480) * a1) + a5)) + (nI 2)).toNatClampNeg a3) (B + 24) (((nI 8) * (((nI 480) * a1) + a5)) + (nI 3)).toNatClampNeg a4) (B + 24) (((nI 8) * (((nI 480) * a1) + a5)) + (nI 4)).toNatClampNeg (f (B + 23) (((nI 40) * a1) + (nI 0)).toNatClampNeg)) (B + 24) (((nI 8) * (((nI 480) * a1) + a5)) + (nI 5)).toNatClampNeg ((f (B + 23) (((nI 40) * a1) + (nI 0)).toNatClampNeg) + (f (B + 29) a2.toNatClampNeg))) (B + 24) (((nI 8) * (((nI 480) * a1) + a5)) + (nI 6)).toNatClampNeg (nI 1)) (B + 24) (((nI 8) * (((nI 480) * a1) + a5)) + (nI 7)).toNatClampNeg (f (B + 23) (((((nI 40) * a1) + (nI 14)) + ((nI 6) * a2)) + (nI 5)).toNatClampNeg)) (B + 23) (((((nI 40) * a1) + (nI 14)) + ((nI 6) * a2)) + (nI 5)).toNatClampNeg (nI 0)) (B + 23) (((((nI 40) * a1) + (nI 14)) + ((nI 6) * a2)) + (nI 4)).toNatClampNeg (a6 + (nI 1))) (B + 23) (((nI 40) * a1) + (nI 6)).toNatClampNeg (a5 + (nI 1))), g, fR)
    refine S_iload (pc := 275) dX12_sends_275 rfl ?_
    refine S_iadd (pc := 277) dX12_sends_277 ?_
    refine S_callV (As := [.int a1, .int (nI 5), .int (((up2 (up2 (up2 (up2 (up2 (up2 (up2 (up2 (up2 (up2 (up2 f (B + 24) (((nI 8) * (((nI 480) * a1) + a5)) + (nI 0)).toNatClampNeg a2) (B + 24) (((nI 8) * (((nI 480) * a1) + a5)) + (nI 1)).toNatClampNeg a6) (B + 24) (((nI 8) * (((nI 480) * a1) + a5)) + (nI 2)).toNatClampNeg a3) (B + 24) (((nI 8) * (((nI 480) * a1) + a5)) + (nI 3)).toNatClampNeg a4) (B + 24) (((nI 8) * (((nI 480) * a1) + a5)) + (nI 4)).toNatClampNeg (f (B + 23) (((nI 40) * a1) + (nI 0)).toNatClampNeg)) (B + 24) (((nI 8) * (((nI 480) * a1) + a5)) + (nI 5)).toNatClampNeg ((f (B + 23) (((nI 40) * a1) + (nI 0)).toNatClampNeg) + (f (B + 29) a2.toNatClampNeg))) (B + 24) (((nI 8) * (((nI 480) * a1) + a5)) + (nI 6)).toNatClampNeg (nI 1)) (B + 24) (((nI 8) * (((nI 480) * a1) + a5)) + (nI 7)).toNatClampNeg (f (B + 23) (((((nI 40) * a1) + (nI 14)) + ((nI 6) * a2)) + (nI 5)).toNatClampNeg)) (B + 23) (((((nI 40) * a1) + (nI 14)) + ((nI 6) * a2)) + (nI 5)).toNatClampNeg (nI 0)) (B + 23) (((((nI 40) * a1) + (nI 14)) + ((nI 6) * a2)) + (nI 4)).toNatClampNeg (a6 + (nI 1))) (B + 23) (((nI 40) * a1) + (nI 6)).toNatClampNeg (a5 + (nI 1))) (B + 23) (((nI 40) * a1) + (nI 5)).toNatClampNeg) + a4)]) (mc := 0) (ms := 0) (pc := 278) dX12_sends_278 miX12_sets mvX12_sets mlX12_405 rfl (sM_0 hs) rfl rfl rfl (RmOK.of rfl) (Q := fun r h => WP _ _ _ _ _ _ _ 281 [some (.ref B), some (.int a1), some (.int a2), some (.int a3), some (.int a4), some (.int a5), some (.int a6), some (.int a7)] (r.toList ++ []) h) (Cl.of miX12_sets rfl rfl ?_) (fun _ _ q => q)
    refine S_aload_n (pc := 0) dX12_sets_0 rfl rfl ?_
    refine S_getR (pc := 1) dX12_sets_1 flX12_144 (sM_0 hs) rfl (rM_43 hs) ?_
    refine S_bipush (pc := 4) dX12_sets_4 bp40 ?_
    refine S_iload_n (pc := 6) dX12_sets_6 rfl rfl ?_
    refine S_imul (pc := 7) dX12_sets_7 ?_
    refine S_iload_n (pc := 8) dX12_sets_8 rfl rfl ?_
    refine S_iadd (pc := 9) dX12_sets_9 ?_
    refine S_iload_n (pc := 10) dX12_sets_10 rfl rfl ?_
    obtain ⟨hb42, H⟩ := H
    refine S_iast (pc := 11) dX12_sets_11 (sM_23 hs) (Nat.succ_pos _) hb42 ?_
    refine S_vreturn dX12_sets_12 rfl ?_
    show WP _ _ _ _ _ _ _ 281 [some (.ref B), some (.int a1), some (.int a2), some (.int a3), some (.int a4), some (.int a5), some (.int a6), some (.int a7)] [] (sh, (up2 (up2 (up2 (up2 (up2 (up2 (up2 (up2 (up2 (up2 (up2 (up2 f (B + 24) (((nI 8) * (((nI 480) * a1) + a5)) + (nI 0)).toNatClampNeg a2) (B + 24) (((nI 8) * (((nI 480) * a1) + a5)) + (nI 1)).toNatClampNeg a6) (B + 24) (((nI 8) * (((nI 480) * a1) + a5)) + (nI 2)).toNatClampNeg a3) (B + 24) (((nI 8) * (((nI 480) * a1) + a5)) + (nI 3)).toNatClampNeg a4) (B + 24) (((nI 8) * (((nI 480) * a1) + a5)) + (nI 4)).toNatClampNeg (f (B + 23) (((nI 40) * a1) + (nI 0)).toNatClampNeg)) (B + 24) (((nI 8) * (((nI 480) * a1) + a5)) + (nI 5)).toNatClampNeg ((f (B + 23) (((nI 40) * a1) + (nI 0)).toNatClampNeg) + (f (B + 29) a2.toNatClampNeg))) (B + 24) (((nI 8) * (((nI 480) * a1) + a5)) + (nI 6)).toNatClampNeg (nI 1)) (B + 24) (((nI 8) * (((nI 480) * a1) + a5)) + (nI 7)).toNatClampNeg (f (B + 23) (((((nI 40) * a1) + (nI 14)) + ((nI 6) * a2)) + (nI 5)).toNatClampNeg)) (B + 23) (((((nI 40) * a1) + (nI 14)) + ((nI 6) * a2)) + (nI 5)).toNatClampNeg (nI 0)) (B + 23) (((((nI 40) * a1) + (nI 14)) + ((nI 6) * a2)) + (nI 4)).toNatClampNeg (a6 + (nI 1))) (B + 23) (((nI 40) * a1) + (nI 6)).toNatClampNeg (a5 + (nI 1))) (B + 23) (((nI 40) * a1) + (nI 5)).toNatClampNeg (((up2 (up2 (up2 (up2 (up2 (up2 (up2 (up2 (up2 (up2 (up2 f (B + 24) (((nI 8) * (((nI 480) * a1) + a5)) + (nI 0)).toNatClampNeg a2) (B + 24) (((nI 8) * (((nI 480) * a1) + a5)) + (nI 1)).toNatClampNeg a6) (B + 24) (((nI 8) * (((nI 480) * a1) + a5)) + (nI 2)).toNatClampNeg a3) (B + 24) (((nI 8) * (((nI 480) * a1) + a5)) + (nI 3)).toNatClampNeg a4) (B + 24) (((nI 8) * (((nI 480) * a1) + a5)) + (nI 4)).toNatClampNeg (f (B + 23) (((nI 40) * a1) + (nI 0)).toNatClampNeg)) (B + 24) (((nI 8) * (((nI 480) * a1) + a5)) + (nI 5)).toNatClampNeg ((f (B + 23) (((nI 40) * a1) + (nI 0)).toNatClampNeg) + (f (B + 29) a2.toNatClampNeg))) (B + 24) (((nI 8) * (((nI 480) * a1) + a5)) + (nI 6)).toNatClampNeg (nI 1)) (B + 24) (((nI 8) * (((nI 480) * a1) + a5)) + (nI 7)).toNatClampNeg (f (B + 23) (((((nI 40) * a1) + (nI 14)) + ((nI 6) * a2)) + (nI 5)).toNatClampNeg)) (B + 23) (((((nI 40) * a1) + (nI 14)) + ((nI 6) * a2)) + (nI 5)).toNatClampNeg (nI 0)) (B + 23) (((((nI 40) * a1) + (nI 14)) + ((nI 6) * a2)) + (nI 4)).toNatClampNeg (a6 + (nI 1))) (B + 23) (((nI 40) * a1) + (nI 6)).toNatClampNeg (a5 + (nI 1))) (B + 23) (((nI 40) * a1) + (nI 5)).toNatClampNeg) + a4)), g, fR)
    exact S_vreturn dX12_sends_281 rfl H
  · replace H := H.2 hc31
    refine S_iconst (pc := 190) dX12_sends_190 icm1 ?_
    refine S_goto (pc := 191) (tgt := 207) dX12_sends_191 rfl ?_
    refine S_callV (As := [.int a1, .int a5, .int (nI 5), .int (-1)]) (mc := 0) (ms := 0) (pc := 207) dX12_sends_207 miX12_setsSegment mvX12_setsSegment mlX12_482 rfl (sM_0 hs) rfl rfl rfl (RmOK.of rfl) (Q := fun r h => WP _ _ _ _ _ _ _ 210 [some (.ref B), some (.int a1), some (.int a2), some (.int a3), some (.int a4), some (.int a5), some (.int a6), some (.int a7)] (r.toList ++ []) h) (Cl.of miX12_setsSegment rfl rfl ?_) (fun _ _ q => q)
    refine S_aload_n (pc := 0) dX12_setsSegment_0 rfl rfl ?_
    refine S_getR (pc := 1) dX12_setsSegment_1 flX12_148 (sM_0 hs) rfl (rM_44 hs) ?_
    refine S_bipush (pc := 4) dX12_setsSegment_4 bp8 ?_
    refine S_sipush (pc := 6) dX12_setsSegment_6 sp480 ?_
    refine S_iload_n (pc := 9) dX12_setsSegment_9 rfl rfl ?_
    refine S_imul (pc := 10) dX12_setsSegment_10 ?_
    refine S_iload_n (pc := 11) dX12_setsSegment_11 rfl rfl ?_
    refine S_iadd (pc := 12) dX12_setsSegment_12 ?_
    refine S_imul (pc := 13) dX12_setsSegment_13 ?_
    refine S_iload_n (pc := 14) dX12_setsSegment_14 rfl rfl ?_
    refine S_iadd (pc := 15) dX12_setsSegment_15 ?_
    refine S_iload (pc := 16) dX12_setsSegment_16 rfl ?_
    obtain ⟨hb43, H⟩ := H
    refine S_iast (pc := 18) dX12_setsSegment_18 (sM_24 hs) (Nat.succ_pos _) hb43 ?_
    refine S_vreturn dX12_setsSegment_19 rfl ?_
    show WP _ _ _ _ _ _ _ 210 [some (.ref B), some (.int a1), some (.int a2), some (.int a3), some (.int a4), some (.int a5), some (.int a6), some (.int a7)] [] (sh, (up2 (up2 (up2 (up2 (up2 (up2 f (B + 24) (((nI 8) * (((nI 480) * a1) + a5)) + (nI 0)).toNatClampNeg a2) (B + 24) (((nI 8) * (((nI 480) * a1) + a5)) + (nI 1)).toNatClampNeg a6) (B + 24) (((nI 8) * (((nI 480) * a1) + a5)) + (nI 2)).toNatClampNeg a3) (B + 24) (((nI 8) * (((nI 480) * a1) + a5)) + (nI 3)).toNatClampNeg a4) (B + 24) (((nI 8) * (((nI 480) * a1) + a5)) + (nI 4)).toNatClampNeg (f (B + 23) (((nI 40) * a1) + (nI 0)).toNatClampNeg)) (B + 24) (((nI 8) * (((nI 480) * a1) + a5)) + (nI 5)).toNatClampNeg (-1)), g, fR)
    refine S_aload_n (pc := 210) dX12_sends_210 rfl rfl ?_
    refine S_iload_n (pc := 211) dX12_sends_211 rfl rfl ?_
    refine S_iload (pc := 212) dX12_sends_212 rfl ?_
    refine S_bipush (pc := 214) dX12_sends_214 bp6 ?_
    refine S_iconst (pc := 216) dX12_sends_216 ic1 ?_
    refine S_callV (As := [.int a1, .int a5, .int (nI 6), .int (nI 1)]) (mc := 0) (ms := 0) (pc := 217) dX12_sends_217 miX12_setsSegment mvX12_setsSegment mlX12_482 rfl (sM_0 hs) rfl rfl rfl (RmOK.of rfl) (Q := fun r h => WP _ _ _ _ _ _ _ 220 [some (.ref B), some (.int a1), some (.int a2), some (.int a3), some (.int a4), some (.int a5), some (.int a6), some (.int a7)] (r.toList ++ []) h) (Cl.of miX12_setsSegment rfl rfl ?_) (fun _ _ q => q)
    refine S_aload_n (pc := 0) dX12_setsSegment_0 rfl rfl ?_
    refine S_getR (pc := 1) dX12_setsSegment_1 flX12_148 (sM_0 hs) rfl (rM_44 hs) ?_
    refine S_bipush (pc := 4) dX12_setsSegment_4 bp8 ?_
    refine S_sipush (pc := 6) dX12_setsSegment_6 sp480 ?_
    refine S_iload_n (pc := 9) dX12_setsSegment_9 rfl rfl ?_
    refine S_imul (pc := 10) dX12_setsSegment_10 ?_
    refine S_iload_n (pc := 11) dX12_setsSegment_11 rfl rfl ?_
    refine S_iadd (pc := 12) dX12_setsSegment_12 ?_
    refine S_imul (pc := 13) dX12_setsSegment_13 ?_
    refine S_iload_n (pc := 14) dX12_setsSegment_14 rfl rfl ?_
    refine S_iadd (pc := 15) dX12_setsSegment_15 ?_
    refine S_iload (pc := 16) dX12_setsSegment_16 rfl ?_
    obtain ⟨hb44, H⟩ := H
    refine S_iast (pc := 18) dX12_setsSegment_18 (sM_24 hs) (Nat.succ_pos _) hb44 ?_
    refine S_vreturn dX12_setsSegment_19 rfl ?_
    show WP _ _ _ _ _ _ _ 220 [some (.ref B), some (.int a1), some (.int a2), some (.int a3), some (.int a4), some (.int a5), some (.int a6), some (.int a7)] [] (sh, (up2 (up2 (up2 (up2 (up2 (up2 (up2 f (B + 24) (((nI 8) * (((nI 480) * a1) + a5)) + (nI 0)).toNatClampNeg a2) (B + 24) (((nI 8) * (((nI 480) * a1) + a5)) + (nI 1)).toNatClampNeg a6) (B + 24) (((nI 8) * (((nI 480) * a1) + a5)) + (nI 2)).toNatClampNeg a3) (B + 24) (((nI 8) * (((nI 480) * a1) + a5)) + (nI 3)).toNatClampNeg a4) (B + 24) (((nI 8) * (((nI 480) * a1) + a5)) + (nI 4)).toNatClampNeg (f (B + 23) (((nI 40) * a1) + (nI 0)).toNatClampNeg)) (B + 24) (((nI 8) * (((nI 480) * a1) + a5)) + (nI 5)).toNatClampNeg (-1)) (B + 24) (((nI 8) * (((nI 480) * a1) + a5)) + (nI 6)).toNatClampNeg (nI 1)), g, fR)
    refine S_aload_n (pc := 220) dX12_sends_220 rfl rfl ?_
    refine S_iload_n (pc := 221) dX12_sends_221 rfl rfl ?_
    refine S_iload (pc := 222) dX12_sends_222 rfl ?_
    refine S_bipush (pc := 224) dX12_sends_224 bp7 ?_
    refine S_aload_n (pc := 226) dX12_sends_226 rfl rfl ?_
    refine S_iload_n (pc := 227) dX12_sends_227 rfl rfl ?_
    refine S_iload_n (pc := 228) dX12_sends_228 rfl rfl ?_
    refine S_iconst (pc := 229) dX12_sends_229 ic5 ?_
    refine S_callV (As := [.int a1, .int a2, .int (nI 5)]) (mc := 0) (ms := 0) (pc := 230) dX12_sends_230 miX12_p mvX12_p mlX12_438 rfl (sM_0 hs) rfl rfl rfl (RmOK.of rfl) (Q := fun r h => WP _ _ _ _ _ _ _ 233 [some (.ref B), some (.int a1), some (.int a2), some (.int a3), some (.int a4), some (.int a5), some (.int a6), some (.int a7)] (r.toList ++ [.int (nI 7), .int a5, .int a1, .ref B]) h) (Cl.of miX12_p rfl rfl ?_) (fun _ _ q => q)
    refine S_aload_n (pc := 0) dX12_p_0 rfl rfl ?_
    refine S_getR (pc := 1) dX12_p_1 flX12_144 (sM_0 hs) rfl (rM_43 hs) ?_
    refine S_bipush (pc := 4) dX12_p_4 bp40 ?_
    refine S_iload_n (pc := 6) dX12_p_6 rfl rfl ?_
    refine S_imul (pc := 7) dX12_p_7 ?_
    refine S_bipush (pc := 8) dX12_p_8 bp14 ?_
    refine S_iadd (pc := 10) dX12_p_10 ?_
    refine S_bipush (pc := 11) dX12_p_11 bp6 ?_
    refine S_iload_n (pc := 13) dX12_p_13 rfl rfl ?_
    refine S_imul (pc := 14) dX12_p_14 ?_
    refine S_iadd (pc := 15) dX12_p_15 ?_
    refine S_iload_n (pc := 16) dX12_p_16 rfl rfl ?_
    refine S_iadd (pc := 17) dX12_p_17 ?_
    obtain ⟨hb45, H⟩ := H
    refine S_iald (pc := 18) dX12_p_18 (sM_23 hs) hb45 ?_
    refine S_eqi (x := f (B + 23) (((((nI 40) * a1) + (nI 14)) + ((nI 6) * a2)) + (nI 5)).toNatClampNeg) ((up2_r (by omega)).trans ((up2_r (by omega)).trans ((up2_r (by omega)).trans ((up2_r (by omega)).trans ((up2_r (by omega)).trans ((up2_r (by omega)).trans ((up2_r (by omega)).trans rfl))))))) ?_
    refine S_ireturn dX12_p_19 rfl ?_
    show WP _ _ _ _ _ _ _ 233 [some (.ref B), some (.int a1), some (.int a2), some (.int a3), some (.int a4), some (.int a5), some (.int a6), some (.int a7)] [.int (f (B + 23) (((((nI 40) * a1) + (nI 14)) + ((nI 6) * a2)) + (nI 5)).toNatClampNeg), .int (nI 7), .int a5, .int a1, .ref B] (sh, (up2 (up2 (up2 (up2 (up2 (up2 (up2 f (B + 24) (((nI 8) * (((nI 480) * a1) + a5)) + (nI 0)).toNatClampNeg a2) (B + 24) (((nI 8) * (((nI 480) * a1) + a5)) + (nI 1)).toNatClampNeg a6) (B + 24) (((nI 8) * (((nI 480) * a1) + a5)) + (nI 2)).toNatClampNeg a3) (B + 24) (((nI 8) * (((nI 480) * a1) + a5)) + (nI 3)).toNatClampNeg a4) (B + 24) (((nI 8) * (((nI 480) * a1) + a5)) + (nI 4)).toNatClampNeg (f (B + 23) (((nI 40) * a1) + (nI 0)).toNatClampNeg)) (B + 24) (((nI 8) * (((nI 480) * a1) + a5)) + (nI 5)).toNatClampNeg (-1)) (B + 24) (((nI 8) * (((nI 480) * a1) + a5)) + (nI 6)).toNatClampNeg (nI 1)), g, fR)
    refine S_callV (As := [.int a1, .int a5, .int (nI 7), .int (f (B + 23) (((((nI 40) * a1) + (nI 14)) + ((nI 6) * a2)) + (nI 5)).toNatClampNeg)]) (mc := 0) (ms := 0) (pc := 233) dX12_sends_233 miX12_setsSegment mvX12_setsSegment mlX12_482 rfl (sM_0 hs) rfl rfl rfl (RmOK.of rfl) (Q := fun r h => WP _ _ _ _ _ _ _ 236 [some (.ref B), some (.int a1), some (.int a2), some (.int a3), some (.int a4), some (.int a5), some (.int a6), some (.int a7)] (r.toList ++ []) h) (Cl.of miX12_setsSegment rfl rfl ?_) (fun _ _ q => q)
    refine S_aload_n (pc := 0) dX12_setsSegment_0 rfl rfl ?_
    refine S_getR (pc := 1) dX12_setsSegment_1 flX12_148 (sM_0 hs) rfl (rM_44 hs) ?_
    refine S_bipush (pc := 4) dX12_setsSegment_4 bp8 ?_
    refine S_sipush (pc := 6) dX12_setsSegment_6 sp480 ?_
    refine S_iload_n (pc := 9) dX12_setsSegment_9 rfl rfl ?_
    refine S_imul (pc := 10) dX12_setsSegment_10 ?_
    refine S_iload_n (pc := 11) dX12_setsSegment_11 rfl rfl ?_
    refine S_iadd (pc := 12) dX12_setsSegment_12 ?_
    refine S_imul (pc := 13) dX12_setsSegment_13 ?_
    refine S_iload_n (pc := 14) dX12_setsSegment_14 rfl rfl ?_
    refine S_iadd (pc := 15) dX12_setsSegment_15 ?_
    refine S_iload (pc := 16) dX12_setsSegment_16 rfl ?_
    obtain ⟨hb46, H⟩ := H
    refine S_iast (pc := 18) dX12_setsSegment_18 (sM_24 hs) (Nat.succ_pos _) hb46 ?_
    refine S_vreturn dX12_setsSegment_19 rfl ?_
    show WP _ _ _ _ _ _ _ 236 [some (.ref B), some (.int a1), some (.int a2), some (.int a3), some (.int a4), some (.int a5), some (.int a6), some (.int a7)] [] (sh, (up2 (up2 (up2 (up2 (up2 (up2 (up2 (up2 f (B + 24) (((nI 8) * (((nI 480) * a1) + a5)) + (nI 0)).toNatClampNeg a2) (B + 24) (((nI 8) * (((nI 480) * a1) + a5)) + (nI 1)).toNatClampNeg a6) (B + 24) (((nI 8) * (((nI 480) * a1) + a5)) + (nI 2)).toNatClampNeg a3) (B + 24) (((nI 8) * (((nI 480) * a1) + a5)) + (nI 3)).toNatClampNeg a4) (B + 24) (((nI 8) * (((nI 480) * a1) + a5)) + (nI 4)).toNatClampNeg (f (B + 23) (((nI 40) * a1) + (nI 0)).toNatClampNeg)) (B + 24) (((nI 8) * (((nI 480) * a1) + a5)) + (nI 5)).toNatClampNeg (-1)) (B + 24) (((nI 8) * (((nI 480) * a1) + a5)) + (nI 6)).toNatClampNeg (nI 1)) (B + 24) (((nI 8) * (((nI 480) * a1) + a5)) + (nI 7)).toNatClampNeg (f (B + 23) (((((nI 40) * a1) + (nI 14)) + ((nI 6) * a2)) + (nI 5)).toNatClampNeg)), g, fR)
    refine S_aload_n (pc := 236) dX12_sends_236 rfl rfl ?_
    refine S_iload_n (pc := 237) dX12_sends_237 rfl rfl ?_
    refine S_iload_n (pc := 238) dX12_sends_238 rfl rfl ?_
    refine S_iconst (pc := 239) dX12_sends_239 ic5 ?_
    refine S_iconst (pc := 240) dX12_sends_240 ic0 ?_
    refine S_callV (As := [.int a1, .int a2, .int (nI 5), .int (nI 0)]) (mc := 0) (ms := 0) (pc := 241) dX12_sends_241 miX12_setsPath mvX12_setsPath mlX12_412 rfl (sM_0 hs) rfl rfl rfl (RmOK.of rfl) (Q := fun r h => WP _ _ _ _ _ _ _ 244 [some (.ref B), some (.int a1), some (.int a2), some (.int a3), some (.int a4), some (.int a5), some (.int a6), some (.int a7)] (r.toList ++ []) h) (Cl.of miX12_setsPath rfl rfl ?_) (fun _ _ q => q)
    refine S_aload_n (pc := 0) dX12_setsPath_0 rfl rfl ?_
    refine S_getR (pc := 1) dX12_setsPath_1 flX12_144 (sM_0 hs) rfl (rM_43 hs) ?_
    refine S_bipush (pc := 4) dX12_setsPath_4 bp40 ?_
    refine S_iload_n (pc := 6) dX12_setsPath_6 rfl rfl ?_
    refine S_imul (pc := 7) dX12_setsPath_7 ?_
    refine S_bipush (pc := 8) dX12_setsPath_8 bp14 ?_
    refine S_iadd (pc := 10) dX12_setsPath_10 ?_
    refine S_bipush (pc := 11) dX12_setsPath_11 bp6 ?_
    refine S_iload_n (pc := 13) dX12_setsPath_13 rfl rfl ?_
    refine S_imul (pc := 14) dX12_setsPath_14 ?_
    refine S_iadd (pc := 15) dX12_setsPath_15 ?_
    refine S_iload_n (pc := 16) dX12_setsPath_16 rfl rfl ?_
    refine S_iadd (pc := 17) dX12_setsPath_17 ?_
    refine S_iload (pc := 18) dX12_setsPath_18 rfl ?_
    obtain ⟨hb47, H⟩ := H
    refine S_iast (pc := 20) dX12_setsPath_20 (sM_23 hs) (Nat.succ_pos _) hb47 ?_
    refine S_vreturn dX12_setsPath_21 rfl ?_
    show WP _ _ _ _ _ _ _ 244 [some (.ref B), some (.int a1), some (.int a2), some (.int a3), some (.int a4), some (.int a5), some (.int a6), some (.int a7)] [] (sh, (up2 (up2 (up2 (up2 (up2 (up2 (up2 (up2 (up2 f (B + 24) (((nI 8) * (((nI 480) * a1) + a5)) + (nI 0)).toNatClampNeg a2) (B + 24) (((nI 8) * (((nI 480) * a1) + a5)) + (nI 1)).toNatClampNeg a6) (B + 24) (((nI 8) * (((nI 480) * a1) + a5)) + (nI 2)).toNatClampNeg a3) (B + 24) (((nI 8) * (((nI 480) * a1) + a5)) + (nI 3)).toNatClampNeg a4) (B + 24) (((nI 8) * (((nI 480) * a1) + a5)) + (nI 4)).toNatClampNeg (f (B + 23) (((nI 40) * a1) + (nI 0)).toNatClampNeg)) (B + 24) (((nI 8) * (((nI 480) * a1) + a5)) + (nI 5)).toNatClampNeg (-1)) (B + 24) (((nI 8) * (((nI 480) * a1) + a5)) + (nI 6)).toNatClampNeg (nI 1)) (B + 24) (((nI 8) * (((nI 480) * a1) + a5)) + (nI 7)).toNatClampNeg (f (B + 23) (((((nI 40) * a1) + (nI 14)) + ((nI 6) * a2)) + (nI 5)).toNatClampNeg)) (B + 23) (((((nI 40) * a1) + (nI 14)) + ((nI 6) * a2)) + (nI 5)).toNatClampNeg (nI 0)), g, fR)
    refine S_aload_n (pc := 244) dX12_sends_244 rfl rfl ?_
    refine S_iload_n (pc := 245) dX12_sends_245 rfl rfl ?_
    refine S_iload_n (pc := 246) dX12_sends_246 rfl rfl ?_
    refine S_iconst (pc := 247) dX12_sends_247 ic4 ?_
    refine S_iload (pc := 248) dX12_sends_248 rfl ?_
    refine S_iconst (pc := 250) dX12_sends_250 ic1 ?_
    refine S_iadd (pc := 251) dX12_sends_251 ?_
    refine S_callV (As := [.int a1, .int a2, .int (nI 4), .int (a6 + (nI 1))]) (mc := 0) (ms := 0) (pc := 252) dX12_sends_252 miX12_setsPath mvX12_setsPath mlX12_412 rfl (sM_0 hs) rfl rfl rfl (RmOK.of rfl) (Q := fun r h => WP _ _ _ _ _ _ _ 255 [some (.ref B), some (.int a1), some (.int a2), some (.int a3), some (.int a4), some (.int a5), some (.int a6), some (.int a7)] (r.toList ++ []) h) (Cl.of miX12_setsPath rfl rfl ?_) (fun _ _ q => q)
    refine S_aload_n (pc := 0) dX12_setsPath_0 rfl rfl ?_
    refine S_getR (pc := 1) dX12_setsPath_1 flX12_144 (sM_0 hs) rfl (rM_43 hs) ?_
    refine S_bipush (pc := 4) dX12_setsPath_4 bp40 ?_
    refine S_iload_n (pc := 6) dX12_setsPath_6 rfl rfl ?_
    refine S_imul (pc := 7) dX12_setsPath_7 ?_
    refine S_bipush (pc := 8) dX12_setsPath_8 bp14 ?_
    refine S_iadd (pc := 10) dX12_setsPath_10 ?_
    refine S_bipush (pc := 11) dX12_setsPath_11 bp6 ?_
    refine S_iload_n (pc := 13) dX12_setsPath_13 rfl rfl ?_
    refine S_imul (pc := 14) dX12_setsPath_14 ?_
    refine S_iadd (pc := 15) dX12_setsPath_15 ?_
    refine S_iload_n (pc := 16) dX12_setsPath_16 rfl rfl ?_
    refine S_iadd (pc := 17) dX12_setsPath_17 ?_
    refine S_iload (pc := 18) dX12_setsPath_18 rfl ?_
    obtain ⟨hb48, H⟩ := H
    refine S_iast (pc := 20) dX12_setsPath_20 (sM_23 hs) (Nat.succ_pos _) hb48 ?_
    refine S_vreturn dX12_setsPath_21 rfl ?_
    show WP _ _ _ _ _ _ _ 255 [some (.ref B), some (.int a1), some (.int a2), some (.int a3), some (.int a4), some (.int a5), some (.int a6), some (.int a7)] [] (sh, (up2 (up2 (up2 (up2 (up2 (up2 (up2 (up2 (up2 (up2 f (B + 24) (((nI 8) * (((nI 480) * a1) + a5)) + (nI 0)).toNatClampNeg a2) (B + 24) (((nI 8) * (((nI 480) * a1) + a5)) + (nI 1)).toNatClampNeg a6) (B + 24) (((nI 8) * (((nI 480) * a1) + a5)) + (nI 2)).toNatClampNeg a3) (B + 24) (((nI 8) * (((nI 480) * a1) + a5)) + (nI 3)).toNatClampNeg a4) (B + 24) (((nI 8) * (((nI 480) * a1) + a5)) + (nI 4)).toNatClampNeg (f (B + 23) (((nI 40) * a1) + (nI 0)).toNatClampNeg)) (B + 24) (((nI 8) * (((nI 480) * a1) + a5)) + (nI 5)).toNatClampNeg (-1)) (B + 24) (((nI 8) * (((nI 480) * a1) + a5)) + (nI 6)).toNatClampNeg (nI 1)) (B + 24) (((nI 8) * (((nI 480) * a1) + a5)) + (nI 7)).toNatClampNeg (f (B + 23) (((((nI 40) * a1) + (nI 14)) + ((nI 6) * a2)) + (nI 5)).toNatClampNeg)) (B + 23) (((((nI 40) * a1) + (nI 14)) + ((nI 6) * a2)) + (nI 5)).toNatClampNeg (nI 0)) (B + 23) (((((nI 40) * a1) + (nI 14)) + ((nI 6) * a2)) + (nI 4)).toNatClampNeg (a6 + (nI 1))), g, fR)
    refine S_aload_n (pc := 255) dX12_sends_255 rfl rfl ?_
    refine S_iload_n (pc := 256) dX12_sends_256 rfl rfl ?_
    refine S_bipush (pc := 257) dX12_sends_257 bp6 ?_
    refine S_iload (pc := 259) dX12_sends_259 rfl ?_
    refine S_iconst (pc := 261) dX12_sends_261 ic1 ?_
    refine S_iadd (pc := 262) dX12_sends_262 ?_
    refine S_callV (As := [.int a1, .int (nI 6), .int (a5 + (nI 1))]) (mc := 0) (ms := 0) (pc := 263) dX12_sends_263 miX12_sets mvX12_sets mlX12_405 rfl (sM_0 hs) rfl rfl rfl (RmOK.of rfl) (Q := fun r h => WP _ _ _ _ _ _ _ 266 [some (.ref B), some (.int a1), some (.int a2), some (.int a3), some (.int a4), some (.int a5), some (.int a6), some (.int a7)] (r.toList ++ []) h) (Cl.of miX12_sets rfl rfl ?_) (fun _ _ q => q)
    refine S_aload_n (pc := 0) dX12_sets_0 rfl rfl ?_
    refine S_getR (pc := 1) dX12_sets_1 flX12_144 (sM_0 hs) rfl (rM_43 hs) ?_
    refine S_bipush (pc := 4) dX12_sets_4 bp40 ?_
    refine S_iload_n (pc := 6) dX12_sets_6 rfl rfl ?_
    refine S_imul (pc := 7) dX12_sets_7 ?_
    refine S_iload_n (pc := 8) dX12_sets_8 rfl rfl ?_
    refine S_iadd (pc := 9) dX12_sets_9 ?_
    refine S_iload_n (pc := 10) dX12_sets_10 rfl rfl ?_
    obtain ⟨hb49, H⟩ := H
    refine S_iast (pc := 11) dX12_sets_11 (sM_23 hs) (Nat.succ_pos _) hb49 ?_
    refine S_vreturn dX12_sets_12 rfl ?_
    show WP _ _ _ _ _ _ _ 266 [some (.ref B), some (.int a1), some (.int a2), some (.int a3), some (.int a4), some (.int a5), some (.int a6), some (.int a7)] [] (sh, (up2 (up2 (up2 (up2 (up2 (up2 (up2 (up2 (up2 (up2 (up2 f (B + 24) (((nI 8) * (((nI 480) * a1) + a5)) + (nI 0)).toNatClampNeg a2) (B + 24) (((nI 8) * (((nI 480) * a1) + a5)) + (nI 1)).toNatClampNeg a6) (B + 24) (((nI 8) * (((nI 480) * a1) + a5)) + (nI 2)).toNatClampNeg a3) (B + 24) (((nI 8) * (((nI 480) * a1) + a5)) + (nI 3)).toNatClampNeg a4) (B + 24) (((nI 8) * (((nI 480) * a1) + a5)) + (nI 4)).toNatClampNeg (f (B + 23) (((nI 40) * a1) + (nI 0)).toNatClampNeg)) (B + 24) (((nI 8) * (((nI 480) * a1) + a5)) + (nI 5)).toNatClampNeg (-1)) (B + 24) (((nI 8) * (((nI 480) * a1) + a5)) + (nI 6)).toNatClampNeg (nI 1)) (B + 24) (((nI 8) * (((nI 480) * a1) + a5)) + (nI 7)).toNatClampNeg (f (B + 23) (((((nI 40) * a1) + (nI 14)) + ((nI 6) * a2)) + (nI 5)).toNatClampNeg)) (B + 23) (((((nI 40) * a1) + (nI 14)) + ((nI 6) * a2)) + (nI 5)).toNatClampNeg (nI 0)) (B + 23) (((((nI 40) * a1) + (nI 14)) + ((nI 6) * a2)) + (nI 4)).toNatClampNeg (a6 + (nI 1))) (B + 23) (((nI 40) * a1) + (nI 6)).toNatClampNeg (a5 + (nI 1))), g, fR)
    refine S_aload_n (pc := 266) dX12_sends_266 rfl rfl ?_
    refine S_iload_n (pc := 267) dX12_sends_267 rfl rfl ?_
    refine S_iconst (pc := 268) dX12_sends_268 ic5 ?_
    refine S_aload_n (pc := 269) dX12_sends_269 rfl rfl ?_
    refine S_iload_n (pc := 270) dX12_sends_270 rfl rfl ?_
    refine S_iconst (pc := 271) dX12_sends_271 ic5 ?_
    refine S_callV (As := [.int a1, .int (nI 5)]) (mc := 0) (ms := 0) (pc := 272) dX12_sends_272 miX12_n mvX12_n mlX12_402 rfl (sM_0 hs) rfl rfl rfl (RmOK.of rfl) (Q := fun r h => WP _ _ _ _ _ _ _ 275 [some (.ref B), some (.int a1), some (.int a2), some (.int a3), some (.int a4), some (.int a5), some (.int a6), some (.int a7)] (r.toList ++ [.int (nI 5), .int a1, .ref B]) h) (Cl.of miX12_n rfl rfl ?_) (fun _ _ q => q)
    refine S_aload_n (pc := 0) dX12_n_0 rfl rfl ?_
    refine S_getR (pc := 1) dX12_n_1 flX12_144 (sM_0 hs) rfl (rM_43 hs) ?_
    refine S_bipush (pc := 4) dX12_n_4 bp40 ?_
    refine S_iload_n (pc := 6) dX12_n_6 rfl rfl ?_
    refine S_imul (pc := 7) dX12_n_7 ?_
    refine S_iload_n (pc := 8) dX12_n_8 rfl rfl ?_
    refine S_iadd (pc := 9) dX12_n_9 ?_
    obtain ⟨hb50, H⟩ := H
    refine S_iald (pc := 10) dX12_n_10 (sM_23 hs) hb50 ?_
    refine S_ireturn dX12_n_11 rfl ?_
    show WP _ _ _ _ _ _ _ 275 [some (.ref B), some (.int a1), some (.int a2), some (.int a3), some (.int a4), some (.int a5), some (.int a6), some (.int a7)] [.int ((up2 (up2 (up2 (up2 (up2 (up2 (up2 (up2 (up2 (up2 (up2 f (B + 24) (((nI 8) * (((nI 480) * a1) + a5)) + (nI 0)).toNatClampNeg a2) (B + 24) (((nI 8) * (((nI 480) * a1) + a5)) + (nI 1)).toNatClampNeg a6) (B + 24) (((nI 8) * (((nI 480) * a1) + a5)) + (nI 2)).toNatClampNeg a3) (B + 24) (((nI 8) * (((nI 480) * a1) + a5)) + (nI 3)).toNatClampNeg a4) (B + 24) (((nI 8) * (((nI 480) * a1) + a5)) + (nI 4)).toNatClampNeg (f (B + 23) (((nI 40) * a1) + (nI 0)).toNatClampNeg)) (B + 24) (((nI 8) * (((nI 480) * a1) + a5)) + (nI 5)).toNatClampNeg (-1)) (B + 24) (((nI 8) * (((nI 480) * a1) + a5)) + (nI 6)).toNatClampNeg (nI 1)) (B + 24) (((nI 8) * (((nI 480) * a1) + a5)) + (nI 7)).toNatClampNeg (f (B + 23) (((((nI 40) * a1) + (nI 14)) + ((nI 6) * a2)) + (nI 5)).toNatClampNeg)) (B + 23) (((((nI 40) * a1) + (nI 14)) + ((nI 6) * a2)) + (nI 5)).toNatClampNeg (nI 0)) (B + 23) (((((nI 40) * a1) + (nI 14)) + ((nI 6) * a2)) + (nI 4)).toNatClampNeg (a6 + (nI 1))) (B + 23) (((nI 40) * a1) + (nI 6)).toNatClampNeg (a5 + (nI 1))) (B + 23) (((nI 40) * a1) + (nI 5)).toNatClampNeg), .int (nI 5), .int a1, .ref B] (sh, (up2 (up2 (up2 (up2 (up2 (up2 (up2 (up2 (up2 (up2 (up2 f (B + 24) (((nI 8) * (((nI 480) * a1) + a5)) + (nI 0)).toNatClampNeg a2) (B + 24) (((nI 8) * (((nI 480) * a1) + a5)) + (nI 1)).toNatClampNeg a6) (B + 24) (((nI 8) * (((nI 480) * a1) + a5)) + (nI 2)).toNatClampNeg a3) (B + 24) (((nI 8) * (((nI 480) * a1) + a5)) + (nI 3)).toNatClampNeg a4) (B + 24) (((nI 8) * (((nI 480) * a1) + a5)) + (nI 4)).toNatClampNeg (f (B + 23) (((nI 40) * a1) + (nI 0)).toNatClampNeg)) (B + 24) (((nI 8) * (((nI 480) * a1) + a5)) + (nI 5)).toNatClampNeg (-1)) (B + 24) (((nI 8) * (((nI 480) * a1) + a5)) + (nI 6)).toNatClampNeg (nI 1)) (B + 24) (((nI 8) * (((nI 480) * a1) + a5)) + (nI 7)).toNatClampNeg (f (B + 23) (((((nI 40) * a1) + (nI 14)) + ((nI 6) * a2)) + (nI 5)).toNatClampNeg)) (B + 23) (((((nI 40) * a1) + (nI 14)) + ((nI 6) * a2)) + (nI 5)).toNatClampNeg (nI 0)) (B + 23) (((((nI 40) * a1) + (nI 14)) + ((nI 6) * a2)) + (nI 4)).toNatClampNeg (a6 + (nI 1))) (B + 23) (((nI 40) * a1) + (nI 6)).toNatClampNeg (a5 + (nI 1))), g, fR)
    refine S_iload (pc := 275) dX12_sends_275 rfl ?_
    refine S_iadd (pc := 277) dX12_sends_277 ?_
    refine S_callV (As := [.int a1, .int (nI 5), .int (((up2 (up2 (up2 (up2 (up2 (up2 (up2 (up2 (up2 (up2 (up2 f (B + 24) (((nI 8) * (((nI 480) * a1) + a5)) + (nI 0)).toNatClampNeg a2) (B + 24) (((nI 8) * (((nI 480) * a1) + a5)) + (nI 1)).toNatClampNeg a6) (B + 24) (((nI 8) * (((nI 480) * a1) + a5)) + (nI 2)).toNatClampNeg a3) (B + 24) (((nI 8) * (((nI 480) * a1) + a5)) + (nI 3)).toNatClampNeg a4) (B + 24) (((nI 8) * (((nI 480) * a1) + a5)) + (nI 4)).toNatClampNeg (f (B + 23) (((nI 40) * a1) + (nI 0)).toNatClampNeg)) (B + 24) (((nI 8) * (((nI 480) * a1) + a5)) + (nI 5)).toNatClampNeg (-1)) (B + 24) (((nI 8) * (((nI 480) * a1) + a5)) + (nI 6)).toNatClampNeg (nI 1)) (B + 24) (((nI 8) * (((nI 480) * a1) + a5)) + (nI 7)).toNatClampNeg (f (B + 23) (((((nI 40) * a1) + (nI 14)) + ((nI 6) * a2)) + (nI 5)).toNatClampNeg)) (B + 23) (((((nI 40) * a1) + (nI 14)) + ((nI 6) * a2)) + (nI 5)).toNatClampNeg (nI 0)) (B + 23) (((((nI 40) * a1) + (nI 14)) + ((nI 6) * a2)) + (nI 4)).toNatClampNeg (a6 + (nI 1))) (B + 23) (((nI 40) * a1) + (nI 6)).toNatClampNeg (a5 + (nI 1))) (B + 23) (((nI 40) * a1) + (nI 5)).toNatClampNeg) + a4)]) (mc := 0) (ms := 0) (pc := 278) dX12_sends_278 miX12_sets mvX12_sets mlX12_405 rfl (sM_0 hs) rfl rfl rfl (RmOK.of rfl) (Q := fun r h => WP _ _ _ _ _ _ _ 281 [some (.ref B), some (.int a1), some (.int a2), some (.int a3), some (.int a4), some (.int a5), some (.int a6), some (.int a7)] (r.toList ++ []) h) (Cl.of miX12_sets rfl rfl ?_) (fun _ _ q => q)
    refine S_aload_n (pc := 0) dX12_sets_0 rfl rfl ?_
    refine S_getR (pc := 1) dX12_sets_1 flX12_144 (sM_0 hs) rfl (rM_43 hs) ?_
    refine S_bipush (pc := 4) dX12_sets_4 bp40 ?_
    refine S_iload_n (pc := 6) dX12_sets_6 rfl rfl ?_
    refine S_imul (pc := 7) dX12_sets_7 ?_
    refine S_iload_n (pc := 8) dX12_sets_8 rfl rfl ?_
    refine S_iadd (pc := 9) dX12_sets_9 ?_
    refine S_iload_n (pc := 10) dX12_sets_10 rfl rfl ?_
    obtain ⟨hb51, H⟩ := H
    refine S_iast (pc := 11) dX12_sets_11 (sM_23 hs) (Nat.succ_pos _) hb51 ?_
    refine S_vreturn dX12_sets_12 rfl ?_
    show WP _ _ _ _ _ _ _ 281 [some (.ref B), some (.int a1), some (.int a2), some (.int a3), some (.int a4), some (.int a5), some (.int a6), some (.int a7)] [] (sh, (up2 (up2 (up2 (up2 (up2 (up2 (up2 (up2 (up2 (up2 (up2 (up2 f (B + 24) (((nI 8) * (((nI 480) * a1) + a5)) + (nI 0)).toNatClampNeg a2) (B + 24) (((nI 8) * (((nI 480) * a1) + a5)) + (nI 1)).toNatClampNeg a6) (B + 24) (((nI 8) * (((nI 480) * a1) + a5)) + (nI 2)).toNatClampNeg a3) (B + 24) (((nI 8) * (((nI 480) * a1) + a5)) + (nI 3)).toNatClampNeg a4) (B + 24) (((nI 8) * (((nI 480) * a1) + a5)) + (nI 4)).toNatClampNeg (f (B + 23) (((nI 40) * a1) + (nI 0)).toNatClampNeg)) (B + 24) (((nI 8) * (((nI 480) * a1) + a5)) + (nI 5)).toNatClampNeg (-1)) (B + 24) (((nI 8) * (((nI 480) * a1) + a5)) + (nI 6)).toNatClampNeg (nI 1)) (B + 24) (((nI 8) * (((nI 480) * a1) + a5)) + (nI 7)).toNatClampNeg (f (B + 23) (((((nI 40) * a1) + (nI 14)) + ((nI 6) * a2)) + (nI 5)).toNatClampNeg)) (B + 23) (((((nI 40) * a1) + (nI 14)) + ((nI 6) * a2)) + (nI 5)).toNatClampNeg (nI 0)) (B + 23) (((((nI 40) * a1) + (nI 14)) + ((nI 6) * a2)) + (nI 4)).toNatClampNeg (a6 + (nI 1))) (B + 23) (((nI 40) * a1) + (nI 6)).toNatClampNeg (a5 + (nI 1))) (B + 23) (((nI 40) * a1) + (nI 5)).toNatClampNeg (((up2 (up2 (up2 (up2 (up2 (up2 (up2 (up2 (up2 (up2 (up2 f (B + 24) (((nI 8) * (((nI 480) * a1) + a5)) + (nI 0)).toNatClampNeg a2) (B + 24) (((nI 8) * (((nI 480) * a1) + a5)) + (nI 1)).toNatClampNeg a6) (B + 24) (((nI 8) * (((nI 480) * a1) + a5)) + (nI 2)).toNatClampNeg a3) (B + 24) (((nI 8) * (((nI 480) * a1) + a5)) + (nI 3)).toNatClampNeg a4) (B + 24) (((nI 8) * (((nI 480) * a1) + a5)) + (nI 4)).toNatClampNeg (f (B + 23) (((nI 40) * a1) + (nI 0)).toNatClampNeg)) (B + 24) (((nI 8) * (((nI 480) * a1) + a5)) + (nI 5)).toNatClampNeg (-1)) (B + 24) (((nI 8) * (((nI 480) * a1) + a5)) + (nI 6)).toNatClampNeg (nI 1)) (B + 24) (((nI 8) * (((nI 480) * a1) + a5)) + (nI 7)).toNatClampNeg (f (B + 23) (((((nI 40) * a1) + (nI 14)) + ((nI 6) * a2)) + (nI 5)).toNatClampNeg)) (B + 23) (((((nI 40) * a1) + (nI 14)) + ((nI 6) * a2)) + (nI 5)).toNatClampNeg (nI 0)) (B + 23) (((((nI 40) * a1) + (nI 14)) + ((nI 6) * a2)) + (nI 4)).toNatClampNeg (a6 + (nI 1))) (B + 23) (((nI 40) * a1) + (nI 6)).toNatClampNeg (a5 + (nI 1))) (B + 23) (((nI 40) * a1) + (nI 5)).toNatClampNeg) + a4)), g, fR)
    exact S_vreturn dX12_sends_281 rfl H
abbrev LpX12_isPiece_17 (l : Launch) (G : Gx) (d : Nat) (Q : Option Value → Hp → Prop) (sh : Sh) (fR : FRt) (B : Nat) (f : FI) (g : FL) (a1 : Int32) (a2 : Int32) (a3 : Int32) (a4 : Int32) : Prop := WP l G (Zq G 0 0 Q) mX12_isPiece (rmd (d + 2) 0 0) 0 0 17 [some (.ref B), some (.int a1), some (.int a2), some (.int a3), some (.int a4)] [] (sh, f, g, fR)
abbrev LpX12_isPiece_62 (l : Launch) (G : Gx) (d : Nat) (Q : Option Value → Hp → Prop) (sh : Sh) (fR : FRt) (B : Nat) (f : FI) (g : FL) (a1 : Int32) (a2 : Int32) (a3 : Int32) : Prop := WP l G (Zq G 0 0 Q) mX12_isPiece (rmd (d + 2) 0 0) 0 0 62 [some (.ref B), some (.int a1), some (.int a2), some (.int a3), none] [] (sh, f, g, fR)
set_option maxHeartbeats 2000000 in
set_option maxRecDepth 4000 in
theorem VX12_isPiece {l : Launch} {G : Gx} {d : Nat} {Q : Option Value → Hp → Prop} {sh : Sh} {fR : FRt} {B : Nat} {f : FI} {g : FL} {a1 : Int32} (hs : StM sh fR B)
    (H : inb (((nI 40) * a1) + (nI 7)) 880 ∧ (∀ w2 : Int32, w2 = f (B + 23) (((nI 40) * a1) + (nI 7)).toNatClampNeg → (∀ w4 : Int32, w4 = (nI 960) * a1 → LpX12_isPiece_17 l G d Q sh fR B f g a1 (nI 0) w2 w4))) :
    Cl l G (d + 2) 0 0 mX12_isPiece [.ref B, .int a1] (sh, f, g, fR) Q := by
  refine Cl.of (L0 := [some (.ref B), some (.int a1), none, none, none]) miX12_isPiece rfl rfl ?_
  refine S_iconst (pc := 0) dX12_isPiece_0 ic0 ?_
  refine S_istore_n (pc := 1) (L' := [some (.ref B), some (.int a1), some (.int (nI 0)), none, none]) dX12_isPiece_1 rfl (by decide) rfl ?_
  refine S_aload_n (pc := 2) dX12_isPiece_2 rfl rfl ?_
  refine S_iload_n (pc := 3) dX12_isPiece_3 rfl rfl ?_
  refine S_bipush (pc := 4) dX12_isPiece_4 bp7 ?_
  refine S_callV (As := [.int a1, .int (nI 7)]) (mc := 0) (ms := 0) (pc := 6) dX12_isPiece_6 miX12_n mvX12_n mlX12_402 rfl (sM_0 hs) rfl rfl rfl (RmOK.of rfl) (Q := fun r h => WP _ _ _ _ _ _ _ 9 [some (.ref B), some (.int a1), some (.int (nI 0)), none, none] (r.toList ++ []) h) (Cl.of miX12_n rfl rfl ?_) (fun _ _ q => q)
  refine S_aload_n (pc := 0) dX12_n_0 rfl rfl ?_
  refine S_getR (pc := 1) dX12_n_1 flX12_144 (sM_0 hs) rfl (rM_43 hs) ?_
  refine S_bipush (pc := 4) dX12_n_4 bp40 ?_
  refine S_iload_n (pc := 6) dX12_n_6 rfl rfl ?_
  refine S_imul (pc := 7) dX12_n_7 ?_
  refine S_iload_n (pc := 8) dX12_n_8 rfl rfl ?_
  refine S_iadd (pc := 9) dX12_n_9 ?_
  obtain ⟨hb1, H⟩ := H
  refine S_iald (pc := 10) dX12_n_10 (sM_23 hs) hb1 ?_
  refine S_ireturn dX12_n_11 rfl ?_
  show WP _ _ _ _ _ _ _ 9 [some (.ref B), some (.int a1), some (.int (nI 0)), none, none] [.int (f (B + 23) (((nI 40) * a1) + (nI 7)).toNatClampNeg)] (sh, f, g, fR)
  refine S_namei (fun w2 e3 => ?_)
  replace H := H w2 e3
  refine S_istore_n (pc := 9) (L' := [some (.ref B), some (.int a1), some (.int (nI 0)), some (.int w2), none]) dX12_isPiece_9 rfl (by decide) rfl ?_
  refine S_sipush (pc := 10) dX12_isPiece_10 sp960 ?_
  refine S_iload_n (pc := 13) dX12_isPiece_13 rfl rfl ?_
  refine S_imul (pc := 14) dX12_isPiece_14 ?_
  refine S_namei (fun w4 e5 => ?_)
  replace H := H w4 e5
  refine S_istore (pc := 15) (L' := [some (.ref B), some (.int a1), some (.int (nI 0)), some (.int w2), some (.int w4)]) dX12_isPiece_15 (by decide) rfl ?_
  exact H
set_option maxHeartbeats 2000000 in
set_option maxRecDepth 4000 in
theorem VX12_isPiece_17 {l : Launch} {G : Gx} {d : Nat} {Q : Option Value → Hp → Prop} {sh : Sh} {fR : FRt} {B : Nat} {f : FI} {g : FL} {a1 : Int32} {a2 : Int32} {a3 : Int32} {a4 : Int32} (hs : StM sh fR B)
    (H : ((a3 ≤ a2 → LpX12_isPiece_62 l G d Q sh fR B f g a1 a2 a3) ∧ (¬ a3 ≤ a2 → inb (a4 + ((nI 2) * a2)) 21120 ∧ inb ((a4 + ((nI 2) * a2)) + (nI 1)) 21120 ∧ inb (((nI 40) * a1) + (nI 2)) 880 ∧ (((f (B + 23) (((nI 40) * a1) + (nI 2)).toNatClampNeg) < ((f (B + 25) (a4 + ((nI 2) * a2)).toNatClampNeg) + (f (B + 25) ((a4 + ((nI 2) * a2)) + (nI 1)).toNatClampNeg)) → LpX12_isPiece_62 l G d Q sh fR B f g a1 a2 a3) ∧ (¬ (f (B + 23) (((nI 40) * a1) + (nI 2)).toNatClampNeg) < ((f (B + 25) (a4 + ((nI 2) * a2)).toNatClampNeg) + (f (B + 25) ((a4 + ((nI 2) * a2)) + (nI 1)).toNatClampNeg)) → LpX12_isPiece_17 l G d Q sh fR B f g a1 (a2 + nI 1) a3 a4))))) :
    LpX12_isPiece_17 l G d Q sh fR B f g a1 a2 a3 a4 := by
  refine S_iload_n (pc := 17) dX12_isPiece_17 rfl rfl ?_
  refine S_iload_n (pc := 18) dX12_isPiece_18 rfl rfl ?_
  refine S_icmp_ge (pc := 19) (tgt := 62) dX12_isPiece_19 rfl (fun hc6 => ?_) (fun hc6 => ?_)
  · replace H := H.1 hc6
    exact S_weak (L' := [some (.ref B), some (.int a1), some (.int a2), some (.int a3), none]) (ls_e (ls_e (ls_e (ls_e (ls_n ls_0))))) H
  · replace H := H.2 hc6
    refine S_aload_n (pc := 22) dX12_isPiece_22 rfl rfl ?_
    refine S_getR (pc := 23) dX12_isPiece_23 flX12_151 (sM_0 hs) rfl (rM_45 hs) ?_
    refine S_iload (pc := 26) dX12_isPiece_26 rfl ?_
    refine S_iconst (pc := 28) dX12_isPiece_28 ic2 ?_
    refine S_iload_n (pc := 29) dX12_isPiece_29 rfl rfl ?_
    refine S_imul (pc := 30) dX12_isPiece_30 ?_
    refine S_iadd (pc := 31) dX12_isPiece_31 ?_
    obtain ⟨hb7, H⟩ := H
    refine S_iald (pc := 32) dX12_isPiece_32 (sM_25 hs) hb7 ?_
    refine S_aload_n (pc := 33) dX12_isPiece_33 rfl rfl ?_
    refine S_getR (pc := 34) dX12_isPiece_34 flX12_151 (sM_0 hs) rfl (rM_45 hs) ?_
    refine S_iload (pc := 37) dX12_isPiece_37 rfl ?_
    refine S_iconst (pc := 39) dX12_isPiece_39 ic2 ?_
    refine S_iload_n (pc := 40) dX12_isPiece_40 rfl rfl ?_
    refine S_imul (pc := 41) dX12_isPiece_41 ?_
    refine S_iadd (pc := 42) dX12_isPiece_42 ?_
    refine S_iconst (pc := 43) dX12_isPiece_43 ic1 ?_
    refine S_iadd (pc := 44) dX12_isPiece_44 ?_
    obtain ⟨hb8, H⟩ := H
    refine S_iald (pc := 45) dX12_isPiece_45 (sM_25 hs) hb8 ?_
    refine S_iadd (pc := 46) dX12_isPiece_46 ?_
    refine S_aload_n (pc := 47) dX12_isPiece_47 rfl rfl ?_
    refine S_iload_n (pc := 48) dX12_isPiece_48 rfl rfl ?_
    refine S_iconst (pc := 49) dX12_isPiece_49 ic2 ?_
    refine S_callV (As := [.int a1, .int (nI 2)]) (mc := 0) (ms := 0) (pc := 50) dX12_isPiece_50 miX12_n mvX12_n mlX12_402 rfl (sM_0 hs) rfl rfl rfl (RmOK.of rfl) (Q := fun r h => WP _ _ _ _ _ _ _ 53 [some (.ref B), some (.int a1), some (.int a2), some (.int a3), some (.int a4)] (r.toList ++ [.int ((f (B + 25) (a4 + ((nI 2) * a2)).toNatClampNeg) + (f (B + 25) ((a4 + ((nI 2) * a2)) + (nI 1)).toNatClampNeg))]) h) (Cl.of miX12_n rfl rfl ?_) (fun _ _ q => q)
    refine S_aload_n (pc := 0) dX12_n_0 rfl rfl ?_
    refine S_getR (pc := 1) dX12_n_1 flX12_144 (sM_0 hs) rfl (rM_43 hs) ?_
    refine S_bipush (pc := 4) dX12_n_4 bp40 ?_
    refine S_iload_n (pc := 6) dX12_n_6 rfl rfl ?_
    refine S_imul (pc := 7) dX12_n_7 ?_
    refine S_iload_n (pc := 8) dX12_n_8 rfl rfl ?_
    refine S_iadd (pc := 9) dX12_n_9 ?_
    obtain ⟨hb9, H⟩ := H
    refine S_iald (pc := 10) dX12_n_10 (sM_23 hs) hb9 ?_
    refine S_ireturn dX12_n_11 rfl ?_
    show WP _ _ _ _ _ _ _ 53 [some (.ref B), some (.int a1), some (.int a2), some (.int a3), some (.int a4)] [.int (f (B + 23) (((nI 40) * a1) + (nI 2)).toNatClampNeg), .int ((f (B + 25) (a4 + ((nI 2) * a2)).toNatClampNeg) + (f (B + 25) ((a4 + ((nI 2) * a2)) + (nI 1)).toNatClampNeg))] (sh, f, g, fR)
    refine S_icmp_gt (pc := 53) (tgt := 62) dX12_isPiece_53 rfl (fun hc10 => ?_) (fun hc10 => ?_)
    · replace H := H.1 hc10
      exact S_weak (L' := [some (.ref B), some (.int a1), some (.int a2), some (.int a3), none]) (ls_e (ls_e (ls_e (ls_e (ls_n ls_0))))) H
    · replace H := H.2 hc10
      refine S_iinc (pc := 56) (v := nI 1) (L' := [some (.ref B), some (.int a1), some (.int (a2 + nI 1)), some (.int a3), some (.int a4)]) dX12_isPiece_56 rfl ic1 rfl ?_
      refine S_goto (pc := 59) (tgt := 17) dX12_isPiece_59 rfl ?_
      exact H
set_option maxHeartbeats 2000000 in
set_option maxRecDepth 4000 in
theorem VX12_isPiece_62 {l : Launch} {G : Gx} {d : Nat} {Q : Option Value → Hp → Prop} {sh : Sh} {fR : FRt} {B : Nat} {f : FI} {g : FL} {a1 : Int32} {a2 : Int32} {a3 : Int32} (hs : StM sh fR B)
    (H : Cl l G (d + 1) 0 0 mX12_shifts [.ref B, .int a1, .int a2] (sh, f, g, fR) (qv sh fR fun f11 g12 => ((a3 ≤ a2 → Q (some (.int (nI 0))) (sh, f11, g12, fR)) ∧ (¬ a3 ≤ a2 → Q (some (.int (nI 1))) (sh, f11, g12, fR))))) :
    LpX12_isPiece_62 l G d Q sh fR B f g a1 a2 a3 := by
  refine S_aload_n (pc := 62) dX12_isPiece_62 rfl rfl ?_
  refine S_iload_n (pc := 63) dX12_isPiece_63 rfl rfl ?_
  refine S_iload_n (pc := 64) dX12_isPiece_64 rfl rfl ?_
  refine S_callV (As := [.int a1, .int a2]) (mc := 0) (ms := 0) (pc := 65) dX12_isPiece_65 miX12_shifts mvX12_shifts mlX12_522 rfl (sM_0 hs) rfl rfl rfl (RmOK.of rfl) H ?_
  rintro _ _ ⟨f11, g12, rfl, rfl, H⟩
  show WP _ _ _ _ _ _ _ 68 [some (.ref B), some (.int a1), some (.int a2), some (.int a3), none] [] (sh, f11, g12, fR)
  refine S_iload_n (pc := 68) dX12_isPiece_68 rfl rfl ?_
  refine S_iload_n (pc := 69) dX12_isPiece_69 rfl rfl ?_
  refine S_icmp_le (pc := 70) (tgt := 77) dX12_isPiece_70 rfl (fun hc13 => ?_) (fun hc13 => ?_)
  · replace H := H.1 hc13
    refine S_iconst (pc := 77) dX12_isPiece_77 ic0 ?_
    exact S_zreturn dX12_isPiece_78 rfl (Or.inl rfl) H
  · replace H := H.2 hc13
    refine S_iconst (pc := 73) dX12_isPiece_73 ic1 ?_
    refine S_goto (pc := 74) (tgt := 78) dX12_isPiece_74 rfl ?_
    exact S_zreturn dX12_isPiece_78 rfl (Or.inr rfl) H
abbrev LpX12_shifts_25 (l : Launch) (G : Gx) (d : Nat) (Q : Option Value → Hp → Prop) (sh : Sh) (fR : FRt) (B : Nat) (f : FI) (g : FL) (a1 : Int32) (a2 : Int32) (a3 : Int32) (a4 : Int32) (a5 : Int32) : Prop := WP l G (Zq G 0 0 Q) mX12_shifts (rmd (d + 1) 0 0) 0 0 25 [some (.ref B), some (.int a1), some (.int a2), some (.int a3), some (.int a4), some (.int a5)] [] (sh, f, g, fR)
set_option maxHeartbeats 2000000 in
set_option maxRecDepth 4000 in
theorem VX12_shifts {l : Launch} {G : Gx} {d : Nat} {Q : Option Value → Hp → Prop} {sh : Sh} {fR : FRt} {B : Nat} {f : FI} {g : FL} {a1 : Int32} {a2 : Int32} (hs : StM sh fR B)
    (H : ((¬ a2 = 0 → (∀ w2 : Int32, w2 = (nI 960) * a1 → inb (((nI 40) * a1) + (nI 7)) 880 ∧ (∀ w5 : Int32, w5 = (f (B + 23) (((nI 40) * a1) + (nI 7)).toNatClampNeg) - a2 → LpX12_shifts_25 l G d Q sh fR B f g a1 a2 w2 w5 (nI 0)))) ∧ (a2 = 0 → Q none (sh, f, g, fR)))) :
    Cl l G (d + 1) 0 0 mX12_shifts [.ref B, .int a1, .int a2] (sh, f, g, fR) Q := by
  refine Cl.of (L0 := [some (.ref B), some (.int a1), some (.int a2), none, none, none]) miX12_shifts rfl rfl ?_
  refine S_iload_n (pc := 0) dX12_shifts_0 rfl rfl ?_
  refine S_if_ne (pc := 1) (tgt := 5) dX12_shifts_1 rfl (fun hc1 => ?_) (fun hc1 => ?_)
  · replace H := H.1 hc1
    refine S_sipush (pc := 5) dX12_shifts_5 sp960 ?_
    refine S_iload_n (pc := 8) dX12_shifts_8 rfl rfl ?_
    refine S_imul (pc := 9) dX12_shifts_9 ?_
    refine S_namei (fun w2 e3 => ?_)
    replace H := H w2 e3
    refine S_istore_n (pc := 10) (L' := [some (.ref B), some (.int a1), some (.int a2), some (.int w2), none, none]) dX12_shifts_10 rfl (by decide) rfl ?_
    refine S_aload_n (pc := 11) dX12_shifts_11 rfl rfl ?_
    refine S_iload_n (pc := 12) dX12_shifts_12 rfl rfl ?_
    refine S_bipush (pc := 13) dX12_shifts_13 bp7 ?_
    refine S_callV (As := [.int a1, .int (nI 7)]) (mc := 0) (ms := 0) (pc := 15) dX12_shifts_15 miX12_n mvX12_n mlX12_402 rfl (sM_0 hs) rfl rfl rfl (RmOK.of rfl) (Q := fun r h => WP _ _ _ _ _ _ _ 18 [some (.ref B), some (.int a1), some (.int a2), some (.int w2), none, none] (r.toList ++ []) h) (Cl.of miX12_n rfl rfl ?_) (fun _ _ q => q)
    refine S_aload_n (pc := 0) dX12_n_0 rfl rfl ?_
    refine S_getR (pc := 1) dX12_n_1 flX12_144 (sM_0 hs) rfl (rM_43 hs) ?_
    refine S_bipush (pc := 4) dX12_n_4 bp40 ?_
    refine S_iload_n (pc := 6) dX12_n_6 rfl rfl ?_
    refine S_imul (pc := 7) dX12_n_7 ?_
    refine S_iload_n (pc := 8) dX12_n_8 rfl rfl ?_
    refine S_iadd (pc := 9) dX12_n_9 ?_
    obtain ⟨hb4, H⟩ := H
    refine S_iald (pc := 10) dX12_n_10 (sM_23 hs) hb4 ?_
    refine S_ireturn dX12_n_11 rfl ?_
    show WP _ _ _ _ _ _ _ 18 [some (.ref B), some (.int a1), some (.int a2), some (.int w2), none, none] [.int (f (B + 23) (((nI 40) * a1) + (nI 7)).toNatClampNeg)] (sh, f, g, fR)
    refine S_iload_n (pc := 18) dX12_shifts_18 rfl rfl ?_
    refine S_isub (pc := 19) dX12_shifts_19 ?_
    refine S_namei (fun w5 e6 => ?_)
    replace H := H w5 e6
    refine S_istore (pc := 20) (L' := [some (.ref B), some (.int a1), some (.int a2), some (.int w2), some (.int w5), none]) dX12_shifts_20 (by decide) rfl ?_
    refine S_iconst (pc := 22) dX12_shifts_22 ic0 ?_
    refine S_istore (pc := 23) (L' := [some (.ref B), some (.int a1), some (.int a2), some (.int w2), some (.int w5), some (.int (nI 0))]) dX12_shifts_23 (by decide) rfl ?_
    exact H
  · replace H := H.2 hc1
    exact S_vreturn dX12_shifts_4 rfl H
set_option maxHeartbeats 2000000 in
set_option maxRecDepth 4000 in
theorem VX12_shifts_25 {l : Launch} {G : Gx} {d : Nat} {Q : Option Value → Hp → Prop} {sh : Sh} {fR : FRt} {B : Nat} {f : FI} {g : FL} {a1 : Int32} {a2 : Int32} {a3 : Int32} {a4 : Int32} {a5 : Int32} (hs : StM sh fR B)
    (H : ((((nI 2) * a4) ≤ a5 → inb (((nI 40) * a1) + (nI 7)) 880 ∧ Q none (sh, (up2 f (B + 23) (((nI 40) * a1) + (nI 7)).toNatClampNeg a4), g, fR)) ∧ (¬ ((nI 2) * a4) ≤ a5 → inb ((a3 + a5) + ((nI 2) * a2)) 21120 ∧ inb (a3 + a5) 21120 ∧ LpX12_shifts_25 l G d Q sh fR B (up2 f (B + 25) (a3 + a5).toNatClampNeg (f (B + 25) ((a3 + a5) + ((nI 2) * a2)).toNatClampNeg)) g a1 a2 a3 a4 (a5 + nI 1)))) :
    LpX12_shifts_25 l G d Q sh fR B f g a1 a2 a3 a4 a5 := by
  refine S_iload (pc := 25) dX12_shifts_25 rfl ?_
  refine S_iconst (pc := 27) dX12_shifts_27 ic2 ?_
  refine S_iload (pc := 28) dX12_shifts_28 rfl ?_
  refine S_imul (pc := 30) dX12_shifts_30 ?_
  refine S_icmp_ge (pc := 31) (tgt := 62) dX12_shifts_31 rfl (fun hc7 => ?_) (fun hc7 => ?_)
  · replace H := H.1 hc7
    refine S_aload_n (pc := 62) dX12_shifts_62 rfl rfl ?_
    refine S_iload_n (pc := 63) dX12_shifts_63 rfl rfl ?_
    refine S_bipush (pc := 64) dX12_shifts_64 bp7 ?_
    refine S_iload (pc := 66) dX12_shifts_66 rfl ?_
    refine S_callV (As := [.int a1, .int (nI 7), .int a4]) (mc := 0) (ms := 0) (pc := 68) dX12_shifts_68 miX12_sets mvX12_sets mlX12_405 rfl (sM_0 hs) rfl rfl rfl (RmOK.of rfl) (Q := fun r h => WP _ _ _ _ _ _ _ 71 [some (.ref B), some (.int a1), some (.int a2), some (.int a3), some (.int a4), some (.int a5)] (r.toList ++ []) h) (Cl.of miX12_sets rfl rfl ?_) (fun _ _ q => q)
    refine S_aload_n (pc := 0) dX12_sets_0 rfl rfl ?_
    refine S_getR (pc := 1) dX12_sets_1 flX12_144 (sM_0 hs) rfl (rM_43 hs) ?_
    refine S_bipush (pc := 4) dX12_sets_4 bp40 ?_
    refine S_iload_n (pc := 6) dX12_sets_6 rfl rfl ?_
    refine S_imul (pc := 7) dX12_sets_7 ?_
    refine S_iload_n (pc := 8) dX12_sets_8 rfl rfl ?_
    refine S_iadd (pc := 9) dX12_sets_9 ?_
    refine S_iload_n (pc := 10) dX12_sets_10 rfl rfl ?_
    obtain ⟨hb8, H⟩ := H
    refine S_iast (pc := 11) dX12_sets_11 (sM_23 hs) (Nat.succ_pos _) hb8 ?_
    refine S_vreturn dX12_sets_12 rfl ?_
    show WP _ _ _ _ _ _ _ 71 [some (.ref B), some (.int a1), some (.int a2), some (.int a3), some (.int a4), some (.int a5)] [] (sh, (up2 f (B + 23) (((nI 40) * a1) + (nI 7)).toNatClampNeg a4), g, fR)
    exact S_vreturn dX12_shifts_71 rfl H
  · replace H := H.2 hc7
    refine S_aload_n (pc := 34) dX12_shifts_34 rfl rfl ?_
    refine S_getR (pc := 35) dX12_shifts_35 flX12_151 (sM_0 hs) rfl (rM_45 hs) ?_
    refine S_iload_n (pc := 38) dX12_shifts_38 rfl rfl ?_
    refine S_iload (pc := 39) dX12_shifts_39 rfl ?_
    refine S_iadd (pc := 41) dX12_shifts_41 ?_
    refine S_aload_n (pc := 42) dX12_shifts_42 rfl rfl ?_
    refine S_getR (pc := 43) dX12_shifts_43 flX12_151 (sM_0 hs) rfl (rM_45 hs) ?_
    refine S_iload_n (pc := 46) dX12_shifts_46 rfl rfl ?_
    refine S_iload (pc := 47) dX12_shifts_47 rfl ?_
    refine S_iadd (pc := 49) dX12_shifts_49 ?_
    refine S_iconst (pc := 50) dX12_shifts_50 ic2 ?_
    refine S_iload_n (pc := 51) dX12_shifts_51 rfl rfl ?_
    refine S_imul (pc := 52) dX12_shifts_52 ?_
    refine S_iadd (pc := 53) dX12_shifts_53 ?_
    obtain ⟨hb9, H⟩ := H
    refine S_iald (pc := 54) dX12_shifts_54 (sM_25 hs) hb9 ?_
    obtain ⟨hb10, H⟩ := H
    refine S_iast (pc := 55) dX12_shifts_55 (sM_25 hs) (Nat.succ_pos _) hb10 ?_
    refine S_iinc (pc := 56) (v := nI 1) (L' := [some (.ref B), some (.int a1), some (.int a2), some (.int a3), some (.int a4), some (.int (a5 + nI 1))]) dX12_shifts_56 rfl ic1 rfl ?_
    refine S_goto (pc := 59) (tgt := 25) dX12_shifts_59 rfl ?_
    exact H
abbrev LpX12_blocking_2 (l : Launch) (G : Gx) (d : Nat) (Q : Option Value → Hp → Prop) (sh : Sh) (fR : FRt) (B : Nat) (f : FI) (g : FL) (a1 : Int32) (a2 : Int32) : Prop := WP l G (Zq G 0 0 Q) mX12_blocking (rmd (d + 1) 0 0) 0 0 2 [some (.ref B), some (.int a1), some (.int a2)] [] (sh, f, g, fR)
abbrev LpX12_blocking_63 (l : Launch) (G : Gx) (d : Nat) (Q : Option Value → Hp → Prop) (sh : Sh) (fR : FRt) (B : Nat) (f : FI) (g : FL) (a1 : Int32) (a2 : Int32) : Prop := WP l G (Zq G 0 0 Q) mX12_blocking (rmd (d + 1) 0 0) 0 0 63 [some (.ref B), some (.int a1), some (.int a2)] [] (sh, f, g, fR)
set_option maxHeartbeats 2000000 in
set_option maxRecDepth 4000 in
theorem VX12_blocking {l : Launch} {G : Gx} {d : Nat} {Q : Option Value → Hp → Prop} {sh : Sh} {fR : FRt} {B : Nat} {f : FI} {g : FL} {a1 : Int32} (hs : StM sh fR B)
    (H : LpX12_blocking_2 l G d Q sh fR B f g a1 (nI 0)) :
    Cl l G (d + 1) 0 0 mX12_blocking [.ref B, .int a1] (sh, f, g, fR) Q := by
  refine Cl.of (L0 := [some (.ref B), some (.int a1), none]) miX12_blocking rfl rfl ?_
  refine S_iconst (pc := 0) dX12_blocking_0 ic0 ?_
  refine S_istore_n (pc := 1) (L' := [some (.ref B), some (.int a1), some (.int (nI 0))]) dX12_blocking_1 rfl (by decide) rfl ?_
  exact H
set_option maxHeartbeats 2000000 in
set_option maxRecDepth 4000 in
theorem VX12_blocking_2 {l : Launch} {G : Gx} {d : Nat} {Q : Option Value → Hp → Prop} {sh : Sh} {fR : FRt} {B : Nat} {f : FI} {g : FL} {a1 : Int32} {a2 : Int32} (hs : StM sh fR B)
    (H : inb (((nI 40) * a1) + (nI 6)) 880 ∧ (((f (B + 23) (((nI 40) * a1) + (nI 6)).toNatClampNeg) ≤ a2 → Q (some (.int (-1))) (sh, f, g, fR)) ∧ (¬ (f (B + 23) (((nI 40) * a1) + (nI 6)).toNatClampNeg) ≤ a2 → inb (((nI 8) * (((nI 480) * a1) + a2)) + (nI 6)) 84480 ∧ ((¬ (f (B + 24) (((nI 8) * (((nI 480) * a1) + a2)) + (nI 6)).toNatClampNeg) = (nI 1) → LpX12_blocking_63 l G d Q sh fR B f g a1 a2) ∧ ((f (B + 24) (((nI 8) * (((nI 480) * a1) + a2)) + (nI 6)).toNatClampNeg) = (nI 1) → inb (((nI 40) * a1) + (nI 2)) 880 ∧ inb (((nI 8) * (((nI 480) * a1) + a2)) + (nI 2)) 84480 ∧ inb (((nI 8) * (((nI 480) * a1) + a2)) + (nI 2)) 84480 ∧ inb (((nI 8) * (((nI 480) * a1) + a2)) + (nI 3)) 84480 ∧ Cl l G d 0 0 mX12_is [.int (f (B + 23) (((nI 40) * a1) + (nI 2)).toNatClampNeg), .int (f (B + 24) (((nI 8) * (((nI 480) * a1) + a2)) + (nI 2)).toNatClampNeg), .int (((f (B + 24) (((nI 8) * (((nI 480) * a1) + a2)) + (nI 2)).toNatClampNeg) + (f (B + 24) (((nI 8) * (((nI 480) * a1) + a2)) + (nI 3)).toNatClampNeg)) - (nI 1))] (sh, f, g, fR) (qi sh fR fun x11 f9 g10 => ((x11 = 0 → LpX12_blocking_63 l G d Q sh fR B f9 g10 a1 a2) ∧ (¬ x11 = 0 → Q (some (.int a2)) (sh, f9, g10, fR))))))))) :
    LpX12_blocking_2 l G d Q sh fR B f g a1 a2 := by
  refine S_iload_n (pc := 2) dX12_blocking_2 rfl rfl ?_
  refine S_aload_n (pc := 3) dX12_blocking_3 rfl rfl ?_
  refine S_iload_n (pc := 4) dX12_blocking_4 rfl rfl ?_
  refine S_bipush (pc := 5) dX12_blocking_5 bp6 ?_
  refine S_callV (As := [.int a1, .int (nI 6)]) (mc := 0) (ms := 0) (pc := 7) dX12_blocking_7 miX12_n mvX12_n mlX12_402 rfl (sM_0 hs) rfl rfl rfl (RmOK.of rfl) (Q := fun r h => WP _ _ _ _ _ _ _ 10 [some (.ref B), some (.int a1), some (.int a2)] (r.toList ++ [.int a2]) h) (Cl.of miX12_n rfl rfl ?_) (fun _ _ q => q)
  refine S_aload_n (pc := 0) dX12_n_0 rfl rfl ?_
  refine S_getR (pc := 1) dX12_n_1 flX12_144 (sM_0 hs) rfl (rM_43 hs) ?_
  refine S_bipush (pc := 4) dX12_n_4 bp40 ?_
  refine S_iload_n (pc := 6) dX12_n_6 rfl rfl ?_
  refine S_imul (pc := 7) dX12_n_7 ?_
  refine S_iload_n (pc := 8) dX12_n_8 rfl rfl ?_
  refine S_iadd (pc := 9) dX12_n_9 ?_
  obtain ⟨hb1, H⟩ := H
  refine S_iald (pc := 10) dX12_n_10 (sM_23 hs) hb1 ?_
  refine S_ireturn dX12_n_11 rfl ?_
  show WP _ _ _ _ _ _ _ 10 [some (.ref B), some (.int a1), some (.int a2)] [.int (f (B + 23) (((nI 40) * a1) + (nI 6)).toNatClampNeg), .int a2] (sh, f, g, fR)
  refine S_icmp_ge (pc := 10) (tgt := 69) dX12_blocking_10 rfl (fun hc2 => ?_) (fun hc2 => ?_)
  · replace H := H.1 hc2
    refine S_iconst (pc := 69) dX12_blocking_69 icm1 ?_
    exact S_ireturn dX12_blocking_70 rfl H
  · replace H := H.2 hc2
    refine S_aload_n (pc := 13) dX12_blocking_13 rfl rfl ?_
    refine S_iload_n (pc := 14) dX12_blocking_14 rfl rfl ?_
    refine S_iload_n (pc := 15) dX12_blocking_15 rfl rfl ?_
    refine S_bipush (pc := 16) dX12_blocking_16 bp6 ?_
    refine S_callV (As := [.int a1, .int a2, .int (nI 6)]) (mc := 0) (ms := 0) (pc := 18) dX12_blocking_18 miX12_s mvX12_s mlX12_445 rfl (sM_0 hs) rfl rfl rfl (RmOK.of rfl) (Q := fun r h => WP _ _ _ _ _ _ _ 21 [some (.ref B), some (.int a1), some (.int a2)] (r.toList ++ []) h) (Cl.of miX12_s rfl rfl ?_) (fun _ _ q => q)
    refine S_aload_n (pc := 0) dX12_s_0 rfl rfl ?_
    refine S_getR (pc := 1) dX12_s_1 flX12_148 (sM_0 hs) rfl (rM_44 hs) ?_
    refine S_bipush (pc := 4) dX12_s_4 bp8 ?_
    refine S_sipush (pc := 6) dX12_s_6 sp480 ?_
    refine S_iload_n (pc := 9) dX12_s_9 rfl rfl ?_
    refine S_imul (pc := 10) dX12_s_10 ?_
    refine S_iload_n (pc := 11) dX12_s_11 rfl rfl ?_
    refine S_iadd (pc := 12) dX12_s_12 ?_
    refine S_imul (pc := 13) dX12_s_13 ?_
    refine S_iload_n (pc := 14) dX12_s_14 rfl rfl ?_
    refine S_iadd (pc := 15) dX12_s_15 ?_
    obtain ⟨hb3, H⟩ := H
    refine S_iald (pc := 16) dX12_s_16 (sM_24 hs) hb3 ?_
    refine S_ireturn dX12_s_17 rfl ?_
    show WP _ _ _ _ _ _ _ 21 [some (.ref B), some (.int a1), some (.int a2)] [.int (f (B + 24) (((nI 8) * (((nI 480) * a1) + a2)) + (nI 6)).toNatClampNeg)] (sh, f, g, fR)
    refine S_iconst (pc := 21) dX12_blocking_21 ic1 ?_
    refine S_icmp_ne (pc := 22) (tgt := 63) dX12_blocking_22 rfl (fun hc4 => ?_) (fun hc4 => ?_)
    · replace H := H.1 hc4
      exact H
    · replace H := H.2 hc4
      refine S_aload_n (pc := 25) dX12_blocking_25 rfl rfl ?_
      refine S_iload_n (pc := 26) dX12_blocking_26 rfl rfl ?_
      refine S_iconst (pc := 27) dX12_blocking_27 ic2 ?_
      refine S_callV (As := [.int a1, .int (nI 2)]) (mc := 0) (ms := 0) (pc := 28) dX12_blocking_28 miX12_n mvX12_n mlX12_402 rfl (sM_0 hs) rfl rfl rfl (RmOK.of rfl) (Q := fun r h => WP _ _ _ _ _ _ _ 31 [some (.ref B), some (.int a1), some (.int a2)] (r.toList ++ []) h) (Cl.of miX12_n rfl rfl ?_) (fun _ _ q => q)
      refine S_aload_n (pc := 0) dX12_n_0 rfl rfl ?_
      refine S_getR (pc := 1) dX12_n_1 flX12_144 (sM_0 hs) rfl (rM_43 hs) ?_
      refine S_bipush (pc := 4) dX12_n_4 bp40 ?_
      refine S_iload_n (pc := 6) dX12_n_6 rfl rfl ?_
      refine S_imul (pc := 7) dX12_n_7 ?_
      refine S_iload_n (pc := 8) dX12_n_8 rfl rfl ?_
      refine S_iadd (pc := 9) dX12_n_9 ?_
      obtain ⟨hb5, H⟩ := H
      refine S_iald (pc := 10) dX12_n_10 (sM_23 hs) hb5 ?_
      refine S_ireturn dX12_n_11 rfl ?_
      show WP _ _ _ _ _ _ _ 31 [some (.ref B), some (.int a1), some (.int a2)] [.int (f (B + 23) (((nI 40) * a1) + (nI 2)).toNatClampNeg)] (sh, f, g, fR)
      refine S_aload_n (pc := 31) dX12_blocking_31 rfl rfl ?_
      refine S_iload_n (pc := 32) dX12_blocking_32 rfl rfl ?_
      refine S_iload_n (pc := 33) dX12_blocking_33 rfl rfl ?_
      refine S_iconst (pc := 34) dX12_blocking_34 ic2 ?_
      refine S_callV (As := [.int a1, .int a2, .int (nI 2)]) (mc := 0) (ms := 0) (pc := 35) dX12_blocking_35 miX12_s mvX12_s mlX12_445 rfl (sM_0 hs) rfl rfl rfl (RmOK.of rfl) (Q := fun r h => WP _ _ _ _ _ _ _ 38 [some (.ref B), some (.int a1), some (.int a2)] (r.toList ++ [.int (f (B + 23) (((nI 40) * a1) + (nI 2)).toNatClampNeg)]) h) (Cl.of miX12_s rfl rfl ?_) (fun _ _ q => q)
      refine S_aload_n (pc := 0) dX12_s_0 rfl rfl ?_
      refine S_getR (pc := 1) dX12_s_1 flX12_148 (sM_0 hs) rfl (rM_44 hs) ?_
      refine S_bipush (pc := 4) dX12_s_4 bp8 ?_
      refine S_sipush (pc := 6) dX12_s_6 sp480 ?_
      refine S_iload_n (pc := 9) dX12_s_9 rfl rfl ?_
      refine S_imul (pc := 10) dX12_s_10 ?_
      refine S_iload_n (pc := 11) dX12_s_11 rfl rfl ?_
      refine S_iadd (pc := 12) dX12_s_12 ?_
      refine S_imul (pc := 13) dX12_s_13 ?_
      refine S_iload_n (pc := 14) dX12_s_14 rfl rfl ?_
      refine S_iadd (pc := 15) dX12_s_15 ?_
      obtain ⟨hb6, H⟩ := H
      refine S_iald (pc := 16) dX12_s_16 (sM_24 hs) hb6 ?_
      refine S_ireturn dX12_s_17 rfl ?_
      show WP _ _ _ _ _ _ _ 38 [some (.ref B), some (.int a1), some (.int a2)] [.int (f (B + 24) (((nI 8) * (((nI 480) * a1) + a2)) + (nI 2)).toNatClampNeg), .int (f (B + 23) (((nI 40) * a1) + (nI 2)).toNatClampNeg)] (sh, f, g, fR)
      refine S_aload_n (pc := 38) dX12_blocking_38 rfl rfl ?_
      refine S_iload_n (pc := 39) dX12_blocking_39 rfl rfl ?_
      refine S_iload_n (pc := 40) dX12_blocking_40 rfl rfl ?_
      refine S_iconst (pc := 41) dX12_blocking_41 ic2 ?_
      refine S_callV (As := [.int a1, .int a2, .int (nI 2)]) (mc := 0) (ms := 0) (pc := 42) dX12_blocking_42 miX12_s mvX12_s mlX12_445 rfl (sM_0 hs) rfl rfl rfl (RmOK.of rfl) (Q := fun r h => WP _ _ _ _ _ _ _ 45 [some (.ref B), some (.int a1), some (.int a2)] (r.toList ++ [.int (f (B + 24) (((nI 8) * (((nI 480) * a1) + a2)) + (nI 2)).toNatClampNeg), .int (f (B + 23) (((nI 40) * a1) + (nI 2)).toNatClampNeg)]) h) (Cl.of miX12_s rfl rfl ?_) (fun _ _ q => q)
      refine S_aload_n (pc := 0) dX12_s_0 rfl rfl ?_
      refine S_getR (pc := 1) dX12_s_1 flX12_148 (sM_0 hs) rfl (rM_44 hs) ?_
      refine S_bipush (pc := 4) dX12_s_4 bp8 ?_
      refine S_sipush (pc := 6) dX12_s_6 sp480 ?_
      refine S_iload_n (pc := 9) dX12_s_9 rfl rfl ?_
      refine S_imul (pc := 10) dX12_s_10 ?_
      refine S_iload_n (pc := 11) dX12_s_11 rfl rfl ?_
      refine S_iadd (pc := 12) dX12_s_12 ?_
      refine S_imul (pc := 13) dX12_s_13 ?_
      refine S_iload_n (pc := 14) dX12_s_14 rfl rfl ?_
      refine S_iadd (pc := 15) dX12_s_15 ?_
      obtain ⟨hb7, H⟩ := H
      refine S_iald (pc := 16) dX12_s_16 (sM_24 hs) hb7 ?_
      refine S_ireturn dX12_s_17 rfl ?_
      show WP _ _ _ _ _ _ _ 45 [some (.ref B), some (.int a1), some (.int a2)] [.int (f (B + 24) (((nI 8) * (((nI 480) * a1) + a2)) + (nI 2)).toNatClampNeg), .int (f (B + 24) (((nI 8) * (((nI 480) * a1) + a2)) + (nI 2)).toNatClampNeg), .int (f (B + 23) (((nI 40) * a1) + (nI 2)).toNatClampNeg)] (sh, f, g, fR)
      refine S_aload_n (pc := 45) dX12_blocking_45 rfl rfl ?_
      refine S_iload_n (pc := 46) dX12_blocking_46 rfl rfl ?_
      refine S_iload_n (pc := 47) dX12_blocking_47 rfl rfl ?_
      refine S_iconst (pc := 48) dX12_blocking_48 ic3 ?_
      refine S_callV (As := [.int a1, .int a2, .int (nI 3)]) (mc := 0) (ms := 0) (pc := 49) dX12_blocking_49 miX12_s mvX12_s mlX12_445 rfl (sM_0 hs) rfl rfl rfl (RmOK.of rfl) (Q := fun r h => WP _ _ _ _ _ _ _ 52 [some (.ref B), some (.int a1), some (.int a2)] (r.toList ++ [.int (f (B + 24) (((nI 8) * (((nI 480) * a1) + a2)) + (nI 2)).toNatClampNeg), .int (f (B + 24) (((nI 8) * (((nI 480) * a1) + a2)) + (nI 2)).toNatClampNeg), .int (f (B + 23) (((nI 40) * a1) + (nI 2)).toNatClampNeg)]) h) (Cl.of miX12_s rfl rfl ?_) (fun _ _ q => q)
      refine S_aload_n (pc := 0) dX12_s_0 rfl rfl ?_
      refine S_getR (pc := 1) dX12_s_1 flX12_148 (sM_0 hs) rfl (rM_44 hs) ?_
      refine S_bipush (pc := 4) dX12_s_4 bp8 ?_
      refine S_sipush (pc := 6) dX12_s_6 sp480 ?_
      refine S_iload_n (pc := 9) dX12_s_9 rfl rfl ?_
      refine S_imul (pc := 10) dX12_s_10 ?_
      refine S_iload_n (pc := 11) dX12_s_11 rfl rfl ?_
      refine S_iadd (pc := 12) dX12_s_12 ?_
      refine S_imul (pc := 13) dX12_s_13 ?_
      refine S_iload_n (pc := 14) dX12_s_14 rfl rfl ?_
      refine S_iadd (pc := 15) dX12_s_15 ?_
      obtain ⟨hb8, H⟩ := H
      refine S_iald (pc := 16) dX12_s_16 (sM_24 hs) hb8 ?_
      refine S_ireturn dX12_s_17 rfl ?_
      show WP _ _ _ _ _ _ _ 52 [some (.ref B), some (.int a1), some (.int a2)] [.int (f (B + 24) (((nI 8) * (((nI 480) * a1) + a2)) + (nI 3)).toNatClampNeg), .int (f (B + 24) (((nI 8) * (((nI 480) * a1) + a2)) + (nI 2)).toNatClampNeg), .int (f (B + 24) (((nI 8) * (((nI 480) * a1) + a2)) + (nI 2)).toNatClampNeg), .int (f (B + 23) (((nI 40) * a1) + (nI 2)).toNatClampNeg)] (sh, f, g, fR)
      refine S_iadd (pc := 52) dX12_blocking_52 ?_
      refine S_iconst (pc := 53) dX12_blocking_53 ic1 ?_
      refine S_isub (pc := 54) dX12_blocking_54 ?_
      refine S_callS (As := [.int (f (B + 23) (((nI 40) * a1) + (nI 2)).toNatClampNeg), .int (f (B + 24) (((nI 8) * (((nI 480) * a1) + a2)) + (nI 2)).toNatClampNeg), .int (((f (B + 24) (((nI 8) * (((nI 480) * a1) + a2)) + (nI 2)).toNatClampNeg) + (f (B + 24) (((nI 8) * (((nI 480) * a1) + a2)) + (nI 3)).toNatClampNeg)) - (nI 1))]) (mc := 0) (ms := 0) (pc := 55) dX12_blocking_55 miX12_is mvX12_is mlX12_310 rfl rfl (RmOK.of rfl) H ?_
      rintro _ _ ⟨x11, f9, g10, rfl, rfl, H⟩
      show WP _ _ _ _ _ _ _ 58 [some (.ref B), some (.int a1), some (.int a2)] [.int x11] (sh, f9, g10, fR)
      refine S_if_eq (pc := 58) (tgt := 63) dX12_blocking_58 rfl (fun hc12 => ?_) (fun hc12 => ?_)
      · replace H := H.1 hc12
        exact H
      · replace H := H.2 hc12
        refine S_iload_n (pc := 61) dX12_blocking_61 rfl rfl ?_
        exact S_ireturn dX12_blocking_62 rfl H
set_option maxHeartbeats 2000000 in
set_option maxRecDepth 4000 in
theorem VX12_blocking_63 {l : Launch} {G : Gx} {d : Nat} {Q : Option Value → Hp → Prop} {sh : Sh} {fR : FRt} {B : Nat} {f : FI} {g : FL} {a1 : Int32} {a2 : Int32} (hs : StM sh fR B)
    (H : LpX12_blocking_2 l G d Q sh fR B f g a1 (a2 + nI 1)) :
    LpX12_blocking_63 l G d Q sh fR B f g a1 a2 := by
  refine S_iinc (pc := 63) (v := nI 1) (L' := [some (.ref B), some (.int a1), some (.int (a2 + nI 1))]) dX12_blocking_63 rfl ic1 rfl ?_
  refine S_goto (pc := 66) (tgt := 2) dX12_blocking_66 rfl ?_
  exact H
abbrev LpX12_isPenalised_43 (l : Launch) (G : Gx) (d : Nat) (Q : Option Value → Hp → Prop) (sh : Sh) (fR : FRt) (B : Nat) (f : FI) (g : FL) (a1 : Int32) : Prop := WP l G (Zq G 0 0 Q) mX12_isPenalised (rmd (d + 4) 0 0) 0 0 43 [some (.ref B), some (.int a1), none, none, none, none] [] (sh, f, g, fR)
set_option maxHeartbeats 2000000 in
set_option maxRecDepth 4000 in
theorem VX12_isPenalised {l : Launch} {G : Gx} {d : Nat} {Q : Option Value → Hp → Prop} {sh : Sh} {fR : FRt} {B : Nat} {f : FI} {g : FL} {a1 : Int32} (hs : StM sh fR B)
    (H : inb (f B 13) 2 ∧ (∀ w2 : Int32, w2 = f (B + 2) (f B 13).toNatClampNeg → inb (((nI 40) * a1) + (nI 1)) 880 ∧ inb (((nI 40) * a1) + (nI 3)) 880 ∧ ((¬ (f (B + 23) (((nI 40) * a1) + (nI 1)).toNatClampNeg) = (f (B + 23) (((nI 40) * a1) + (nI 3)).toNatClampNeg) → LpX12_isPenalised_43 l G d Q sh fR B f g a1) ∧ ((f (B + 23) (((nI 40) * a1) + (nI 1)).toNatClampNeg) = (f (B + 23) (((nI 40) * a1) + (nI 3)).toNatClampNeg) → inb (((nI 40) * a1) + (nI 1)) 880 ∧ ((w2 ≤ (f (B + 23) (((nI 40) * a1) + (nI 1)).toNatClampNeg) → LpX12_isPenalised_43 l G d Q sh fR B f g a1) ∧ (¬ w2 ≤ (f (B + 23) (((nI 40) * a1) + (nI 1)).toNatClampNeg) → Cl l G (d + 3) 0 0 mX12_blocking [.ref B, .int a1] (sh, f, g, fR) (qi sh fR fun x11 f9 g10 => ((¬ x11 = (-1) → inb (((nI 8) * (((nI 480) * a1) + x11)) + (nI 0)) 84480 ∧ (∀ w14 : Int32, w14 = f9 (B + 24) (((nI 8) * (((nI 480) * a1) + x11)) + (nI 0)).toNatClampNeg → ((¬ x11 = (-1) → Cl l G (d + 3) 0 0 mX12_picked [.ref B, .int a1, .int w14] (sh, f9, g10, fR) (qi sh fR fun x19 f17 g18 => ((¬ x19 = (-1) → inb (((nI 8) * (((nI 480) * a1) + x11)) + (nI 2)) 84480 ∧ inb (((nI 8) * (((nI 480) * a1) + x11)) + (nI 3)) 84480 ∧ Cl l G (d + 3) 0 0 mX12_sends [.ref B, .int a1, .int x19, .int (f17 (B + 24) (((nI 8) * (((nI 480) * a1) + x11)) + (nI 2)).toNatClampNeg), .int (f17 (B + 24) (((nI 8) * (((nI 480) * a1) + x11)) + (nI 3)).toNatClampNeg)] (sh, f17, g18, fR) (qv sh fR fun f23 g24 => inb (((((nI 40) * a1) + (nI 14)) + ((nI 6) * w14)) + (nI 2)) 880 ∧ Cl l G (d + 3) 0 0 mX12_halved [.int (f23 (B + 23) (((((nI 40) * a1) + (nI 14)) + ((nI 6) * w14)) + (nI 2)).toNatClampNeg)] (sh, f23, g24, fR) (qi sh fR fun x28 f26 g27 => inb (((((nI 40) * a1) + (nI 14)) + ((nI 6) * w14)) + (nI 2)) 880 ∧ inb (((nI 8) * (((nI 480) * a1) + x11)) + (nI 2)) 84480 ∧ Cl l G (d + 3) 0 0 mX12_writesDown [.ref B, .int a1, .int (nI 1), .int w14, .int (f26 (B + 24) (((nI 8) * (((nI 480) * a1) + x11)) + (nI 2)).toNatClampNeg)] (sh, (up2 f26 (B + 23) (((((nI 40) * a1) + (nI 14)) + ((nI 6) * w14)) + (nI 2)).toNatClampNeg x28), g27, fR) (qv sh fR fun f31 g32 => Q (some (.int (nI 1))) (sh, f31, g32, fR))))) ∧ (x19 = (-1) → Q (some (.int (nI 0))) (sh, f17, g18, fR))))) ∧ (x11 = (-1) → Q (some (.int (nI 0))) (sh, f9, g10, fR))))) ∧ (x11 = (-1) → ((¬ x11 = (-1) → Cl l G (d + 3) 0 0 mX12_picked [.ref B, .int a1, .int (-1)] (sh, f9, g10, fR) (qi sh fR fun x37 f35 g36 => ((¬ x37 = (-1) → inb (((nI 8) * (((nI 480) * a1) + x11)) + (nI 2)) 84480 ∧ inb (((nI 8) * (((nI 480) * a1) + x11)) + (nI 3)) 84480 ∧ Cl l G (d + 3) 0 0 mX12_sends [.ref B, .int a1, .int x37, .int (f35 (B + 24) (((nI 8) * (((nI 480) * a1) + x11)) + (nI 2)).toNatClampNeg), .int (f35 (B + 24) (((nI 8) * (((nI 480) * a1) + x11)) + (nI 3)).toNatClampNeg)] (sh, f35, g36, fR) (qv sh fR fun f41 g42 => inb (((((nI 40) * a1) + (nI 14)) + ((nI 6) * (-1))) + (nI 2)) 880 ∧ Cl l G (d + 3) 0 0 mX12_halved [.int (f41 (B + 23) (((((nI 40) * a1) + (nI 14)) + ((nI 6) * (-1))) + (nI 2)).toNatClampNeg)] (sh, f41, g42, fR) (qi sh fR fun x46 f44 g45 => inb (((((nI 40) * a1) + (nI 14)) + ((nI 6) * (-1))) + (nI 2)) 880 ∧ inb (((nI 8) * (((nI 480) * a1) + x11)) + (nI 2)) 84480 ∧ Cl l G (d + 3) 0 0 mX12_writesDown [.ref B, .int a1, .int (nI 1), .int (-1), .int (f44 (B + 24) (((nI 8) * (((nI 480) * a1) + x11)) + (nI 2)).toNatClampNeg)] (sh, (up2 f44 (B + 23) (((((nI 40) * a1) + (nI 14)) + ((nI 6) * (-1))) + (nI 2)).toNatClampNeg x46), g45, fR) (qv sh fR fun f49 g50 => Q (some (.int (nI 1))) (sh, f49, g50, fR))))) ∧ (x37 = (-1) → Q (some (.int (nI 0))) (sh, f35, g36, fR))))) ∧ (x11 = (-1) → Q (some (.int (nI 0))) (sh, f9, g10, fR)))))))))))) :
    Cl l G (d + 4) 0 0 mX12_isPenalised [.ref B, .int a1] (sh, f, g, fR) Q := by
  refine Cl.of (L0 := [some (.ref B), some (.int a1), none, none, none, none]) miX12_isPenalised rfl rfl ?_
  refine S_aload_n (pc := 0) dX12_isPenalised_0 rfl rfl ?_
  refine S_getR (pc := 1) dX12_isPenalised_1 flX12_54 (sM_0 hs) rfl (rM_14 hs) ?_
  refine S_aload_n (pc := 4) dX12_isPenalised_4 rfl rfl ?_
  refine S_get (pc := 5) (v := .int (f B 13)) dX12_isPenalised_5 flX12_51 (sM_0 hs) rfl ?_
  obtain ⟨hb1, H⟩ := H
  refine S_iald (pc := 8) dX12_isPenalised_8 (sM_2 hs) hb1 ?_
  refine S_namei (fun w2 e3 => ?_)
  replace H := H w2 e3
  refine S_istore_n (pc := 9) (L' := [some (.ref B), some (.int a1), some (.int w2), none, none, none]) dX12_isPenalised_9 rfl (by decide) rfl ?_
  refine S_aload_n (pc := 10) dX12_isPenalised_10 rfl rfl ?_
  refine S_iload_n (pc := 11) dX12_isPenalised_11 rfl rfl ?_
  refine S_iconst (pc := 12) dX12_isPenalised_12 ic1 ?_
  refine S_callV (As := [.int a1, .int (nI 1)]) (mc := 0) (ms := 0) (pc := 13) dX12_isPenalised_13 miX12_n mvX12_n mlX12_402 rfl (sM_0 hs) rfl rfl rfl (RmOK.of rfl) (Q := fun r h => WP _ _ _ _ _ _ _ 16 [some (.ref B), some (.int a1), some (.int w2), none, none, none] (r.toList ++ []) h) (Cl.of miX12_n rfl rfl ?_) (fun _ _ q => q)
  refine S_aload_n (pc := 0) dX12_n_0 rfl rfl ?_
  refine S_getR (pc := 1) dX12_n_1 flX12_144 (sM_0 hs) rfl (rM_43 hs) ?_
  refine S_bipush (pc := 4) dX12_n_4 bp40 ?_
  refine S_iload_n (pc := 6) dX12_n_6 rfl rfl ?_
  refine S_imul (pc := 7) dX12_n_7 ?_
  refine S_iload_n (pc := 8) dX12_n_8 rfl rfl ?_
  refine S_iadd (pc := 9) dX12_n_9 ?_
  obtain ⟨hb4, H⟩ := H
  refine S_iald (pc := 10) dX12_n_10 (sM_23 hs) hb4 ?_
  refine S_ireturn dX12_n_11 rfl ?_
  show WP _ _ _ _ _ _ _ 16 [some (.ref B), some (.int a1), some (.int w2), none, none, none] [.int (f (B + 23) (((nI 40) * a1) + (nI 1)).toNatClampNeg)] (sh, f, g, fR)
  refine S_aload_n (pc := 16) dX12_isPenalised_16 rfl rfl ?_
  refine S_iload_n (pc := 17) dX12_isPenalised_17 rfl rfl ?_
  refine S_iconst (pc := 18) dX12_isPenalised_18 ic3 ?_
  refine S_callV (As := [.int a1, .int (nI 3)]) (mc := 0) (ms := 0) (pc := 19) dX12_isPenalised_19 miX12_n mvX12_n mlX12_402 rfl (sM_0 hs) rfl rfl rfl (RmOK.of rfl) (Q := fun r h => WP _ _ _ _ _ _ _ 22 [some (.ref B), some (.int a1), some (.int w2), none, none, none] (r.toList ++ [.int (f (B + 23) (((nI 40) * a1) + (nI 1)).toNatClampNeg)]) h) (Cl.of miX12_n rfl rfl ?_) (fun _ _ q => q)
  refine S_aload_n (pc := 0) dX12_n_0 rfl rfl ?_
  refine S_getR (pc := 1) dX12_n_1 flX12_144 (sM_0 hs) rfl (rM_43 hs) ?_
  refine S_bipush (pc := 4) dX12_n_4 bp40 ?_
  refine S_iload_n (pc := 6) dX12_n_6 rfl rfl ?_
  refine S_imul (pc := 7) dX12_n_7 ?_
  refine S_iload_n (pc := 8) dX12_n_8 rfl rfl ?_
  refine S_iadd (pc := 9) dX12_n_9 ?_
  obtain ⟨hb5, H⟩ := H
  refine S_iald (pc := 10) dX12_n_10 (sM_23 hs) hb5 ?_
  refine S_ireturn dX12_n_11 rfl ?_
  show WP _ _ _ _ _ _ _ 22 [some (.ref B), some (.int a1), some (.int w2), none, none, none] [.int (f (B + 23) (((nI 40) * a1) + (nI 3)).toNatClampNeg), .int (f (B + 23) (((nI 40) * a1) + (nI 1)).toNatClampNeg)] (sh, f, g, fR)
  refine S_icmp_ne (pc := 22) (tgt := 43) dX12_isPenalised_22 rfl (fun hc6 => ?_) (fun hc6 => ?_)
  · replace H := H.1 hc6
    exact S_weak (L' := [some (.ref B), some (.int a1), none, none, none, none]) (ls_e (ls_e (ls_n (ls_e (ls_e (ls_e ls_0)))))) H
  · replace H := H.2 hc6
    refine S_aload_n (pc := 25) dX12_isPenalised_25 rfl rfl ?_
    refine S_iload_n (pc := 26) dX12_isPenalised_26 rfl rfl ?_
    refine S_iconst (pc := 27) dX12_isPenalised_27 ic1 ?_
    refine S_callV (As := [.int a1, .int (nI 1)]) (mc := 0) (ms := 0) (pc := 28) dX12_isPenalised_28 miX12_n mvX12_n mlX12_402 rfl (sM_0 hs) rfl rfl rfl (RmOK.of rfl) (Q := fun r h => WP _ _ _ _ _ _ _ 31 [some (.ref B), some (.int a1), some (.int w2), none, none, none] (r.toList ++ []) h) (Cl.of miX12_n rfl rfl ?_) (fun _ _ q => q)
    refine S_aload_n (pc := 0) dX12_n_0 rfl rfl ?_
    refine S_getR (pc := 1) dX12_n_1 flX12_144 (sM_0 hs) rfl (rM_43 hs) ?_
    refine S_bipush (pc := 4) dX12_n_4 bp40 ?_
    refine S_iload_n (pc := 6) dX12_n_6 rfl rfl ?_
    refine S_imul (pc := 7) dX12_n_7 ?_
    refine S_iload_n (pc := 8) dX12_n_8 rfl rfl ?_
    refine S_iadd (pc := 9) dX12_n_9 ?_
    obtain ⟨hb7, H⟩ := H
    refine S_iald (pc := 10) dX12_n_10 (sM_23 hs) hb7 ?_
    refine S_ireturn dX12_n_11 rfl ?_
    show WP _ _ _ _ _ _ _ 31 [some (.ref B), some (.int a1), some (.int w2), none, none, none] [.int (f (B + 23) (((nI 40) * a1) + (nI 1)).toNatClampNeg)] (sh, f, g, fR)
    refine S_iload_n (pc := 31) dX12_isPenalised_31 rfl rfl ?_
    refine S_icmp_ge (pc := 32) (tgt := 43) dX12_isPenalised_32 rfl (fun hc8 => ?_) (fun hc8 => ?_)
    · replace H := H.1 hc8
      exact S_weak (L' := [some (.ref B), some (.int a1), none, none, none, none]) (ls_e (ls_e (ls_n (ls_e (ls_e (ls_e ls_0)))))) H
    · replace H := H.2 hc8
      refine S_aload_n (pc := 35) dX12_isPenalised_35 rfl rfl ?_
      refine S_iload_n (pc := 36) dX12_isPenalised_36 rfl rfl ?_
      refine S_callV (As := [.int a1]) (mc := 0) (ms := 0) (pc := 37) dX12_isPenalised_37 miX12_blocking mvX12_blocking mlX12_525 rfl (sM_0 hs) rfl rfl rfl (RmOK.of rfl) H ?_
      rintro _ _ ⟨x11, f9, g10, rfl, rfl, H⟩
      show WP _ _ _ _ _ _ _ 40 [some (.ref B), some (.int a1), some (.int w2), none, none, none] [.int x11] (sh, f9, g10, fR)
      refine S_goto (pc := 40) (tgt := 44) dX12_isPenalised_40 rfl ?_
      refine S_istore_n (pc := 44) (L' := [some (.ref B), some (.int a1), some (.int w2), some (.int x11), none, none]) dX12_isPenalised_44 rfl (by decide) rfl ?_
      refine S_iload_n (pc := 45) dX12_isPenalised_45 rfl rfl ?_
      refine S_iconst (pc := 46) dX12_isPenalised_46 icm1 ?_
      refine S_icmp_ne (pc := 47) (tgt := 54) dX12_isPenalised_47 rfl (fun hc12 => ?_) (fun hc12 => ?_)
      · replace H := H.1 hc12
        refine S_aload_n (pc := 54) dX12_isPenalised_54 rfl rfl ?_
        refine S_iload_n (pc := 55) dX12_isPenalised_55 rfl rfl ?_
        refine S_iload_n (pc := 56) dX12_isPenalised_56 rfl rfl ?_
        refine S_iconst (pc := 57) dX12_isPenalised_57 ic0 ?_
        refine S_callV (As := [.int a1, .int x11, .int (nI 0)]) (mc := 0) (ms := 0) (pc := 58) dX12_isPenalised_58 miX12_s mvX12_s mlX12_445 rfl (sM_0 hs) rfl rfl rfl (RmOK.of rfl) (Q := fun r h => WP _ _ _ _ _ _ _ 61 [some (.ref B), some (.int a1), some (.int w2), some (.int x11), none, none] (r.toList ++ []) h) (Cl.of miX12_s rfl rfl ?_) (fun _ _ q => q)
        refine S_aload_n (pc := 0) dX12_s_0 rfl rfl ?_
        refine S_getR (pc := 1) dX12_s_1 flX12_148 (sM_0 hs) rfl (rM_44 hs) ?_
        refine S_bipush (pc := 4) dX12_s_4 bp8 ?_
        refine S_sipush (pc := 6) dX12_s_6 sp480 ?_
        refine S_iload_n (pc := 9) dX12_s_9 rfl rfl ?_
        refine S_imul (pc := 10) dX12_s_10 ?_
        refine S_iload_n (pc := 11) dX12_s_11 rfl rfl ?_
        refine S_iadd (pc := 12) dX12_s_12 ?_
        refine S_imul (pc := 13) dX12_s_13 ?_
        refine S_iload_n (pc := 14) dX12_s_14 rfl rfl ?_
        refine S_iadd (pc := 15) dX12_s_15 ?_
        obtain ⟨hb13, H⟩ := H
        refine S_iald (pc := 16) dX12_s_16 (sM_24 hs) hb13 ?_
        refine S_ireturn dX12_s_17 rfl ?_
        show WP _ _ _ _ _ _ _ 61 [some (.ref B), some (.int a1), some (.int w2), some (.int x11), none, none] [.int (f9 (B + 24) (((nI 8) * (((nI 480) * a1) + x11)) + (nI 0)).toNatClampNeg)] (sh, f9, g10, fR)
        refine S_namei (fun w14 e15 => ?_)
        replace H := H w14 e15
        refine S_istore (pc := 61) (L' := [some (.ref B), some (.int a1), some (.int w2), some (.int x11), some (.int w14), none]) dX12_isPenalised_61 (by decide) rfl ?_
        refine S_iload_n (pc := 63) dX12_isPenalised_63 rfl rfl ?_
        refine S_iconst (pc := 64) dX12_isPenalised_64 icm1 ?_
        refine S_icmp_ne (pc := 65) (tgt := 72) dX12_isPenalised_65 rfl (fun hc16 => ?_) (fun hc16 => ?_)
        · replace H := H.1 hc16
          refine S_aload_n (pc := 72) dX12_isPenalised_72 rfl rfl ?_
          refine S_iload_n (pc := 73) dX12_isPenalised_73 rfl rfl ?_
          refine S_iload (pc := 74) dX12_isPenalised_74 rfl ?_
          refine S_callV (As := [.int a1, .int w14]) (mc := 0) (ms := 0) (pc := 76) dX12_isPenalised_76 miX12_picked mvX12_picked mlX12_528 rfl (sM_0 hs) rfl rfl rfl (RmOK.of rfl) H ?_
          rintro _ _ ⟨x19, f17, g18, rfl, rfl, H⟩
          show WP _ _ _ _ _ _ _ 79 [some (.ref B), some (.int a1), some (.int w2), some (.int x11), some (.int w14), none] [.int x19] (sh, f17, g18, fR)
          refine S_istore (pc := 79) (L' := [some (.ref B), some (.int a1), some (.int w2), some (.int x11), some (.int w14), some (.int x19)]) dX12_isPenalised_79 (by decide) rfl ?_
          refine S_iload (pc := 81) dX12_isPenalised_81 rfl ?_
          refine S_iconst (pc := 83) dX12_isPenalised_83 icm1 ?_
          refine S_icmp_ne (pc := 84) (tgt := 89) dX12_isPenalised_84 rfl (fun hc20 => ?_) (fun hc20 => ?_)
          · replace H := H.1 hc20
            refine S_aload_n (pc := 89) dX12_isPenalised_89 rfl rfl ?_
            refine S_iload_n (pc := 90) dX12_isPenalised_90 rfl rfl ?_
            refine S_iload (pc := 91) dX12_isPenalised_91 rfl ?_
            refine S_aload_n (pc := 93) dX12_isPenalised_93 rfl rfl ?_
            refine S_iload_n (pc := 94) dX12_isPenalised_94 rfl rfl ?_
            refine S_iload_n (pc := 95) dX12_isPenalised_95 rfl rfl ?_
            refine S_iconst (pc := 96) dX12_isPenalised_96 ic2 ?_
            refine S_callV (As := [.int a1, .int x11, .int (nI 2)]) (mc := 0) (ms := 0) (pc := 97) dX12_isPenalised_97 miX12_s mvX12_s mlX12_445 rfl (sM_0 hs) rfl rfl rfl (RmOK.of rfl) (Q := fun r h => WP _ _ _ _ _ _ _ 100 [some (.ref B), some (.int a1), some (.int w2), some (.int x11), some (.int w14), some (.int x19)] (r.toList ++ [.int x19, .int a1, .ref B]) h) (Cl.of miX12_s rfl rfl ?_) (fun _ _ q => q)
            refine S_aload_n (pc := 0) dX12_s_0 rfl rfl ?_
            refine S_getR (pc := 1) dX12_s_1 flX12_148 (sM_0 hs) rfl (rM_44 hs) ?_
            refine S_bipush (pc := 4) dX12_s_4 bp8 ?_
            refine S_sipush (pc := 6) dX12_s_6 sp480 ?_
            refine S_iload_n (pc := 9) dX12_s_9 rfl rfl ?_
            refine S_imul (pc := 10) dX12_s_10 ?_
            refine S_iload_n (pc := 11) dX12_s_11 rfl rfl ?_
            refine S_iadd (pc := 12) dX12_s_12 ?_
            refine S_imul (pc := 13) dX12_s_13 ?_
            refine S_iload_n (pc := 14) dX12_s_14 rfl rfl ?_
            refine S_iadd (pc := 15) dX12_s_15 ?_
            obtain ⟨hb21, H⟩ := H
            refine S_iald (pc := 16) dX12_s_16 (sM_24 hs) hb21 ?_
            refine S_ireturn dX12_s_17 rfl ?_
            show WP _ _ _ _ _ _ _ 100 [some (.ref B), some (.int a1), some (.int w2), some (.int x11), some (.int w14), some (.int x19)] [.int (f17 (B + 24) (((nI 8) * (((nI 480) * a1) + x11)) + (nI 2)).toNatClampNeg), .int x19, .int a1, .ref B] (sh, f17, g18, fR)
            refine S_aload_n (pc := 100) dX12_isPenalised_100 rfl rfl ?_
            refine S_iload_n (pc := 101) dX12_isPenalised_101 rfl rfl ?_
            refine S_iload_n (pc := 102) dX12_isPenalised_102 rfl rfl ?_
            refine S_iconst (pc := 103) dX12_isPenalised_103 ic3 ?_
            refine S_callV (As := [.int a1, .int x11, .int (nI 3)]) (mc := 0) (ms := 0) (pc := 104) dX12_isPenalised_104 miX12_s mvX12_s mlX12_445 rfl (sM_0 hs) rfl rfl rfl (RmOK.of rfl) (Q := fun r h => WP _ _ _ _ _ _ _ 107 [some (.ref B), some (.int a1), some (.int w2), some (.int x11), some (.int w14), some (.int x19)] (r.toList ++ [.int (f17 (B + 24) (((nI 8) * (((nI 480) * a1) + x11)) + (nI 2)).toNatClampNeg), .int x19, .int a1, .ref B]) h) (Cl.of miX12_s rfl rfl ?_) (fun _ _ q => q)
            refine S_aload_n (pc := 0) dX12_s_0 rfl rfl ?_
            refine S_getR (pc := 1) dX12_s_1 flX12_148 (sM_0 hs) rfl (rM_44 hs) ?_
            refine S_bipush (pc := 4) dX12_s_4 bp8 ?_
            refine S_sipush (pc := 6) dX12_s_6 sp480 ?_
            refine S_iload_n (pc := 9) dX12_s_9 rfl rfl ?_
            refine S_imul (pc := 10) dX12_s_10 ?_
            refine S_iload_n (pc := 11) dX12_s_11 rfl rfl ?_
            refine S_iadd (pc := 12) dX12_s_12 ?_
            refine S_imul (pc := 13) dX12_s_13 ?_
            refine S_iload_n (pc := 14) dX12_s_14 rfl rfl ?_
            refine S_iadd (pc := 15) dX12_s_15 ?_
            obtain ⟨hb22, H⟩ := H
            refine S_iald (pc := 16) dX12_s_16 (sM_24 hs) hb22 ?_
            refine S_ireturn dX12_s_17 rfl ?_
            show WP _ _ _ _ _ _ _ 107 [some (.ref B), some (.int a1), some (.int w2), some (.int x11), some (.int w14), some (.int x19)] [.int (f17 (B + 24) (((nI 8) * (((nI 480) * a1) + x11)) + (nI 3)).toNatClampNeg), .int (f17 (B + 24) (((nI 8) * (((nI 480) * a1) + x11)) + (nI 2)).toNatClampNeg), .int x19, .int a1, .ref B] (sh, f17, g18, fR)
            refine S_callV (As := [.int a1, .int x19, .int (f17 (B + 24) (((nI 8) * (((nI 480) * a1) + x11)) + (nI 2)).toNatClampNeg), .int (f17 (B + 24) (((nI 8) * (((nI 480) * a1) + x11)) + (nI 3)).toNatClampNeg)]) (mc := 0) (ms := 0) (pc := 107) dX12_isPenalised_107 miX12_sends mvX12_sends mlX12_531 rfl (sM_0 hs) rfl rfl rfl (RmOK.of rfl) H ?_
            rintro _ _ ⟨f23, g24, rfl, rfl, H⟩
            show WP _ _ _ _ _ _ _ 110 [some (.ref B), some (.int a1), some (.int w2), some (.int x11), some (.int w14), some (.int x19)] [] (sh, f23, g24, fR)
            refine S_aload_n (pc := 110) dX12_isPenalised_110 rfl rfl ?_
            refine S_iload_n (pc := 111) dX12_isPenalised_111 rfl rfl ?_
            refine S_iload (pc := 112) dX12_isPenalised_112 rfl ?_
            refine S_iconst (pc := 114) dX12_isPenalised_114 ic2 ?_
            refine S_aload_n (pc := 115) dX12_isPenalised_115 rfl rfl ?_
            refine S_iload_n (pc := 116) dX12_isPenalised_116 rfl rfl ?_
            refine S_iload (pc := 117) dX12_isPenalised_117 rfl ?_
            refine S_iconst (pc := 119) dX12_isPenalised_119 ic2 ?_
            refine S_callV (As := [.int a1, .int w14, .int (nI 2)]) (mc := 0) (ms := 0) (pc := 120) dX12_isPenalised_120 miX12_p mvX12_p mlX12_438 rfl (sM_0 hs) rfl rfl rfl (RmOK.of rfl) (Q := fun r h => WP _ _ _ _ _ _ _ 123 [some (.ref B), some (.int a1), some (.int w2), some (.int x11), some (.int w14), some (.int x19)] (r.toList ++ [.int (nI 2), .int w14, .int a1, .ref B]) h) (Cl.of miX12_p rfl rfl ?_) (fun _ _ q => q)
            refine S_aload_n (pc := 0) dX12_p_0 rfl rfl ?_
            refine S_getR (pc := 1) dX12_p_1 flX12_144 (sM_0 hs) rfl (rM_43 hs) ?_
            refine S_bipush (pc := 4) dX12_p_4 bp40 ?_
            refine S_iload_n (pc := 6) dX12_p_6 rfl rfl ?_
            refine S_imul (pc := 7) dX12_p_7 ?_
            refine S_bipush (pc := 8) dX12_p_8 bp14 ?_
            refine S_iadd (pc := 10) dX12_p_10 ?_
            refine S_bipush (pc := 11) dX12_p_11 bp6 ?_
            refine S_iload_n (pc := 13) dX12_p_13 rfl rfl ?_
            refine S_imul (pc := 14) dX12_p_14 ?_
            refine S_iadd (pc := 15) dX12_p_15 ?_
            refine S_iload_n (pc := 16) dX12_p_16 rfl rfl ?_
            refine S_iadd (pc := 17) dX12_p_17 ?_
            obtain ⟨hb25, H⟩ := H
            refine S_iald (pc := 18) dX12_p_18 (sM_23 hs) hb25 ?_
            refine S_ireturn dX12_p_19 rfl ?_
            show WP _ _ _ _ _ _ _ 123 [some (.ref B), some (.int a1), some (.int w2), some (.int x11), some (.int w14), some (.int x19)] [.int (f23 (B + 23) (((((nI 40) * a1) + (nI 14)) + ((nI 6) * w14)) + (nI 2)).toNatClampNeg), .int (nI 2), .int w14, .int a1, .ref B] (sh, f23, g24, fR)
            refine S_callS (As := [.int (f23 (B + 23) (((((nI 40) * a1) + (nI 14)) + ((nI 6) * w14)) + (nI 2)).toNatClampNeg)]) (mc := 0) (ms := 0) (pc := 123) dX12_isPenalised_123 miX12_halved mvX12_halved mlX12_513 rfl rfl (RmOK.of rfl) H ?_
            rintro _ _ ⟨x28, f26, g27, rfl, rfl, H⟩
            show WP _ _ _ _ _ _ _ 126 [some (.ref B), some (.int a1), some (.int w2), some (.int x11), some (.int w14), some (.int x19)] [.int x28, .int (nI 2), .int w14, .int a1, .ref B] (sh, f26, g27, fR)
            refine S_callV (As := [.int a1, .int w14, .int (nI 2), .int x28]) (mc := 0) (ms := 0) (pc := 126) dX12_isPenalised_126 miX12_setsPath mvX12_setsPath mlX12_412 rfl (sM_0 hs) rfl rfl rfl (RmOK.of rfl) (Q := fun r h => WP _ _ _ _ _ _ _ 129 [some (.ref B), some (.int a1), some (.int w2), some (.int x11), some (.int w14), some (.int x19)] (r.toList ++ []) h) (Cl.of miX12_setsPath rfl rfl ?_) (fun _ _ q => q)
            refine S_aload_n (pc := 0) dX12_setsPath_0 rfl rfl ?_
            refine S_getR (pc := 1) dX12_setsPath_1 flX12_144 (sM_0 hs) rfl (rM_43 hs) ?_
            refine S_bipush (pc := 4) dX12_setsPath_4 bp40 ?_
            refine S_iload_n (pc := 6) dX12_setsPath_6 rfl rfl ?_
            refine S_imul (pc := 7) dX12_setsPath_7 ?_
            refine S_bipush (pc := 8) dX12_setsPath_8 bp14 ?_
            refine S_iadd (pc := 10) dX12_setsPath_10 ?_
            refine S_bipush (pc := 11) dX12_setsPath_11 bp6 ?_
            refine S_iload_n (pc := 13) dX12_setsPath_13 rfl rfl ?_
            refine S_imul (pc := 14) dX12_setsPath_14 ?_
            refine S_iadd (pc := 15) dX12_setsPath_15 ?_
            refine S_iload_n (pc := 16) dX12_setsPath_16 rfl rfl ?_
            refine S_iadd (pc := 17) dX12_setsPath_17 ?_
            refine S_iload (pc := 18) dX12_setsPath_18 rfl ?_
            obtain ⟨hb29, H⟩ := H
            refine S_iast (pc := 20) dX12_setsPath_20 (sM_23 hs) (Nat.succ_pos _) hb29 ?_
            refine S_vreturn dX12_setsPath_21 rfl ?_
            show WP _ _ _ _ _ _ _ 129 [some (.ref B), some (.int a1), some (.int w2), some (.int x11), some (.int w14), some (.int x19)] [] (sh, (up2 f26 (B + 23) (((((nI 40) * a1) + (nI 14)) + ((nI 6) * w14)) + (nI 2)).toNatClampNeg x28), g27, fR)
            refine S_aload_n (pc := 129) dX12_isPenalised_129 rfl rfl ?_
            refine S_iload_n (pc := 130) dX12_isPenalised_130 rfl rfl ?_
            refine S_iconst (pc := 131) dX12_isPenalised_131 ic1 ?_
            refine S_iload (pc := 132) dX12_isPenalised_132 rfl ?_
            refine S_aload_n (pc := 134) dX12_isPenalised_134 rfl rfl ?_
            refine S_iload_n (pc := 135) dX12_isPenalised_135 rfl rfl ?_
            refine S_iload_n (pc := 136) dX12_isPenalised_136 rfl rfl ?_
            refine S_iconst (pc := 137) dX12_isPenalised_137 ic2 ?_
            refine S_callV (As := [.int a1, .int x11, .int (nI 2)]) (mc := 0) (ms := 0) (pc := 138) dX12_isPenalised_138 miX12_s mvX12_s mlX12_445 rfl (sM_0 hs) rfl rfl rfl (RmOK.of rfl) (Q := fun r h => WP _ _ _ _ _ _ _ 141 [some (.ref B), some (.int a1), some (.int w2), some (.int x11), some (.int w14), some (.int x19)] (r.toList ++ [.int w14, .int (nI 1), .int a1, .ref B]) h) (Cl.of miX12_s rfl rfl ?_) (fun _ _ q => q)
            refine S_aload_n (pc := 0) dX12_s_0 rfl rfl ?_
            refine S_getR (pc := 1) dX12_s_1 flX12_148 (sM_0 hs) rfl (rM_44 hs) ?_
            refine S_bipush (pc := 4) dX12_s_4 bp8 ?_
            refine S_sipush (pc := 6) dX12_s_6 sp480 ?_
            refine S_iload_n (pc := 9) dX12_s_9 rfl rfl ?_
            refine S_imul (pc := 10) dX12_s_10 ?_
            refine S_iload_n (pc := 11) dX12_s_11 rfl rfl ?_
            refine S_iadd (pc := 12) dX12_s_12 ?_
            refine S_imul (pc := 13) dX12_s_13 ?_
            refine S_iload_n (pc := 14) dX12_s_14 rfl rfl ?_
            refine S_iadd (pc := 15) dX12_s_15 ?_
            obtain ⟨hb30, H⟩ := H
            refine S_iald (pc := 16) dX12_s_16 (sM_24 hs) hb30 ?_
            refine S_eqi (x := f26 (B + 24) (((nI 8) * (((nI 480) * a1) + x11)) + (nI 2)).toNatClampNeg) ((up2_r (by omega)).trans rfl) ?_
            refine S_ireturn dX12_s_17 rfl ?_
            show WP _ _ _ _ _ _ _ 141 [some (.ref B), some (.int a1), some (.int w2), some (.int x11), some (.int w14), some (.int x19)] [.int (f26 (B + 24) (((nI 8) * (((nI 480) * a1) + x11)) + (nI 2)).toNatClampNeg), .int w14, .int (nI 1), .int a1, .ref B] (sh, (up2 f26 (B + 23) (((((nI 40) * a1) + (nI 14)) + ((nI 6) * w14)) + (nI 2)).toNatClampNeg x28), g27, fR)
            refine S_callV (As := [.int a1, .int (nI 1), .int w14, .int (f26 (B + 24) (((nI 8) * (((nI 480) * a1) + x11)) + (nI 2)).toNatClampNeg)]) (mc := 0) (ms := 0) (pc := 141) dX12_isPenalised_141 miX12_writesDown mvX12_writesDown mlX12_504 rfl (sM_0 hs) rfl rfl rfl (RmOK.of rfl) H ?_
            rintro _ _ ⟨f31, g32, rfl, rfl, H⟩
            show WP _ _ _ _ _ _ _ 144 [some (.ref B), some (.int a1), some (.int w2), some (.int x11), some (.int w14), some (.int x19)] [] (sh, f31, g32, fR)
            refine S_iconst (pc := 144) dX12_isPenalised_144 ic1 ?_
            exact S_zreturn dX12_isPenalised_145 rfl (Or.inr rfl) H
          · replace H := H.2 hc20
            refine S_iconst (pc := 87) dX12_isPenalised_87 ic0 ?_
            exact S_zreturn dX12_isPenalised_88 rfl (Or.inl rfl) H
        · replace H := H.2 hc16
          refine S_iconst (pc := 68) dX12_isPenalised_68 icm1 ?_
          refine S_goto (pc := 69) (tgt := 79) dX12_isPenalised_69 rfl ?_
          refine S_istore (pc := 79) (L' := [some (.ref B), some (.int a1), some (.int w2), some (.int x11), some (.int w14), some (.int (-1))]) dX12_isPenalised_79 (by decide) rfl ?_
          refine S_iload (pc := 81) dX12_isPenalised_81 rfl ?_
          refine S_iconst (pc := 83) dX12_isPenalised_83 icm1 ?_
          refine S_icmp_ne (pc := 84) (tgt := 89) dX12_isPenalised_84 rfl (fun hc33 => by first | exact absurd hc33 (by decide) | exact absurd (by decide) hc33) (fun _ => ?_)
          refine S_iconst (pc := 87) dX12_isPenalised_87 ic0 ?_
          exact S_zreturn dX12_isPenalised_88 rfl (Or.inl rfl) H
      · replace H := H.2 hc12
        refine S_iconst (pc := 50) dX12_isPenalised_50 icm1 ?_
        refine S_goto (pc := 51) (tgt := 61) dX12_isPenalised_51 rfl ?_
        refine S_istore (pc := 61) (L' := [some (.ref B), some (.int a1), some (.int w2), some (.int x11), some (.int (-1)), none]) dX12_isPenalised_61 (by decide) rfl ?_
        refine S_iload_n (pc := 63) dX12_isPenalised_63 rfl rfl ?_
        refine S_iconst (pc := 64) dX12_isPenalised_64 icm1 ?_
        refine S_icmp_ne (pc := 65) (tgt := 72) dX12_isPenalised_65 rfl (fun hc34 => ?_) (fun hc34 => ?_)
        · replace H := H.1 hc34
          refine S_aload_n (pc := 72) dX12_isPenalised_72 rfl rfl ?_
          refine S_iload_n (pc := 73) dX12_isPenalised_73 rfl rfl ?_
          refine S_iload (pc := 74) dX12_isPenalised_74 rfl ?_
          refine S_callV (As := [.int a1, .int (-1)]) (mc := 0) (ms := 0) (pc := 76) dX12_isPenalised_76 miX12_picked mvX12_picked mlX12_528 rfl (sM_0 hs) rfl rfl rfl (RmOK.of rfl) H ?_
          rintro _ _ ⟨x37, f35, g36, rfl, rfl, H⟩
          show WP _ _ _ _ _ _ _ 79 [some (.ref B), some (.int a1), some (.int w2), some (.int x11), some (.int (-1)), none] [.int x37] (sh, f35, g36, fR)
          refine S_istore (pc := 79) (L' := [some (.ref B), some (.int a1), some (.int w2), some (.int x11), some (.int (-1)), some (.int x37)]) dX12_isPenalised_79 (by decide) rfl ?_
          refine S_iload (pc := 81) dX12_isPenalised_81 rfl ?_
          refine S_iconst (pc := 83) dX12_isPenalised_83 icm1 ?_
          refine S_icmp_ne (pc := 84) (tgt := 89) dX12_isPenalised_84 rfl (fun hc38 => ?_) (fun hc38 => ?_)
          · replace H := H.1 hc38
            refine S_aload_n (pc := 89) dX12_isPenalised_89 rfl rfl ?_
            refine S_iload_n (pc := 90) dX12_isPenalised_90 rfl rfl ?_
            refine S_iload (pc := 91) dX12_isPenalised_91 rfl ?_
            refine S_aload_n (pc := 93) dX12_isPenalised_93 rfl rfl ?_
            refine S_iload_n (pc := 94) dX12_isPenalised_94 rfl rfl ?_
            refine S_iload_n (pc := 95) dX12_isPenalised_95 rfl rfl ?_
            refine S_iconst (pc := 96) dX12_isPenalised_96 ic2 ?_
            refine S_callV (As := [.int a1, .int x11, .int (nI 2)]) (mc := 0) (ms := 0) (pc := 97) dX12_isPenalised_97 miX12_s mvX12_s mlX12_445 rfl (sM_0 hs) rfl rfl rfl (RmOK.of rfl) (Q := fun r h => WP _ _ _ _ _ _ _ 100 [some (.ref B), some (.int a1), some (.int w2), some (.int x11), some (.int (-1)), some (.int x37)] (r.toList ++ [.int x37, .int a1, .ref B]) h) (Cl.of miX12_s rfl rfl ?_) (fun _ _ q => q)
            refine S_aload_n (pc := 0) dX12_s_0 rfl rfl ?_
            refine S_getR (pc := 1) dX12_s_1 flX12_148 (sM_0 hs) rfl (rM_44 hs) ?_
            refine S_bipush (pc := 4) dX12_s_4 bp8 ?_
            refine S_sipush (pc := 6) dX12_s_6 sp480 ?_
            refine S_iload_n (pc := 9) dX12_s_9 rfl rfl ?_
            refine S_imul (pc := 10) dX12_s_10 ?_
            refine S_iload_n (pc := 11) dX12_s_11 rfl rfl ?_
            refine S_iadd (pc := 12) dX12_s_12 ?_
            refine S_imul (pc := 13) dX12_s_13 ?_
            refine S_iload_n (pc := 14) dX12_s_14 rfl rfl ?_
            refine S_iadd (pc := 15) dX12_s_15 ?_
            obtain ⟨hb39, H⟩ := H
            refine S_iald (pc := 16) dX12_s_16 (sM_24 hs) hb39 ?_
            refine S_ireturn dX12_s_17 rfl ?_
            show WP _ _ _ _ _ _ _ 100 [some (.ref B), some (.int a1), some (.int w2), some (.int x11), some (.int (-1)), some (.int x37)] [.int (f35 (B + 24) (((nI 8) * (((nI 480) * a1) + x11)) + (nI 2)).toNatClampNeg), .int x37, .int a1, .ref B] (sh, f35, g36, fR)
            refine S_aload_n (pc := 100) dX12_isPenalised_100 rfl rfl ?_
            refine S_iload_n (pc := 101) dX12_isPenalised_101 rfl rfl ?_
            refine S_iload_n (pc := 102) dX12_isPenalised_102 rfl rfl ?_
            refine S_iconst (pc := 103) dX12_isPenalised_103 ic3 ?_
            refine S_callV (As := [.int a1, .int x11, .int (nI 3)]) (mc := 0) (ms := 0) (pc := 104) dX12_isPenalised_104 miX12_s mvX12_s mlX12_445 rfl (sM_0 hs) rfl rfl rfl (RmOK.of rfl) (Q := fun r h => WP _ _ _ _ _ _ _ 107 [some (.ref B), some (.int a1), some (.int w2), some (.int x11), some (.int (-1)), some (.int x37)] (r.toList ++ [.int (f35 (B + 24) (((nI 8) * (((nI 480) * a1) + x11)) + (nI 2)).toNatClampNeg), .int x37, .int a1, .ref B]) h) (Cl.of miX12_s rfl rfl ?_) (fun _ _ q => q)
            refine S_aload_n (pc := 0) dX12_s_0 rfl rfl ?_
            refine S_getR (pc := 1) dX12_s_1 flX12_148 (sM_0 hs) rfl (rM_44 hs) ?_
            refine S_bipush (pc := 4) dX12_s_4 bp8 ?_
            refine S_sipush (pc := 6) dX12_s_6 sp480 ?_
            refine S_iload_n (pc := 9) dX12_s_9 rfl rfl ?_
            refine S_imul (pc := 10) dX12_s_10 ?_
            refine S_iload_n (pc := 11) dX12_s_11 rfl rfl ?_
            refine S_iadd (pc := 12) dX12_s_12 ?_
            refine S_imul (pc := 13) dX12_s_13 ?_
            refine S_iload_n (pc := 14) dX12_s_14 rfl rfl ?_
            refine S_iadd (pc := 15) dX12_s_15 ?_
            obtain ⟨hb40, H⟩ := H
            refine S_iald (pc := 16) dX12_s_16 (sM_24 hs) hb40 ?_
            refine S_ireturn dX12_s_17 rfl ?_
            show WP _ _ _ _ _ _ _ 107 [some (.ref B), some (.int a1), some (.int w2), some (.int x11), some (.int (-1)), some (.int x37)] [.int (f35 (B + 24) (((nI 8) * (((nI 480) * a1) + x11)) + (nI 3)).toNatClampNeg), .int (f35 (B + 24) (((nI 8) * (((nI 480) * a1) + x11)) + (nI 2)).toNatClampNeg), .int x37, .int a1, .ref B] (sh, f35, g36, fR)
            refine S_callV (As := [.int a1, .int x37, .int (f35 (B + 24) (((nI 8) * (((nI 480) * a1) + x11)) + (nI 2)).toNatClampNeg), .int (f35 (B + 24) (((nI 8) * (((nI 480) * a1) + x11)) + (nI 3)).toNatClampNeg)]) (mc := 0) (ms := 0) (pc := 107) dX12_isPenalised_107 miX12_sends mvX12_sends mlX12_531 rfl (sM_0 hs) rfl rfl rfl (RmOK.of rfl) H ?_
            rintro _ _ ⟨f41, g42, rfl, rfl, H⟩
            show WP _ _ _ _ _ _ _ 110 [some (.ref B), some (.int a1), some (.int w2), some (.int x11), some (.int (-1)), some (.int x37)] [] (sh, f41, g42, fR)
            refine S_aload_n (pc := 110) dX12_isPenalised_110 rfl rfl ?_
            refine S_iload_n (pc := 111) dX12_isPenalised_111 rfl rfl ?_
            refine S_iload (pc := 112) dX12_isPenalised_112 rfl ?_
            refine S_iconst (pc := 114) dX12_isPenalised_114 ic2 ?_
            refine S_aload_n (pc := 115) dX12_isPenalised_115 rfl rfl ?_
            refine S_iload_n (pc := 116) dX12_isPenalised_116 rfl rfl ?_
            refine S_iload (pc := 117) dX12_isPenalised_117 rfl ?_
            refine S_iconst (pc := 119) dX12_isPenalised_119 ic2 ?_
            refine S_callV (As := [.int a1, .int (-1), .int (nI 2)]) (mc := 0) (ms := 0) (pc := 120) dX12_isPenalised_120 miX12_p mvX12_p mlX12_438 rfl (sM_0 hs) rfl rfl rfl (RmOK.of rfl) (Q := fun r h => WP _ _ _ _ _ _ _ 123 [some (.ref B), some (.int a1), some (.int w2), some (.int x11), some (.int (-1)), some (.int x37)] (r.toList ++ [.int (nI 2), .int (-1), .int a1, .ref B]) h) (Cl.of miX12_p rfl rfl ?_) (fun _ _ q => q)
            refine S_aload_n (pc := 0) dX12_p_0 rfl rfl ?_
            refine S_getR (pc := 1) dX12_p_1 flX12_144 (sM_0 hs) rfl (rM_43 hs) ?_
            refine S_bipush (pc := 4) dX12_p_4 bp40 ?_
            refine S_iload_n (pc := 6) dX12_p_6 rfl rfl ?_
            refine S_imul (pc := 7) dX12_p_7 ?_
            refine S_bipush (pc := 8) dX12_p_8 bp14 ?_
            refine S_iadd (pc := 10) dX12_p_10 ?_
            refine S_bipush (pc := 11) dX12_p_11 bp6 ?_
            refine S_iload_n (pc := 13) dX12_p_13 rfl rfl ?_
            refine S_imul (pc := 14) dX12_p_14 ?_
            refine S_iadd (pc := 15) dX12_p_15 ?_
            refine S_iload_n (pc := 16) dX12_p_16 rfl rfl ?_
            refine S_iadd (pc := 17) dX12_p_17 ?_
            obtain ⟨hb43, H⟩ := H
            refine S_iald (pc := 18) dX12_p_18 (sM_23 hs) hb43 ?_
            refine S_ireturn dX12_p_19 rfl ?_
            show WP _ _ _ _ _ _ _ 123 [some (.ref B), some (.int a1), some (.int w2), some (.int x11), some (.int (-1)), some (.int x37)] [.int (f41 (B + 23) (((((nI 40) * a1) + (nI 14)) + ((nI 6) * (-1))) + (nI 2)).toNatClampNeg), .int (nI 2), .int (-1), .int a1, .ref B] (sh, f41, g42, fR)
            refine S_callS (As := [.int (f41 (B + 23) (((((nI 40) * a1) + (nI 14)) + ((nI 6) * (-1))) + (nI 2)).toNatClampNeg)]) (mc := 0) (ms := 0) (pc := 123) dX12_isPenalised_123 miX12_halved mvX12_halved mlX12_513 rfl rfl (RmOK.of rfl) H ?_
            rintro _ _ ⟨x46, f44, g45, rfl, rfl, H⟩
            show WP _ _ _ _ _ _ _ 126 [some (.ref B), some (.int a1), some (.int w2), some (.int x11), some (.int (-1)), some (.int x37)] [.int x46, .int (nI 2), .int (-1), .int a1, .ref B] (sh, f44, g45, fR)
            refine S_callV (As := [.int a1, .int (-1), .int (nI 2), .int x46]) (mc := 0) (ms := 0) (pc := 126) dX12_isPenalised_126 miX12_setsPath mvX12_setsPath mlX12_412 rfl (sM_0 hs) rfl rfl rfl (RmOK.of rfl) (Q := fun r h => WP _ _ _ _ _ _ _ 129 [some (.ref B), some (.int a1), some (.int w2), some (.int x11), some (.int (-1)), some (.int x37)] (r.toList ++ []) h) (Cl.of miX12_setsPath rfl rfl ?_) (fun _ _ q => q)
            refine S_aload_n (pc := 0) dX12_setsPath_0 rfl rfl ?_
            refine S_getR (pc := 1) dX12_setsPath_1 flX12_144 (sM_0 hs) rfl (rM_43 hs) ?_
            refine S_bipush (pc := 4) dX12_setsPath_4 bp40 ?_
            refine S_iload_n (pc := 6) dX12_setsPath_6 rfl rfl ?_
            refine S_imul (pc := 7) dX12_setsPath_7 ?_
            refine S_bipush (pc := 8) dX12_setsPath_8 bp14 ?_
            refine S_iadd (pc := 10) dX12_setsPath_10 ?_
            refine S_bipush (pc := 11) dX12_setsPath_11 bp6 ?_
            refine S_iload_n (pc := 13) dX12_setsPath_13 rfl rfl ?_
            refine S_imul (pc := 14) dX12_setsPath_14 ?_
            refine S_iadd (pc := 15) dX12_setsPath_15 ?_
            refine S_iload_n (pc := 16) dX12_setsPath_16 rfl rfl ?_
            refine S_iadd (pc := 17) dX12_setsPath_17 ?_
            refine S_iload (pc := 18) dX12_setsPath_18 rfl ?_
            obtain ⟨hb47, H⟩ := H
            refine S_iast (pc := 20) dX12_setsPath_20 (sM_23 hs) (Nat.succ_pos _) hb47 ?_
            refine S_vreturn dX12_setsPath_21 rfl ?_
            show WP _ _ _ _ _ _ _ 129 [some (.ref B), some (.int a1), some (.int w2), some (.int x11), some (.int (-1)), some (.int x37)] [] (sh, (up2 f44 (B + 23) (((((nI 40) * a1) + (nI 14)) + ((nI 6) * (-1))) + (nI 2)).toNatClampNeg x46), g45, fR)
            refine S_aload_n (pc := 129) dX12_isPenalised_129 rfl rfl ?_
            refine S_iload_n (pc := 130) dX12_isPenalised_130 rfl rfl ?_
            refine S_iconst (pc := 131) dX12_isPenalised_131 ic1 ?_
            refine S_iload (pc := 132) dX12_isPenalised_132 rfl ?_
            refine S_aload_n (pc := 134) dX12_isPenalised_134 rfl rfl ?_
            refine S_iload_n (pc := 135) dX12_isPenalised_135 rfl rfl ?_
            refine S_iload_n (pc := 136) dX12_isPenalised_136 rfl rfl ?_
            refine S_iconst (pc := 137) dX12_isPenalised_137 ic2 ?_
            refine S_callV (As := [.int a1, .int x11, .int (nI 2)]) (mc := 0) (ms := 0) (pc := 138) dX12_isPenalised_138 miX12_s mvX12_s mlX12_445 rfl (sM_0 hs) rfl rfl rfl (RmOK.of rfl) (Q := fun r h => WP _ _ _ _ _ _ _ 141 [some (.ref B), some (.int a1), some (.int w2), some (.int x11), some (.int (-1)), some (.int x37)] (r.toList ++ [.int (-1), .int (nI 1), .int a1, .ref B]) h) (Cl.of miX12_s rfl rfl ?_) (fun _ _ q => q)
            refine S_aload_n (pc := 0) dX12_s_0 rfl rfl ?_
            refine S_getR (pc := 1) dX12_s_1 flX12_148 (sM_0 hs) rfl (rM_44 hs) ?_
            refine S_bipush (pc := 4) dX12_s_4 bp8 ?_
            refine S_sipush (pc := 6) dX12_s_6 sp480 ?_
            refine S_iload_n (pc := 9) dX12_s_9 rfl rfl ?_
            refine S_imul (pc := 10) dX12_s_10 ?_
            refine S_iload_n (pc := 11) dX12_s_11 rfl rfl ?_
            refine S_iadd (pc := 12) dX12_s_12 ?_
            refine S_imul (pc := 13) dX12_s_13 ?_
            refine S_iload_n (pc := 14) dX12_s_14 rfl rfl ?_
            refine S_iadd (pc := 15) dX12_s_15 ?_
            obtain ⟨hb48, H⟩ := H
            refine S_iald (pc := 16) dX12_s_16 (sM_24 hs) hb48 ?_
            refine S_eqi (x := f44 (B + 24) (((nI 8) * (((nI 480) * a1) + x11)) + (nI 2)).toNatClampNeg) ((up2_r (by omega)).trans rfl) ?_
            refine S_ireturn dX12_s_17 rfl ?_
            show WP _ _ _ _ _ _ _ 141 [some (.ref B), some (.int a1), some (.int w2), some (.int x11), some (.int (-1)), some (.int x37)] [.int (f44 (B + 24) (((nI 8) * (((nI 480) * a1) + x11)) + (nI 2)).toNatClampNeg), .int (-1), .int (nI 1), .int a1, .ref B] (sh, (up2 f44 (B + 23) (((((nI 40) * a1) + (nI 14)) + ((nI 6) * (-1))) + (nI 2)).toNatClampNeg x46), g45, fR)
            refine S_callV (As := [.int a1, .int (nI 1), .int (-1), .int (f44 (B + 24) (((nI 8) * (((nI 480) * a1) + x11)) + (nI 2)).toNatClampNeg)]) (mc := 0) (ms := 0) (pc := 141) dX12_isPenalised_141 miX12_writesDown mvX12_writesDown mlX12_504 rfl (sM_0 hs) rfl rfl rfl (RmOK.of rfl) H ?_
            rintro _ _ ⟨f49, g50, rfl, rfl, H⟩
            show WP _ _ _ _ _ _ _ 144 [some (.ref B), some (.int a1), some (.int w2), some (.int x11), some (.int (-1)), some (.int x37)] [] (sh, f49, g50, fR)
            refine S_iconst (pc := 144) dX12_isPenalised_144 ic1 ?_
            exact S_zreturn dX12_isPenalised_145 rfl (Or.inr rfl) H
          · replace H := H.2 hc38
            refine S_iconst (pc := 87) dX12_isPenalised_87 ic0 ?_
            exact S_zreturn dX12_isPenalised_88 rfl (Or.inl rfl) H
        · replace H := H.2 hc34
          refine S_iconst (pc := 68) dX12_isPenalised_68 icm1 ?_
          refine S_goto (pc := 69) (tgt := 79) dX12_isPenalised_69 rfl ?_
          refine S_istore (pc := 79) (L' := [some (.ref B), some (.int a1), some (.int w2), some (.int x11), some (.int (-1)), some (.int (-1))]) dX12_isPenalised_79 (by decide) rfl ?_
          refine S_iload (pc := 81) dX12_isPenalised_81 rfl ?_
          refine S_iconst (pc := 83) dX12_isPenalised_83 icm1 ?_
          refine S_icmp_ne (pc := 84) (tgt := 89) dX12_isPenalised_84 rfl (fun hc51 => by first | exact absurd hc51 (by decide) | exact absurd (by decide) hc51) (fun _ => ?_)
          refine S_iconst (pc := 87) dX12_isPenalised_87 ic0 ?_
          exact S_zreturn dX12_isPenalised_88 rfl (Or.inl rfl) H
set_option maxHeartbeats 2000000 in
set_option maxRecDepth 4000 in
theorem VX12_isPenalised_43 {l : Launch} {G : Gx} {d : Nat} {Q : Option Value → Hp → Prop} {sh : Sh} {fR : FRt} {B : Nat} {f : FI} {g : FL} {a1 : Int32} (hs : StM sh fR B)
    (H : Q (some (.int (nI 0))) (sh, f, g, fR)) :
    LpX12_isPenalised_43 l G d Q sh fR B f g a1 := by
  refine S_iconst (pc := 43) dX12_isPenalised_43 icm1 ?_
  refine S_istore_n (pc := 44) (L' := [some (.ref B), some (.int a1), none, some (.int (-1)), none, none]) dX12_isPenalised_44 rfl (by decide) rfl ?_
  refine S_iload_n (pc := 45) dX12_isPenalised_45 rfl rfl ?_
  refine S_iconst (pc := 46) dX12_isPenalised_46 icm1 ?_
  refine S_icmp_ne (pc := 47) (tgt := 54) dX12_isPenalised_47 rfl (fun hc52 => by first | exact absurd hc52 (by decide) | exact absurd (by decide) hc52) (fun _ => ?_)
  refine S_iconst (pc := 50) dX12_isPenalised_50 icm1 ?_
  refine S_goto (pc := 51) (tgt := 61) dX12_isPenalised_51 rfl ?_
  refine S_istore (pc := 61) (L' := [some (.ref B), some (.int a1), none, some (.int (-1)), some (.int (-1)), none]) dX12_isPenalised_61 (by decide) rfl ?_
  refine S_iload_n (pc := 63) dX12_isPenalised_63 rfl rfl ?_
  refine S_iconst (pc := 64) dX12_isPenalised_64 icm1 ?_
  refine S_icmp_ne (pc := 65) (tgt := 72) dX12_isPenalised_65 rfl (fun hc53 => by first | exact absurd hc53 (by decide) | exact absurd (by decide) hc53) (fun _ => ?_)
  refine S_iconst (pc := 68) dX12_isPenalised_68 icm1 ?_
  refine S_goto (pc := 69) (tgt := 79) dX12_isPenalised_69 rfl ?_
  refine S_istore (pc := 79) (L' := [some (.ref B), some (.int a1), none, some (.int (-1)), some (.int (-1)), some (.int (-1))]) dX12_isPenalised_79 (by decide) rfl ?_
  refine S_iload (pc := 81) dX12_isPenalised_81 rfl ?_
  refine S_iconst (pc := 83) dX12_isPenalised_83 icm1 ?_
  refine S_icmp_ne (pc := 84) (tgt := 89) dX12_isPenalised_84 rfl (fun hc54 => by first | exact absurd hc54 (by decide) | exact absurd (by decide) hc54) (fun _ => ?_)
  refine S_iconst (pc := 87) dX12_isPenalised_87 ic0 ?_
  exact S_zreturn dX12_isPenalised_88 rfl (Or.inl rfl) H
abbrev LpX12_sendsAll_4 (l : Launch) (G : Gx) (d : Nat) (Q : Option Value → Hp → Prop) (sh : Sh) (fR : FRt) (B : Nat) (f : FI) (g : FL) (a1 : Int32) (a2 : Int32) (a3 : Int32) : Prop := WP l G (Zq G 0 0 Q) mX12_sendsAll (rmd (d + 5) 0 0) 0 0 4 [some (.ref B), some (.int a1), some (.int a2), some (.int a3), none, none, none, none, none] [] (sh, f, g, fR)
abbrev LpX12_sendsAll_96 (l : Launch) (G : Gx) (d : Nat) (Q : Option Value → Hp → Prop) (sh : Sh) (fR : FRt) (B : Nat) (f : FI) (g : FL) (a1 : Int32) (a3 : Int32) (a4 : Int32) (a5 : Int32) (a6 : Int32) : Prop := WP l G (Zq G 0 0 Q) mX12_sendsAll (rmd (d + 5) 0 0) 0 0 96 [some (.ref B), some (.int a1), none, some (.int a3), some (.int a4), some (.int a5), some (.int a6), none, none] [] (sh, f, g, fR)
abbrev LpX12_sendsAll_89 (l : Launch) (G : Gx) (d : Nat) (Q : Option Value → Hp → Prop) (sh : Sh) (fR : FRt) (B : Nat) (f : FI) (g : FL) (a1 : Int32) : Prop := WP l G (Zq G 0 0 Q) mX12_sendsAll (rmd (d + 5) 0 0) 0 0 89 [some (.ref B), some (.int a1), none, none, none, none, none, none, none] [] (sh, f, g, fR)
set_option maxHeartbeats 2000000 in
set_option maxRecDepth 4000 in
theorem VX12_sendsAll {l : Launch} {G : Gx} {d : Nat} {Q : Option Value → Hp → Prop} {sh : Sh} {fR : FRt} {B : Nat} {f : FI} {g : FL} {a1 : Int32} (hs : StM sh fR B)
    (H : LpX12_sendsAll_4 l G d Q sh fR B f g a1 (nI 1) (nI 0)) :
    Cl l G (d + 5) 0 0 mX12_sendsAll [.ref B, .int a1] (sh, f, g, fR) Q := by
  refine Cl.of (L0 := [some (.ref B), some (.int a1), none, none, none, none, none, none, none]) miX12_sendsAll rfl rfl ?_
  refine S_iconst (pc := 0) dX12_sendsAll_0 ic1 ?_
  refine S_istore_n (pc := 1) (L' := [some (.ref B), some (.int a1), some (.int (nI 1)), none, none, none, none, none, none]) dX12_sendsAll_1 rfl (by decide) rfl ?_
  refine S_iconst (pc := 2) dX12_sendsAll_2 ic0 ?_
  refine S_istore_n (pc := 3) (L' := [some (.ref B), some (.int a1), some (.int (nI 1)), some (.int (nI 0)), none, none, none, none, none]) dX12_sendsAll_3 rfl (by decide) rfl ?_
  exact H
set_option maxHeartbeats 2000000 in
set_option maxRecDepth 4000 in
theorem VX12_sendsAll_4 {l : Launch} {G : Gx} {d : Nat} {Q : Option Value → Hp → Prop} {sh : Sh} {fR : FRt} {B : Nat} {f : FI} {g : FL} {a1 : Int32} {a2 : Int32} {a3 : Int32} (hs : StM sh fR B)
    (H : ((a2 = 0 → Q none (sh, f, g, fR)) ∧ (¬ a2 = 0 → inb (((nI 40) * a1) + (nI 3)) 880 ∧ inb (f B 13) 2 ∧ (((f (B + 2) (f B 13).toNatClampNeg) ≤ (f (B + 23) (((nI 40) * a1) + (nI 3)).toNatClampNeg) → inb (f B 13) 2 ∧ (∀ w6 : Int32, w6 = f (B + 2) (f B 13).toNatClampNeg → inb (((nI 40) * a1) + (nI 1)) 880 ∧ (∀ w9 : Int32, w9 = f (B + 23) (((nI 40) * a1) + (nI 1)).toNatClampNeg → Cl l G (d + 4) 0 0 mX12_isPiece [.ref B, .int a1] (sh, f, g, fR) (qi sh fR fun x13 f11 g12 => ((¬ x13 = 0 → LpX12_sendsAll_96 l G d Q sh fR B f11 g12 a1 a3 w6 w9 x13) ∧ (x13 = 0 → ((w9 < w6 → LpX12_sendsAll_96 l G d Q sh fR B f11 g12 a1 a3 w6 w9 x13) ∧ (¬ w9 < w6 → ((¬ a3 = 0 → LpX12_sendsAll_89 l G d Q sh fR B f11 g12 a1) ∧ (a3 = 0 → Cl l G (d + 4) 0 0 mX12_isPenalised [.ref B, .int a1] (sh, f11, g12, fR) (qi sh fR fun x19 f17 g18 => ((x19 = 0 → LpX12_sendsAll_89 l G d Q sh fR B f17 g18 a1) ∧ (¬ x19 = 0 → LpX12_sendsAll_4 l G d Q sh fR B f17 g18 a1 (nI 1) (nI 1)))))))))))))) ∧ (¬ (f (B + 2) (f B 13).toNatClampNeg) ≤ (f (B + 23) (((nI 40) * a1) + (nI 3)).toNatClampNeg) → inb (((nI 40) * a1) + (nI 3)) 880 ∧ (∀ w22 : Int32, w22 = f (B + 23) (((nI 40) * a1) + (nI 3)).toNatClampNeg → inb (((nI 40) * a1) + (nI 1)) 880 ∧ (∀ w25 : Int32, w25 = f (B + 23) (((nI 40) * a1) + (nI 1)).toNatClampNeg → Cl l G (d + 4) 0 0 mX12_isPiece [.ref B, .int a1] (sh, f, g, fR) (qi sh fR fun x29 f27 g28 => ((¬ x29 = 0 → LpX12_sendsAll_96 l G d Q sh fR B f27 g28 a1 a3 w22 w25 x29) ∧ (x29 = 0 → ((w25 < w22 → LpX12_sendsAll_96 l G d Q sh fR B f27 g28 a1 a3 w22 w25 x29) ∧ (¬ w25 < w22 → ((¬ a3 = 0 → LpX12_sendsAll_89 l G d Q sh fR B f27 g28 a1) ∧ (a3 = 0 → Cl l G (d + 4) 0 0 mX12_isPenalised [.ref B, .int a1] (sh, f27, g28, fR) (qi sh fR fun x35 f33 g34 => ((x35 = 0 → LpX12_sendsAll_89 l G d Q sh fR B f33 g34 a1) ∧ (¬ x35 = 0 → LpX12_sendsAll_4 l G d Q sh fR B f33 g34 a1 (nI 1) (nI 1)))))))))))))))))) :
    LpX12_sendsAll_4 l G d Q sh fR B f g a1 a2 a3 := by
  refine S_iload_n (pc := 4) dX12_sendsAll_4 rfl rfl ?_
  refine S_if_eq (pc := 5) (tgt := 227) dX12_sendsAll_5 rfl (fun hc1 => ?_) (fun hc1 => ?_)
  · replace H := H.1 hc1
    exact S_vreturn dX12_sendsAll_227 rfl H
  · replace H := H.2 hc1
    refine S_aload_n (pc := 8) dX12_sendsAll_8 rfl rfl ?_
    refine S_iload_n (pc := 9) dX12_sendsAll_9 rfl rfl ?_
    refine S_iconst (pc := 10) dX12_sendsAll_10 ic3 ?_
    refine S_callV (As := [.int a1, .int (nI 3)]) (mc := 0) (ms := 0) (pc := 11) dX12_sendsAll_11 miX12_n mvX12_n mlX12_402 rfl (sM_0 hs) rfl rfl rfl (RmOK.of rfl) (Q := fun r h => WP _ _ _ _ _ _ _ 14 [some (.ref B), some (.int a1), some (.int a2), some (.int a3), none, none, none, none, none] (r.toList ++ []) h) (Cl.of miX12_n rfl rfl ?_) (fun _ _ q => q)
    refine S_aload_n (pc := 0) dX12_n_0 rfl rfl ?_
    refine S_getR (pc := 1) dX12_n_1 flX12_144 (sM_0 hs) rfl (rM_43 hs) ?_
    refine S_bipush (pc := 4) dX12_n_4 bp40 ?_
    refine S_iload_n (pc := 6) dX12_n_6 rfl rfl ?_
    refine S_imul (pc := 7) dX12_n_7 ?_
    refine S_iload_n (pc := 8) dX12_n_8 rfl rfl ?_
    refine S_iadd (pc := 9) dX12_n_9 ?_
    obtain ⟨hb2, H⟩ := H
    refine S_iald (pc := 10) dX12_n_10 (sM_23 hs) hb2 ?_
    refine S_ireturn dX12_n_11 rfl ?_
    show WP _ _ _ _ _ _ _ 14 [some (.ref B), some (.int a1), some (.int a2), some (.int a3), none, none, none, none, none] [.int (f (B + 23) (((nI 40) * a1) + (nI 3)).toNatClampNeg)] (sh, f, g, fR)
    refine S_aload_n (pc := 14) dX12_sendsAll_14 rfl rfl ?_
    refine S_getR (pc := 15) dX12_sendsAll_15 flX12_54 (sM_0 hs) rfl (rM_14 hs) ?_
    refine S_aload_n (pc := 18) dX12_sendsAll_18 rfl rfl ?_
    refine S_get (pc := 19) (v := .int (f B 13)) dX12_sendsAll_19 flX12_51 (sM_0 hs) rfl ?_
    obtain ⟨hb3, H⟩ := H
    refine S_iald (pc := 22) dX12_sendsAll_22 (sM_2 hs) hb3 ?_
    refine S_icmp_ge (pc := 23) (tgt := 35) dX12_sendsAll_23 rfl (fun hc4 => ?_) (fun hc4 => ?_)
    · replace H := H.1 hc4
      refine S_aload_n (pc := 35) dX12_sendsAll_35 rfl rfl ?_
      refine S_getR (pc := 36) dX12_sendsAll_36 flX12_54 (sM_0 hs) rfl (rM_14 hs) ?_
      refine S_aload_n (pc := 39) dX12_sendsAll_39 rfl rfl ?_
      refine S_get (pc := 40) (v := .int (f B 13)) dX12_sendsAll_40 flX12_51 (sM_0 hs) rfl ?_
      obtain ⟨hb5, H⟩ := H
      refine S_iald (pc := 43) dX12_sendsAll_43 (sM_2 hs) hb5 ?_
      refine S_namei (fun w6 e7 => ?_)
      replace H := H w6 e7
      refine S_istore (pc := 44) (L' := [some (.ref B), some (.int a1), some (.int a2), some (.int a3), some (.int w6), none, none, none, none]) dX12_sendsAll_44 (by decide) rfl ?_
      refine S_aload_n (pc := 46) dX12_sendsAll_46 rfl rfl ?_
      refine S_iload_n (pc := 47) dX12_sendsAll_47 rfl rfl ?_
      refine S_iconst (pc := 48) dX12_sendsAll_48 ic1 ?_
      refine S_callV (As := [.int a1, .int (nI 1)]) (mc := 0) (ms := 0) (pc := 49) dX12_sendsAll_49 miX12_n mvX12_n mlX12_402 rfl (sM_0 hs) rfl rfl rfl (RmOK.of rfl) (Q := fun r h => WP _ _ _ _ _ _ _ 52 [some (.ref B), some (.int a1), some (.int a2), some (.int a3), some (.int w6), none, none, none, none] (r.toList ++ []) h) (Cl.of miX12_n rfl rfl ?_) (fun _ _ q => q)
      refine S_aload_n (pc := 0) dX12_n_0 rfl rfl ?_
      refine S_getR (pc := 1) dX12_n_1 flX12_144 (sM_0 hs) rfl (rM_43 hs) ?_
      refine S_bipush (pc := 4) dX12_n_4 bp40 ?_
      refine S_iload_n (pc := 6) dX12_n_6 rfl rfl ?_
      refine S_imul (pc := 7) dX12_n_7 ?_
      refine S_iload_n (pc := 8) dX12_n_8 rfl rfl ?_
      refine S_iadd (pc := 9) dX12_n_9 ?_
      obtain ⟨hb8, H⟩ := H
      refine S_iald (pc := 10) dX12_n_10 (sM_23 hs) hb8 ?_
      refine S_ireturn dX12_n_11 rfl ?_
      show WP _ _ _ _ _ _ _ 52 [some (.ref B), some (.int a1), some (.int a2), some (.int a3), some (.int w6), none, none, none, none] [.int (f (B + 23) (((nI 40) * a1) + (nI 1)).toNatClampNeg)] (sh, f, g, fR)
      refine S_namei (fun w9 e10 => ?_)
      replace H := H w9 e10
      refine S_istore (pc := 52) (L' := [some (.ref B), some (.int a1), some (.int a2), some (.int a3), some (.int w6), some (.int w9), none, none, none]) dX12_sendsAll_52 (by decide) rfl ?_
      refine S_aload_n (pc := 54) dX12_sendsAll_54 rfl rfl ?_
      refine S_iload_n (pc := 55) dX12_sendsAll_55 rfl rfl ?_
      refine S_callV (As := [.int a1]) (mc := 0) (ms := 0) (pc := 56) dX12_sendsAll_56 miX12_isPiece mvX12_isPiece mlX12_534 rfl (sM_0 hs) rfl rfl rfl (RmOK.of rfl) H ?_
      rintro _ _ ⟨x13, f11, g12, rfl, rfl, H⟩
      show WP _ _ _ _ _ _ _ 59 [some (.ref B), some (.int a1), some (.int a2), some (.int a3), some (.int w6), some (.int w9), none, none, none] [.int x13] (sh, f11, g12, fR)
      refine S_istore (pc := 59) (L' := [some (.ref B), some (.int a1), some (.int a2), some (.int a3), some (.int w6), some (.int w9), some (.int x13), none, none]) dX12_sendsAll_59 (by decide) rfl ?_
      refine S_iload (pc := 61) dX12_sendsAll_61 rfl ?_
      refine S_if_ne (pc := 63) (tgt := 96) dX12_sendsAll_63 rfl (fun hc14 => ?_) (fun hc14 => ?_)
      · replace H := H.1 hc14
        exact S_weak (L' := [some (.ref B), some (.int a1), none, some (.int a3), some (.int w6), some (.int w9), some (.int x13), none, none]) (ls_e (ls_e (ls_n (ls_e (ls_e (ls_e (ls_e (ls_e (ls_e ls_0))))))))) H
      · replace H := H.2 hc14
        refine S_iload (pc := 66) dX12_sendsAll_66 rfl ?_
        refine S_iload (pc := 68) dX12_sendsAll_68 rfl ?_
        refine S_icmp_lt (pc := 70) (tgt := 96) dX12_sendsAll_70 rfl (fun hc15 => ?_) (fun hc15 => ?_)
        · replace H := H.1 hc15
          exact S_weak (L' := [some (.ref B), some (.int a1), none, some (.int a3), some (.int w6), some (.int w9), some (.int x13), none, none]) (ls_e (ls_e (ls_n (ls_e (ls_e (ls_e (ls_e (ls_e (ls_e ls_0))))))))) H
        · replace H := H.2 hc15
          refine S_iload_n (pc := 73) dX12_sendsAll_73 rfl rfl ?_
          refine S_if_ne (pc := 74) (tgt := 89) dX12_sendsAll_74 rfl (fun hc16 => ?_) (fun hc16 => ?_)
          · replace H := H.1 hc16
            exact S_weak (L' := [some (.ref B), some (.int a1), none, none, none, none, none, none, none]) (ls_e (ls_e (ls_n (ls_n (ls_n (ls_n (ls_n (ls_e (ls_e ls_0))))))))) H
          · replace H := H.2 hc16
            refine S_aload_n (pc := 77) dX12_sendsAll_77 rfl rfl ?_
            refine S_iload_n (pc := 78) dX12_sendsAll_78 rfl rfl ?_
            refine S_callV (As := [.int a1]) (mc := 0) (ms := 0) (pc := 79) dX12_sendsAll_79 miX12_isPenalised mvX12_isPenalised mlX12_537 rfl (sM_0 hs) rfl rfl rfl (RmOK.of rfl) H ?_
            rintro _ _ ⟨x19, f17, g18, rfl, rfl, H⟩
            show WP _ _ _ _ _ _ _ 82 [some (.ref B), some (.int a1), some (.int a2), some (.int a3), some (.int w6), some (.int w9), some (.int x13), none, none] [.int x19] (sh, f17, g18, fR)
            refine S_if_eq (pc := 82) (tgt := 89) dX12_sendsAll_82 rfl (fun hc20 => ?_) (fun hc20 => ?_)
            · replace H := H.1 hc20
              exact S_weak (L' := [some (.ref B), some (.int a1), none, none, none, none, none, none, none]) (ls_e (ls_e (ls_n (ls_n (ls_n (ls_n (ls_n (ls_e (ls_e ls_0))))))))) H
            · replace H := H.2 hc20
              refine S_iconst (pc := 85) dX12_sendsAll_85 ic1 ?_
              refine S_goto (pc := 86) (tgt := 90) dX12_sendsAll_86 rfl ?_
              refine S_istore_n (pc := 90) (L' := [some (.ref B), some (.int a1), some (.int (nI 1)), some (.int a3), some (.int w6), some (.int w9), some (.int x13), none, none]) dX12_sendsAll_90 rfl (by decide) rfl ?_
              refine S_iconst (pc := 91) dX12_sendsAll_91 ic1 ?_
              refine S_istore_n (pc := 92) (L' := [some (.ref B), some (.int a1), some (.int (nI 1)), some (.int (nI 1)), some (.int w6), some (.int w9), some (.int x13), none, none]) dX12_sendsAll_92 rfl (by decide) rfl ?_
              refine S_goto (pc := 93) (tgt := 4) dX12_sendsAll_93 rfl ?_
              exact S_weak (L' := [some (.ref B), some (.int a1), some (.int (nI 1)), some (.int (nI 1)), none, none, none, none, none]) (ls_e (ls_e (ls_e (ls_e (ls_n (ls_n (ls_n (ls_e (ls_e ls_0))))))))) H
    · replace H := H.2 hc4
      refine S_aload_n (pc := 26) dX12_sendsAll_26 rfl rfl ?_
      refine S_iload_n (pc := 27) dX12_sendsAll_27 rfl rfl ?_
      refine S_iconst (pc := 28) dX12_sendsAll_28 ic3 ?_
      refine S_callV (As := [.int a1, .int (nI 3)]) (mc := 0) (ms := 0) (pc := 29) dX12_sendsAll_29 miX12_n mvX12_n mlX12_402 rfl (sM_0 hs) rfl rfl rfl (RmOK.of rfl) (Q := fun r h => WP _ _ _ _ _ _ _ 32 [some (.ref B), some (.int a1), some (.int a2), some (.int a3), none, none, none, none, none] (r.toList ++ []) h) (Cl.of miX12_n rfl rfl ?_) (fun _ _ q => q)
      refine S_aload_n (pc := 0) dX12_n_0 rfl rfl ?_
      refine S_getR (pc := 1) dX12_n_1 flX12_144 (sM_0 hs) rfl (rM_43 hs) ?_
      refine S_bipush (pc := 4) dX12_n_4 bp40 ?_
      refine S_iload_n (pc := 6) dX12_n_6 rfl rfl ?_
      refine S_imul (pc := 7) dX12_n_7 ?_
      refine S_iload_n (pc := 8) dX12_n_8 rfl rfl ?_
      refine S_iadd (pc := 9) dX12_n_9 ?_
      obtain ⟨hb21, H⟩ := H
      refine S_iald (pc := 10) dX12_n_10 (sM_23 hs) hb21 ?_
      refine S_ireturn dX12_n_11 rfl ?_
      show WP _ _ _ _ _ _ _ 32 [some (.ref B), some (.int a1), some (.int a2), some (.int a3), none, none, none, none, none] [.int (f (B + 23) (((nI 40) * a1) + (nI 3)).toNatClampNeg)] (sh, f, g, fR)
      refine S_goto (pc := 32) (tgt := 44) dX12_sendsAll_32 rfl ?_
      refine S_namei (fun w22 e23 => ?_)
      replace H := H w22 e23
      refine S_istore (pc := 44) (L' := [some (.ref B), some (.int a1), some (.int a2), some (.int a3), some (.int w22), none, none, none, none]) dX12_sendsAll_44 (by decide) rfl ?_
      refine S_aload_n (pc := 46) dX12_sendsAll_46 rfl rfl ?_
      refine S_iload_n (pc := 47) dX12_sendsAll_47 rfl rfl ?_
      refine S_iconst (pc := 48) dX12_sendsAll_48 ic1 ?_
      refine S_callV (As := [.int a1, .int (nI 1)]) (mc := 0) (ms := 0) (pc := 49) dX12_sendsAll_49 miX12_n mvX12_n mlX12_402 rfl (sM_0 hs) rfl rfl rfl (RmOK.of rfl) (Q := fun r h => WP _ _ _ _ _ _ _ 52 [some (.ref B), some (.int a1), some (.int a2), some (.int a3), some (.int w22), none, none, none, none] (r.toList ++ []) h) (Cl.of miX12_n rfl rfl ?_) (fun _ _ q => q)
      refine S_aload_n (pc := 0) dX12_n_0 rfl rfl ?_
      refine S_getR (pc := 1) dX12_n_1 flX12_144 (sM_0 hs) rfl (rM_43 hs) ?_
      refine S_bipush (pc := 4) dX12_n_4 bp40 ?_
      refine S_iload_n (pc := 6) dX12_n_6 rfl rfl ?_
      refine S_imul (pc := 7) dX12_n_7 ?_
      refine S_iload_n (pc := 8) dX12_n_8 rfl rfl ?_
      refine S_iadd (pc := 9) dX12_n_9 ?_
      obtain ⟨hb24, H⟩ := H
      refine S_iald (pc := 10) dX12_n_10 (sM_23 hs) hb24 ?_
      refine S_ireturn dX12_n_11 rfl ?_
      show WP _ _ _ _ _ _ _ 52 [some (.ref B), some (.int a1), some (.int a2), some (.int a3), some (.int w22), none, none, none, none] [.int (f (B + 23) (((nI 40) * a1) + (nI 1)).toNatClampNeg)] (sh, f, g, fR)
      refine S_namei (fun w25 e26 => ?_)
      replace H := H w25 e26
      refine S_istore (pc := 52) (L' := [some (.ref B), some (.int a1), some (.int a2), some (.int a3), some (.int w22), some (.int w25), none, none, none]) dX12_sendsAll_52 (by decide) rfl ?_
      refine S_aload_n (pc := 54) dX12_sendsAll_54 rfl rfl ?_
      refine S_iload_n (pc := 55) dX12_sendsAll_55 rfl rfl ?_
      refine S_callV (As := [.int a1]) (mc := 0) (ms := 0) (pc := 56) dX12_sendsAll_56 miX12_isPiece mvX12_isPiece mlX12_534 rfl (sM_0 hs) rfl rfl rfl (RmOK.of rfl) H ?_
      rintro _ _ ⟨x29, f27, g28, rfl, rfl, H⟩
      show WP _ _ _ _ _ _ _ 59 [some (.ref B), some (.int a1), some (.int a2), some (.int a3), some (.int w22), some (.int w25), none, none, none] [.int x29] (sh, f27, g28, fR)
      refine S_istore (pc := 59) (L' := [some (.ref B), some (.int a1), some (.int a2), some (.int a3), some (.int w22), some (.int w25), some (.int x29), none, none]) dX12_sendsAll_59 (by decide) rfl ?_
      refine S_iload (pc := 61) dX12_sendsAll_61 rfl ?_
      refine S_if_ne (pc := 63) (tgt := 96) dX12_sendsAll_63 rfl (fun hc30 => ?_) (fun hc30 => ?_)
      · replace H := H.1 hc30
        exact S_weak (L' := [some (.ref B), some (.int a1), none, some (.int a3), some (.int w22), some (.int w25), some (.int x29), none, none]) (ls_e (ls_e (ls_n (ls_e (ls_e (ls_e (ls_e (ls_e (ls_e ls_0))))))))) H
      · replace H := H.2 hc30
        refine S_iload (pc := 66) dX12_sendsAll_66 rfl ?_
        refine S_iload (pc := 68) dX12_sendsAll_68 rfl ?_
        refine S_icmp_lt (pc := 70) (tgt := 96) dX12_sendsAll_70 rfl (fun hc31 => ?_) (fun hc31 => ?_)
        · replace H := H.1 hc31
          exact S_weak (L' := [some (.ref B), some (.int a1), none, some (.int a3), some (.int w22), some (.int w25), some (.int x29), none, none]) (ls_e (ls_e (ls_n (ls_e (ls_e (ls_e (ls_e (ls_e (ls_e ls_0))))))))) H
        · replace H := H.2 hc31
          refine S_iload_n (pc := 73) dX12_sendsAll_73 rfl rfl ?_
          refine S_if_ne (pc := 74) (tgt := 89) dX12_sendsAll_74 rfl (fun hc32 => ?_) (fun hc32 => ?_)
          · replace H := H.1 hc32
            exact S_weak (L' := [some (.ref B), some (.int a1), none, none, none, none, none, none, none]) (ls_e (ls_e (ls_n (ls_n (ls_n (ls_n (ls_n (ls_e (ls_e ls_0))))))))) H
          · replace H := H.2 hc32
            refine S_aload_n (pc := 77) dX12_sendsAll_77 rfl rfl ?_
            refine S_iload_n (pc := 78) dX12_sendsAll_78 rfl rfl ?_
            refine S_callV (As := [.int a1]) (mc := 0) (ms := 0) (pc := 79) dX12_sendsAll_79 miX12_isPenalised mvX12_isPenalised mlX12_537 rfl (sM_0 hs) rfl rfl rfl (RmOK.of rfl) H ?_
            rintro _ _ ⟨x35, f33, g34, rfl, rfl, H⟩
            show WP _ _ _ _ _ _ _ 82 [some (.ref B), some (.int a1), some (.int a2), some (.int a3), some (.int w22), some (.int w25), some (.int x29), none, none] [.int x35] (sh, f33, g34, fR)
            refine S_if_eq (pc := 82) (tgt := 89) dX12_sendsAll_82 rfl (fun hc36 => ?_) (fun hc36 => ?_)
            · replace H := H.1 hc36
              exact S_weak (L' := [some (.ref B), some (.int a1), none, none, none, none, none, none, none]) (ls_e (ls_e (ls_n (ls_n (ls_n (ls_n (ls_n (ls_e (ls_e ls_0))))))))) H
            · replace H := H.2 hc36
              refine S_iconst (pc := 85) dX12_sendsAll_85 ic1 ?_
              refine S_goto (pc := 86) (tgt := 90) dX12_sendsAll_86 rfl ?_
              refine S_istore_n (pc := 90) (L' := [some (.ref B), some (.int a1), some (.int (nI 1)), some (.int a3), some (.int w22), some (.int w25), some (.int x29), none, none]) dX12_sendsAll_90 rfl (by decide) rfl ?_
              refine S_iconst (pc := 91) dX12_sendsAll_91 ic1 ?_
              refine S_istore_n (pc := 92) (L' := [some (.ref B), some (.int a1), some (.int (nI 1)), some (.int (nI 1)), some (.int w22), some (.int w25), some (.int x29), none, none]) dX12_sendsAll_92 rfl (by decide) rfl ?_
              refine S_goto (pc := 93) (tgt := 4) dX12_sendsAll_93 rfl ?_
              exact S_weak (L' := [some (.ref B), some (.int a1), some (.int (nI 1)), some (.int (nI 1)), none, none, none, none, none]) (ls_e (ls_e (ls_e (ls_e (ls_n (ls_n (ls_n (ls_e (ls_e ls_0))))))))) H
set_option maxHeartbeats 2000000 in
set_option maxRecDepth 4000 in
theorem VX12_sendsAll_96 {l : Launch} {G : Gx} {d : Nat} {Q : Option Value → Hp → Prop} {sh : Sh} {fR : FRt} {B : Nat} {f : FI} {g : FL} {a1 : Int32} {a3 : Int32} {a4 : Int32} {a5 : Int32} {a6 : Int32} (hs : StM sh fR B)
    (H : Cl l G (d + 4) 0 0 mX12_picked [.ref B, .int a1, .int (-1)] (sh, f, g, fR) (qi sh fR fun x39 f37 g38 => ((x39 = (-1) → LpX12_sendsAll_4 l G d Q sh fR B f37 g38 a1 (nI 0) a3) ∧ (¬ x39 = (-1) → ((a6 = 0 → inb (f37 B 13) 2 ∧ (((f37 (B + 3) (f37 B 13).toNatClampNeg) ≤ (a4 - a5) → inb (f37 B 13) 2 ∧ (∀ w47 : Int32, w47 = f37 (B + 3) (f37 B 13).toNatClampNeg → Cl l G (d + 4) 0 0 mX12_sends [.ref B, .int a1, .int x39, .int a5, .int w47] (sh, f37, g38, fR) (qv sh fR fun f49 g50 => inb (((nI 40) * a1) + (nI 1)) 880 ∧ LpX12_sendsAll_4 l G d Q sh fR B (up2 f49 (B + 23) (((nI 40) * a1) + (nI 1)).toNatClampNeg (a5 + w47)) g50 a1 (nI 1) a3))) ∧ (¬ (f37 (B + 3) (f37 B 13).toNatClampNeg) ≤ (a4 - a5) → (∀ w52 : Int32, w52 = a4 - a5 → Cl l G (d + 4) 0 0 mX12_sends [.ref B, .int a1, .int x39, .int a5, .int w52] (sh, f37, g38, fR) (qv sh fR fun f54 g55 => inb (((nI 40) * a1) + (nI 1)) 880 ∧ LpX12_sendsAll_4 l G d Q sh fR B (up2 f54 (B + 23) (((nI 40) * a1) + (nI 1)).toNatClampNeg (a5 + w52)) g55 a1 (nI 1) a3))))) ∧ (¬ a6 = 0 → inb ((nI 960) * a1) 21120 ∧ inb (((nI 960) * a1) + (nI 1)) 21120 ∧ Cl l G (d + 4) 0 0 mX12_sends [.ref B, .int a1, .int x39, .int (f37 (B + 25) ((nI 960) * a1).toNatClampNeg), .int (f37 (B + 25) (((nI 960) * a1) + (nI 1)).toNatClampNeg)] (sh, f37, g38, fR) (qv sh fR fun f59 g60 => Cl l G (d + 4) 0 0 mX12_shifts [.ref B, .int a1, .int (nI 1)] (sh, f59, g60, fR) (qv sh fR fun f61 g62 => LpX12_sendsAll_4 l G d Q sh fR B f61 g62 a1 (nI 1) a3)))))))) :
    LpX12_sendsAll_96 l G d Q sh fR B f g a1 a3 a4 a5 a6 := by
  refine S_aload_n (pc := 96) dX12_sendsAll_96 rfl rfl ?_
  refine S_iload_n (pc := 97) dX12_sendsAll_97 rfl rfl ?_
  refine S_iconst (pc := 98) dX12_sendsAll_98 icm1 ?_
  refine S_callV (As := [.int a1, .int (-1)]) (mc := 0) (ms := 0) (pc := 99) dX12_sendsAll_99 miX12_picked mvX12_picked mlX12_528 rfl (sM_0 hs) rfl rfl rfl (RmOK.of rfl) H ?_
  rintro _ _ ⟨x39, f37, g38, rfl, rfl, H⟩
  show WP _ _ _ _ _ _ _ 102 [some (.ref B), some (.int a1), none, some (.int a3), some (.int a4), some (.int a5), some (.int a6), none, none] [.int x39] (sh, f37, g38, fR)
  refine S_istore (pc := 102) (L' := [some (.ref B), some (.int a1), none, some (.int a3), some (.int a4), some (.int a5), some (.int a6), some (.int x39), none]) dX12_sendsAll_102 (by decide) rfl ?_
  refine S_iload (pc := 104) dX12_sendsAll_104 rfl ?_
  refine S_iconst (pc := 106) dX12_sendsAll_106 icm1 ?_
  refine S_icmp_eq (pc := 107) (tgt := 114) dX12_sendsAll_107 rfl (fun hc40 => ?_) (fun hc40 => ?_)
  · replace H := H.1 hc40
    refine S_iconst (pc := 114) dX12_sendsAll_114 ic0 ?_
    refine S_istore_n (pc := 115) (L' := [some (.ref B), some (.int a1), some (.int (nI 0)), some (.int a3), some (.int a4), some (.int a5), some (.int a6), some (.int x39), none]) dX12_sendsAll_115 rfl (by decide) rfl ?_
    refine S_iload_n (pc := 116) dX12_sendsAll_116 rfl rfl ?_
    refine S_if_ne (pc := 117) (tgt := 123) dX12_sendsAll_117 rfl (fun hc41 => by first | exact absurd hc41 (by decide) | exact absurd (by decide) hc41) (fun _ => ?_)
    refine S_goto (pc := 120) (tgt := 4) dX12_sendsAll_120 rfl ?_
    exact S_weak (L' := [some (.ref B), some (.int a1), some (.int (nI 0)), some (.int a3), none, none, none, none, none]) (ls_e (ls_e (ls_e (ls_e (ls_n (ls_n (ls_n (ls_n (ls_e ls_0))))))))) H
  · replace H := H.2 hc40
    refine S_iconst (pc := 110) dX12_sendsAll_110 ic1 ?_
    refine S_goto (pc := 111) (tgt := 115) dX12_sendsAll_111 rfl ?_
    refine S_istore_n (pc := 115) (L' := [some (.ref B), some (.int a1), some (.int (nI 1)), some (.int a3), some (.int a4), some (.int a5), some (.int a6), some (.int x39), none]) dX12_sendsAll_115 rfl (by decide) rfl ?_
    refine S_iload_n (pc := 116) dX12_sendsAll_116 rfl rfl ?_
    refine S_if_ne (pc := 117) (tgt := 123) dX12_sendsAll_117 rfl (fun _ => ?_) (fun hc42 => by first | exact absurd (by decide) hc42 | exact absurd hc42 (by decide))
    refine S_iload (pc := 123) dX12_sendsAll_123 rfl ?_
    refine S_if_eq (pc := 125) (tgt := 166) dX12_sendsAll_125 rfl (fun hc43 => ?_) (fun hc43 => ?_)
    · replace H := H.1 hc43
      refine S_iload (pc := 166) dX12_sendsAll_166 rfl ?_
      refine S_iload (pc := 168) dX12_sendsAll_168 rfl ?_
      refine S_isub (pc := 170) dX12_sendsAll_170 ?_
      refine S_aload_n (pc := 171) dX12_sendsAll_171 rfl rfl ?_
      refine S_getR (pc := 172) dX12_sendsAll_172 flX12_57 (sM_0 hs) rfl (rM_15 hs) ?_
      refine S_aload_n (pc := 175) dX12_sendsAll_175 rfl rfl ?_
      refine S_get (pc := 176) (v := .int (f37 B 13)) dX12_sendsAll_176 flX12_51 (sM_0 hs) rfl ?_
      obtain ⟨hb44, H⟩ := H
      refine S_iald (pc := 179) dX12_sendsAll_179 (sM_3 hs) hb44 ?_
      refine S_icmp_ge (pc := 180) (tgt := 191) dX12_sendsAll_180 rfl (fun hc45 => ?_) (fun hc45 => ?_)
      · replace H := H.1 hc45
        refine S_aload_n (pc := 191) dX12_sendsAll_191 rfl rfl ?_
        refine S_getR (pc := 192) dX12_sendsAll_192 flX12_57 (sM_0 hs) rfl (rM_15 hs) ?_
        refine S_aload_n (pc := 195) dX12_sendsAll_195 rfl rfl ?_
        refine S_get (pc := 196) (v := .int (f37 B 13)) dX12_sendsAll_196 flX12_51 (sM_0 hs) rfl ?_
        obtain ⟨hb46, H⟩ := H
        refine S_iald (pc := 199) dX12_sendsAll_199 (sM_3 hs) hb46 ?_
        refine S_namei (fun w47 e48 => ?_)
        replace H := H w47 e48
        refine S_istore (pc := 200) (L' := [some (.ref B), some (.int a1), some (.int (nI 1)), some (.int a3), some (.int a4), some (.int a5), some (.int a6), some (.int x39), some (.int w47)]) dX12_sendsAll_200 (by decide) rfl ?_
        refine S_aload_n (pc := 202) dX12_sendsAll_202 rfl rfl ?_
        refine S_iload_n (pc := 203) dX12_sendsAll_203 rfl rfl ?_
        refine S_iload (pc := 204) dX12_sendsAll_204 rfl ?_
        refine S_iload (pc := 206) dX12_sendsAll_206 rfl ?_
        refine S_iload (pc := 208) dX12_sendsAll_208 rfl ?_
        refine S_callV (As := [.int a1, .int x39, .int a5, .int w47]) (mc := 0) (ms := 0) (pc := 210) dX12_sendsAll_210 miX12_sends mvX12_sends mlX12_531 rfl (sM_0 hs) rfl rfl rfl (RmOK.of rfl) H ?_
        rintro _ _ ⟨f49, g50, rfl, rfl, H⟩
        show WP _ _ _ _ _ _ _ 213 [some (.ref B), some (.int a1), some (.int (nI 1)), some (.int a3), some (.int a4), some (.int a5), some (.int a6), some (.int x39), some (.int w47)] [] (sh, f49, g50, fR)
        refine S_aload_n (pc := 213) dX12_sendsAll_213 rfl rfl ?_
        refine S_iload_n (pc := 214) dX12_sendsAll_214 rfl rfl ?_
        refine S_iconst (pc := 215) dX12_sendsAll_215 ic1 ?_
        refine S_iload (pc := 216) dX12_sendsAll_216 rfl ?_
        refine S_iload (pc := 218) dX12_sendsAll_218 rfl ?_
        refine S_iadd (pc := 220) dX12_sendsAll_220 ?_
        refine S_callV (As := [.int a1, .int (nI 1), .int (a5 + w47)]) (mc := 0) (ms := 0) (pc := 221) dX12_sendsAll_221 miX12_sets mvX12_sets mlX12_405 rfl (sM_0 hs) rfl rfl rfl (RmOK.of rfl) (Q := fun r h => WP _ _ _ _ _ _ _ 224 [some (.ref B), some (.int a1), some (.int (nI 1)), some (.int a3), some (.int a4), some (.int a5), some (.int a6), some (.int x39), some (.int w47)] (r.toList ++ []) h) (Cl.of miX12_sets rfl rfl ?_) (fun _ _ q => q)
        refine S_aload_n (pc := 0) dX12_sets_0 rfl rfl ?_
        refine S_getR (pc := 1) dX12_sets_1 flX12_144 (sM_0 hs) rfl (rM_43 hs) ?_
        refine S_bipush (pc := 4) dX12_sets_4 bp40 ?_
        refine S_iload_n (pc := 6) dX12_sets_6 rfl rfl ?_
        refine S_imul (pc := 7) dX12_sets_7 ?_
        refine S_iload_n (pc := 8) dX12_sets_8 rfl rfl ?_
        refine S_iadd (pc := 9) dX12_sets_9 ?_
        refine S_iload_n (pc := 10) dX12_sets_10 rfl rfl ?_
        obtain ⟨hb51, H⟩ := H
        refine S_iast (pc := 11) dX12_sets_11 (sM_23 hs) (Nat.succ_pos _) hb51 ?_
        refine S_vreturn dX12_sets_12 rfl ?_
        show WP _ _ _ _ _ _ _ 224 [some (.ref B), some (.int a1), some (.int (nI 1)), some (.int a3), some (.int a4), some (.int a5), some (.int a6), some (.int x39), some (.int w47)] [] (sh, (up2 f49 (B + 23) (((nI 40) * a1) + (nI 1)).toNatClampNeg (a5 + w47)), g50, fR)
        refine S_goto (pc := 224) (tgt := 4) dX12_sendsAll_224 rfl ?_
        exact S_weak (L' := [some (.ref B), some (.int a1), some (.int (nI 1)), some (.int a3), none, none, none, none, none]) (ls_e (ls_e (ls_e (ls_e (ls_n (ls_n (ls_n (ls_n (ls_n ls_0))))))))) H
      · replace H := H.2 hc45
        refine S_iload (pc := 183) dX12_sendsAll_183 rfl ?_
        refine S_iload (pc := 185) dX12_sendsAll_185 rfl ?_
        refine S_isub (pc := 187) dX12_sendsAll_187 ?_
        refine S_goto (pc := 188) (tgt := 200) dX12_sendsAll_188 rfl ?_
        refine S_namei (fun w52 e53 => ?_)
        replace H := H w52 e53
        refine S_istore (pc := 200) (L' := [some (.ref B), some (.int a1), some (.int (nI 1)), some (.int a3), some (.int a4), some (.int a5), some (.int a6), some (.int x39), some (.int w52)]) dX12_sendsAll_200 (by decide) rfl ?_
        refine S_aload_n (pc := 202) dX12_sendsAll_202 rfl rfl ?_
        refine S_iload_n (pc := 203) dX12_sendsAll_203 rfl rfl ?_
        refine S_iload (pc := 204) dX12_sendsAll_204 rfl ?_
        refine S_iload (pc := 206) dX12_sendsAll_206 rfl ?_
        refine S_iload (pc := 208) dX12_sendsAll_208 rfl ?_
        refine S_callV (As := [.int a1, .int x39, .int a5, .int w52]) (mc := 0) (ms := 0) (pc := 210) dX12_sendsAll_210 miX12_sends mvX12_sends mlX12_531 rfl (sM_0 hs) rfl rfl rfl (RmOK.of rfl) H ?_
        rintro _ _ ⟨f54, g55, rfl, rfl, H⟩
        show WP _ _ _ _ _ _ _ 213 [some (.ref B), some (.int a1), some (.int (nI 1)), some (.int a3), some (.int a4), some (.int a5), some (.int a6), some (.int x39), some (.int w52)] [] (sh, f54, g55, fR)
        refine S_aload_n (pc := 213) dX12_sendsAll_213 rfl rfl ?_
        refine S_iload_n (pc := 214) dX12_sendsAll_214 rfl rfl ?_
        refine S_iconst (pc := 215) dX12_sendsAll_215 ic1 ?_
        refine S_iload (pc := 216) dX12_sendsAll_216 rfl ?_
        refine S_iload (pc := 218) dX12_sendsAll_218 rfl ?_
        refine S_iadd (pc := 220) dX12_sendsAll_220 ?_
        refine S_callV (As := [.int a1, .int (nI 1), .int (a5 + w52)]) (mc := 0) (ms := 0) (pc := 221) dX12_sendsAll_221 miX12_sets mvX12_sets mlX12_405 rfl (sM_0 hs) rfl rfl rfl (RmOK.of rfl) (Q := fun r h => WP _ _ _ _ _ _ _ 224 [some (.ref B), some (.int a1), some (.int (nI 1)), some (.int a3), some (.int a4), some (.int a5), some (.int a6), some (.int x39), some (.int w52)] (r.toList ++ []) h) (Cl.of miX12_sets rfl rfl ?_) (fun _ _ q => q)
        refine S_aload_n (pc := 0) dX12_sets_0 rfl rfl ?_
        refine S_getR (pc := 1) dX12_sets_1 flX12_144 (sM_0 hs) rfl (rM_43 hs) ?_
        refine S_bipush (pc := 4) dX12_sets_4 bp40 ?_
        refine S_iload_n (pc := 6) dX12_sets_6 rfl rfl ?_
        refine S_imul (pc := 7) dX12_sets_7 ?_
        refine S_iload_n (pc := 8) dX12_sets_8 rfl rfl ?_
        refine S_iadd (pc := 9) dX12_sets_9 ?_
        refine S_iload_n (pc := 10) dX12_sets_10 rfl rfl ?_
        obtain ⟨hb56, H⟩ := H
        refine S_iast (pc := 11) dX12_sets_11 (sM_23 hs) (Nat.succ_pos _) hb56 ?_
        refine S_vreturn dX12_sets_12 rfl ?_
        show WP _ _ _ _ _ _ _ 224 [some (.ref B), some (.int a1), some (.int (nI 1)), some (.int a3), some (.int a4), some (.int a5), some (.int a6), some (.int x39), some (.int w52)] [] (sh, (up2 f54 (B + 23) (((nI 40) * a1) + (nI 1)).toNatClampNeg (a5 + w52)), g55, fR)
        refine S_goto (pc := 224) (tgt := 4) dX12_sendsAll_224 rfl ?_
        exact S_weak (L' := [some (.ref B), some (.int a1), some (.int (nI 1)), some (.int a3), none, none, none, none, none]) (ls_e (ls_e (ls_e (ls_e (ls_n (ls_n (ls_n (ls_n (ls_n ls_0))))))))) H
    · replace H := H.2 hc43
      refine S_aload_n (pc := 128) dX12_sendsAll_128 rfl rfl ?_
      refine S_iload_n (pc := 129) dX12_sendsAll_129 rfl rfl ?_
      refine S_iload (pc := 130) dX12_sendsAll_130 rfl ?_
      refine S_aload_n (pc := 132) dX12_sendsAll_132 rfl rfl ?_
      refine S_getR (pc := 133) dX12_sendsAll_133 flX12_151 (sM_0 hs) rfl (rM_45 hs) ?_
      refine S_sipush (pc := 136) dX12_sendsAll_136 sp960 ?_
      refine S_iload_n (pc := 139) dX12_sendsAll_139 rfl rfl ?_
      refine S_imul (pc := 140) dX12_sendsAll_140 ?_
      obtain ⟨hb57, H⟩ := H
      refine S_iald (pc := 141) dX12_sendsAll_141 (sM_25 hs) hb57 ?_
      refine S_aload_n (pc := 142) dX12_sendsAll_142 rfl rfl ?_
      refine S_getR (pc := 143) dX12_sendsAll_143 flX12_151 (sM_0 hs) rfl (rM_45 hs) ?_
      refine S_sipush (pc := 146) dX12_sendsAll_146 sp960 ?_
      refine S_iload_n (pc := 149) dX12_sendsAll_149 rfl rfl ?_
      refine S_imul (pc := 150) dX12_sendsAll_150 ?_
      refine S_iconst (pc := 151) dX12_sendsAll_151 ic1 ?_
      refine S_iadd (pc := 152) dX12_sendsAll_152 ?_
      obtain ⟨hb58, H⟩ := H
      refine S_iald (pc := 153) dX12_sendsAll_153 (sM_25 hs) hb58 ?_
      refine S_callV (As := [.int a1, .int x39, .int (f37 (B + 25) ((nI 960) * a1).toNatClampNeg), .int (f37 (B + 25) (((nI 960) * a1) + (nI 1)).toNatClampNeg)]) (mc := 0) (ms := 0) (pc := 154) dX12_sendsAll_154 miX12_sends mvX12_sends mlX12_531 rfl (sM_0 hs) rfl rfl rfl (RmOK.of rfl) H ?_
      rintro _ _ ⟨f59, g60, rfl, rfl, H⟩
      show WP _ _ _ _ _ _ _ 157 [some (.ref B), some (.int a1), some (.int (nI 1)), some (.int a3), some (.int a4), some (.int a5), some (.int a6), some (.int x39), none] [] (sh, f59, g60, fR)
      refine S_aload_n (pc := 157) dX12_sendsAll_157 rfl rfl ?_
      refine S_iload_n (pc := 158) dX12_sendsAll_158 rfl rfl ?_
      refine S_iconst (pc := 159) dX12_sendsAll_159 ic1 ?_
      refine S_callV (As := [.int a1, .int (nI 1)]) (mc := 0) (ms := 0) (pc := 160) dX12_sendsAll_160 miX12_shifts mvX12_shifts mlX12_522 rfl (sM_0 hs) rfl rfl rfl (RmOK.of rfl) H ?_
      rintro _ _ ⟨f61, g62, rfl, rfl, H⟩
      show WP _ _ _ _ _ _ _ 163 [some (.ref B), some (.int a1), some (.int (nI 1)), some (.int a3), some (.int a4), some (.int a5), some (.int a6), some (.int x39), none] [] (sh, f61, g62, fR)
      refine S_goto (pc := 163) (tgt := 4) dX12_sendsAll_163 rfl ?_
      exact S_weak (L' := [some (.ref B), some (.int a1), some (.int (nI 1)), some (.int a3), none, none, none, none, none]) (ls_e (ls_e (ls_e (ls_e (ls_n (ls_n (ls_n (ls_n (ls_e ls_0))))))))) H
set_option maxHeartbeats 2000000 in
set_option maxRecDepth 4000 in
theorem VX12_sendsAll_89 {l : Launch} {G : Gx} {d : Nat} {Q : Option Value → Hp → Prop} {sh : Sh} {fR : FRt} {B : Nat} {f : FI} {g : FL} {a1 : Int32} (hs : StM sh fR B)
    (H : LpX12_sendsAll_4 l G d Q sh fR B f g a1 (nI 0) (nI 1)) :
    LpX12_sendsAll_89 l G d Q sh fR B f g a1 := by
  refine S_iconst (pc := 89) dX12_sendsAll_89 ic0 ?_
  refine S_istore_n (pc := 90) (L' := [some (.ref B), some (.int a1), some (.int (nI 0)), none, none, none, none, none, none]) dX12_sendsAll_90 rfl (by decide) rfl ?_
  refine S_iconst (pc := 91) dX12_sendsAll_91 ic1 ?_
  refine S_istore_n (pc := 92) (L' := [some (.ref B), some (.int a1), some (.int (nI 0)), some (.int (nI 1)), none, none, none, none, none]) dX12_sendsAll_92 rfl (by decide) rfl ?_
  refine S_goto (pc := 93) (tgt := 4) dX12_sendsAll_93 rfl ?_
  exact H
