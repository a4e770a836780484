/-- an end that may have made cells: the class stands as it stood -/
def qg (A p : Nat) (K : Sh → FI → FL → FRt → Prop) : Option Value → Hp → Prop := fun r h => ∃ (sh : Sh) (f : FI) (g : FL) (fR : FRt), r = none ∧ h = (sh, f, g, fR) ∧ StA sh fR A ∧ fR A 5 = some p ∧ fR (A + 40) 7 = some p ∧ StPl sh fR p ∧ K sh f g fR
abbrev LgX11_ticks_33 (l : Launch) (G : Gx) (d : Nat) (Q : Option Value → Hp → Prop) (sh : Sh) (fR : FRt) (A p : Nat) (f : FI) (g : FL) (a1 : Int32) (a2 : Int32) (a3 : Int32) : Prop := WP l G (Zq G 32 8095 Q) mX11_ticks (rmd (d + 6) 32 8095) 0 0 33 [some (.ref A), some (.int a1), some (.int a2), some (.int a3)] [] (sh, f, g, fR)
set_option maxHeartbeats 2000000 in
set_option maxRecDepth 4000 in
theorem VGX11_ticks {l : Launch} {G : Gx} {d : Nat} {Q : Option Value → Hp → Prop} {sh : Sh} {fR : FRt} {A p : Nat} {f : FI} {g : FL} {a1 : Int32} (hs : StA sh fR A) (hp : fR A 5 = some p) (hn : fR (A + 40) 7 = some p) (hP : StPl sh fR p)
    (H : ((a1 < (nI 1) → Q (some (.int (-1))) (sh, (up2 f (A + 2) 2 ((f (A + 2) 2) + (nI 1))), g, fR)) ∧ (¬ a1 < (nI 1) → (((nI 100) < a1 → Q (some (.int (-1))) (sh, (up2 f (A + 2) 2 ((f (A + 2) 2) + (nI 1))), g, fR)) ∧ (¬ (nI 100) < a1 → Cl l G (d + 5) 0 0 mX11_canGo [.ref A, .int a1] (sh, f, g, fR) (qi sh fR fun x5 f3 g4 => ((¬ x5 = 0 → Cl l G (d + 5) 32 8095 mX11_beginAct [.ref A] (sh, f3, g4, fR) (qg A p fun sh9 f10 g11 fR12 => LgX11_ticks_33 l G d Q sh9 fR12 A p f10 g11 a1 (nI 0) (nI 0))) ∧ (x5 = 0 → Q (some (.int (-1))) (sh, (up2 f3 (A + 2) 2 ((f3 (A + 2) 2) + (nI 1))), g4, fR))))))))) :
    Cl l G (d + 6) 32 8095 mX11_ticks [.ref A, .int a1] (sh, f, g, fR) Q := by
  refine Cl.of (L0 := [some (.ref A), some (.int a1), none, none]) miX11_ticks rfl rfl ?_
  refine S_iload_n (pc := 0) dX11_ticks_0 rfl rfl ?_
  refine S_iconst (pc := 1) dX11_ticks_1 ic1 ?_
  refine S_icmp_lt (pc := 2) (tgt := 19) dX11_ticks_2 rfl (fun hc1 => ?_) (fun hc1 => ?_)
  · replace H := H.1 hc1
    refine S_aload_n (pc := 19) dX11_ticks_19 rfl rfl ?_
    refine S_iconst (pc := 20) dX11_ticks_20 ic2 ?_
    refine S_callV (As := [.int (nI 2)]) (mc := 0) (ms := 0) (pc := 21) dX11_ticks_21 miX11_refuse mvX11_refuse mlX11_70 rfl (sA_0 hs) rfl rfl rfl (RmOK.of rfl) (Q := fun r h => WP _ _ _ _ _ _ _ 24 [some (.ref A), some (.int a1), none, none] (r.toList ++ []) h) (Cl.of miX11_refuse rfl rfl ?_) (fun _ _ q => q)
    refine S_aload_n (pc := 0) dX11_refuse_0 rfl rfl ?_
    refine S_getR (pc := 1) dX11_refuse_1 flX11_13 (sA_0 hs) rfl (rA_0_2 hs) ?_
    refine S_iload_n (pc := 4) dX11_refuse_4 rfl rfl ?_
    refine S_dup2 (pc := 5) dX11_refuse_5 rfl rfl ?_
    refine S_iald (pc := 6) dX11_refuse_6 (sA_2 hs) (vp_in_nI (by decide) (by decide)) ?_
    show WP _ _ _ _ _ _ _ 7 _ (.int (f (A + 2) 2) :: _) _
    refine S_iconst (pc := 7) dX11_refuse_7 ic1 ?_
    refine S_iadd (pc := 8) dX11_refuse_8 ?_
    refine S_iast (pc := 9) dX11_refuse_9 (sA_2 hs) (Nat.succ_pos _) (vp_in_nI (by decide) (by decide)) ?_
    show WP _ _ _ _ _ _ _ 10 _ _ (sh, (up2 f (A + 2) 2 ((f (A + 2) 2) + (nI 1))), g, fR)
    refine S_iconst (pc := 10) dX11_refuse_10 icm1 ?_
    refine S_ireturn dX11_refuse_11 rfl ?_
    show WP _ _ _ _ _ _ _ 24 [some (.ref A), some (.int a1), none, none] [.int (-1)] (sh, (up2 f (A + 2) 2 ((f (A + 2) 2) + (nI 1))), g, fR)
    exact S_ireturn dX11_ticks_24 rfl H
  · replace H := H.2 hc1
    refine S_iload_n (pc := 5) dX11_ticks_5 rfl rfl ?_
    refine S_bipush (pc := 6) dX11_ticks_6 bp100 ?_
    refine S_icmp_gt (pc := 8) (tgt := 19) dX11_ticks_8 rfl (fun hc2 => ?_) (fun hc2 => ?_)
    · replace H := H.1 hc2
      refine S_aload_n (pc := 19) dX11_ticks_19 rfl rfl ?_
      refine S_iconst (pc := 20) dX11_ticks_20 ic2 ?_
      refine S_callV (As := [.int (nI 2)]) (mc := 0) (ms := 0) (pc := 21) dX11_ticks_21 miX11_refuse mvX11_refuse mlX11_70 rfl (sA_0 hs) rfl rfl rfl (RmOK.of rfl) (Q := fun r h => WP _ _ _ _ _ _ _ 24 [some (.ref A), some (.int a1), none, none] (r.toList ++ []) h) (Cl.of miX11_refuse rfl rfl ?_) (fun _ _ q => q)
      refine S_aload_n (pc := 0) dX11_refuse_0 rfl rfl ?_
      refine S_getR (pc := 1) dX11_refuse_1 flX11_13 (sA_0 hs) rfl (rA_0_2 hs) ?_
      refine S_iload_n (pc := 4) dX11_refuse_4 rfl rfl ?_
      refine S_dup2 (pc := 5) dX11_refuse_5 rfl rfl ?_
      refine S_iald (pc := 6) dX11_refuse_6 (sA_2 hs) (vp_in_nI (by decide) (by decide)) ?_
      show WP _ _ _ _ _ _ _ 7 _ (.int (f (A + 2) 2) :: _) _
      refine S_iconst (pc := 7) dX11_refuse_7 ic1 ?_
      refine S_iadd (pc := 8) dX11_refuse_8 ?_
      refine S_iast (pc := 9) dX11_refuse_9 (sA_2 hs) (Nat.succ_pos _) (vp_in_nI (by decide) (by decide)) ?_
      show WP _ _ _ _ _ _ _ 10 _ _ (sh, (up2 f (A + 2) 2 ((f (A + 2) 2) + (nI 1))), g, fR)
      refine S_iconst (pc := 10) dX11_refuse_10 icm1 ?_
      refine S_ireturn dX11_refuse_11 rfl ?_
      show WP _ _ _ _ _ _ _ 24 [some (.ref A), some (.int a1), none, none] [.int (-1)] (sh, (up2 f (A + 2) 2 ((f (A + 2) 2) + (nI 1))), g, fR)
      exact S_ireturn dX11_ticks_24 rfl H
    · replace H := H.2 hc2
      refine S_aload_n (pc := 11) dX11_ticks_11 rfl rfl ?_
      refine S_iload_n (pc := 12) dX11_ticks_12 rfl rfl ?_
      refine S_callV (As := [.int a1]) (mc := 0) (ms := 0) (pc := 13) dX11_ticks_13 miX11_canGo mvX11_canGo mlX11_248 rfl (sA_0 hs) rfl rfl rfl (RmOK.of rfl) H ?_
      rintro _ _ ⟨x5, f3, g4, rfl, rfl, H⟩
      show WP _ _ _ _ _ _ _ 16 [some (.ref A), some (.int a1), none, none] [.int x5] (sh, f3, g4, fR)
      refine S_if_ne (pc := 16) (tgt := 25) dX11_ticks_16 rfl (fun hc6 => ?_) (fun hc6 => ?_)
      · replace H := H.1 hc6
        refine S_aload_n (pc := 25) dX11_ticks_25 rfl rfl ?_
        refine S_callV (As := []) (mc := 32) (ms := 8095) (kc := 0) (ks := 0) (pc := 26) dX11_ticks_26 miX11_beginAct mvX11_beginAct mlX11_321 rfl (sA_0 hs) rfl rfl rfl (RmOK.of rfl) H ?_
        rintro _ _ ⟨sh9, f10, g11, fR12, rfl, rfl, hs, hp, hn, hP, H⟩
        show WP _ _ _ _ _ 0 0 29 [some (.ref A), some (.int a1), none, none] [] (sh9, f10, g11, fR12)
        refine S_iconst (pc := 29) dX11_ticks_29 ic0 ?_
        refine S_istore_n (pc := 30) (L' := [some (.ref A), some (.int a1), some (.int (nI 0)), none]) dX11_ticks_30 rfl (by decide) rfl ?_
        refine S_iconst (pc := 31) dX11_ticks_31 ic0 ?_
        refine S_istore_n (pc := 32) (L' := [some (.ref A), some (.int a1), some (.int (nI 0)), some (.int (nI 0))]) dX11_ticks_32 rfl (by decide) rfl ?_
        exact H
      · replace H := H.2 hc6
        refine S_aload_n (pc := 19) dX11_ticks_19 rfl rfl ?_
        refine S_iconst (pc := 20) dX11_ticks_20 ic2 ?_
        refine S_callV (As := [.int (nI 2)]) (mc := 0) (ms := 0) (pc := 21) dX11_ticks_21 miX11_refuse mvX11_refuse mlX11_70 rfl (sA_0 hs) rfl rfl rfl (RmOK.of rfl) (Q := fun r h => WP _ _ _ _ _ _ _ 24 [some (.ref A), some (.int a1), none, none] (r.toList ++ []) h) (Cl.of miX11_refuse rfl rfl ?_) (fun _ _ q => q)
        refine S_aload_n (pc := 0) dX11_refuse_0 rfl rfl ?_
        refine S_getR (pc := 1) dX11_refuse_1 flX11_13 (sA_0 hs) rfl (rA_0_2 hs) ?_
        refine S_iload_n (pc := 4) dX11_refuse_4 rfl rfl ?_
        refine S_dup2 (pc := 5) dX11_refuse_5 rfl rfl ?_
        refine S_iald (pc := 6) dX11_refuse_6 (sA_2 hs) (vp_in_nI (by decide) (by decide)) ?_
        show WP _ _ _ _ _ _ _ 7 _ (.int (f3 (A + 2) 2) :: _) _
        refine S_iconst (pc := 7) dX11_refuse_7 ic1 ?_
        refine S_iadd (pc := 8) dX11_refuse_8 ?_
        refine S_iast (pc := 9) dX11_refuse_9 (sA_2 hs) (Nat.succ_pos _) (vp_in_nI (by decide) (by decide)) ?_
        show WP _ _ _ _ _ _ _ 10 _ _ (sh, (up2 f3 (A + 2) 2 ((f3 (A + 2) 2) + (nI 1))), g4, fR)
        refine S_iconst (pc := 10) dX11_refuse_10 icm1 ?_
        refine S_ireturn dX11_refuse_11 rfl ?_
        show WP _ _ _ _ _ _ _ 24 [some (.ref A), some (.int a1), none, none] [.int (-1)] (sh, (up2 f3 (A + 2) 2 ((f3 (A + 2) 2) + (nI 1))), g4, fR)
        exact S_ireturn dX11_ticks_24 rfl H
set_option maxHeartbeats 2000000 in
set_option maxRecDepth 4000 in
theorem VGX11_ticks_33 {l : Launch} {G : Gx} {d : Nat} {Q : Option Value → Hp → Prop} {sh : Sh} {fR : FRt} {A p : Nat} {f : FI} {g : FL} {a1 : Int32} {a2 : Int32} {a3 : Int32} (hs : StA sh fR A) (hp : fR A 5 = some p) (hn : fR (A + 40) 7 = some p) (hP : StPl sh fR p)
    (H : ((a1 ≤ a3 → Q (some (.int a2)) (sh, f, g, fR)) ∧ (¬ a1 ≤ a3 → Cl l G (d + 5) 0 0 mX10_step [.ref (A + 40), .null] (sh, f, g, fR) (qv sh fR fun f14 g15 => (∀ w16 : Int32, w16 = a2 + (f14 (A + 40) 13) → LgX11_ticks_33 l G d Q sh fR A p f14 g15 a1 w16 (a3 + nI 1)))))) :
    LgX11_ticks_33 l G d Q sh fR A p f g a1 a2 a3 := by
  refine S_iload_n (pc := 33) dX11_ticks_33 rfl rfl ?_
  refine S_iload_n (pc := 34) dX11_ticks_34 rfl rfl ?_
  refine S_icmp_ge (pc := 35) (tgt := 62) dX11_ticks_35 rfl (fun hc13 => ?_) (fun hc13 => ?_)
  · replace H := H.1 hc13
    refine S_iload_n (pc := 62) dX11_ticks_62 rfl rfl ?_
    exact S_ireturn dX11_ticks_63 rfl H
  · replace H := H.2 hc13
    refine S_aload_n (pc := 38) dX11_ticks_38 rfl rfl ?_
    refine S_getR (pc := 39) dX11_ticks_39 flX11_47 (sA_0 hs) rfl (rA_0_8 hs) ?_
    refine S_null (pc := 42) dX11_ticks_42 ?_
    refine S_callV (As := [.null]) (mc := 0) (ms := 0) (pc := 43) dX11_ticks_43 miX10_step mvX10_step mlX11_255 rfl (sW_0 hs.2.2.2.1) rfl rfl rfl (RmOK.of rfl) H ?_
    rintro _ _ ⟨f14, g15, rfl, rfl, H⟩
    show WP _ _ _ _ _ _ _ 46 [some (.ref A), some (.int a1), some (.int a2), some (.int a3)] [] (sh, f14, g15, fR)
    refine S_iload_n (pc := 46) dX11_ticks_46 rfl rfl ?_
    refine S_aload_n (pc := 47) dX11_ticks_47 rfl rfl ?_
    refine S_getR (pc := 48) dX11_ticks_48 flX11_47 (sA_0 hs) rfl (rA_0_8 hs) ?_
    refine S_get (pc := 51) (v := .int (f14 (A + 40) 13)) dX11_ticks_51 flX11_275 (sW_0 hs.2.2.2.1) rfl ?_
    refine S_iadd (pc := 54) dX11_ticks_54 ?_
    refine S_namei (fun w16 e17 => ?_)
    replace H := H w16 e17
    refine S_istore_n (pc := 55) (L' := [some (.ref A), some (.int a1), some (.int w16), some (.int a3)]) dX11_ticks_55 rfl (by decide) rfl ?_
    refine S_iinc (pc := 56) (v := nI 1) (L' := [some (.ref A), some (.int a1), some (.int w16), some (.int (a3 + nI 1))]) dX11_ticks_56 rfl ic1 rfl ?_
    refine S_goto (pc := 59) (tgt := 33) dX11_ticks_59 rfl ?_
    exact H
abbrev LgX11_chance_33 (l : Launch) (G : Gx) (d : Nat) (Q : Option Value → Hp → Prop) (sh : Sh) (fR : FRt) (A p : Nat) (f : FI) (g : FL) (a1 : Int32) (a2 : Int32) (a3 : Int32) : Prop := WP l G (Zq G 32 8095 Q) mX11_chance (rmd (d + 6) 32 8095) 0 0 33 [some (.ref A), some (.int a1), some (.int a2), some (.int a3)] [] (sh, f, g, fR)
set_option maxHeartbeats 2000000 in
set_option maxRecDepth 4000 in
theorem VGX11_chance {l : Launch} {G : Gx} {d : Nat} {Q : Option Value → Hp → Prop} {sh : Sh} {fR : FRt} {A p : Nat} {f : FI} {g : FL} {a1 : Int32} (hs : StA sh fR A) (hp : fR A 5 = some p) (hn : fR (A + 40) 7 = some p) (hP : StPl sh fR p)
    (H : ((a1 < (nI 1) → Q (some (.int (-1))) (sh, (up2 f (A + 2) 2 ((f (A + 2) 2) + (nI 1))), g, fR)) ∧ (¬ a1 < (nI 1) → (((nI 100) < a1 → Q (some (.int (-1))) (sh, (up2 f (A + 2) 2 ((f (A + 2) 2) + (nI 1))), g, fR)) ∧ (¬ (nI 100) < a1 → Cl l G (d + 5) 0 0 mX11_canGo [.ref A, .int a1] (sh, f, g, fR) (qi sh fR fun x5 f3 g4 => ((¬ x5 = 0 → Cl l G (d + 5) 32 8095 mX11_beginAct [.ref A] (sh, f3, g4, fR) (qg A p fun sh9 f10 g11 fR12 => LgX11_chance_33 l G d Q sh9 fR12 A p f10 g11 a1 (nI 0) (nI 0))) ∧ (x5 = 0 → Q (some (.int (-1))) (sh, (up2 f3 (A + 2) 2 ((f3 (A + 2) 2) + (nI 1))), g4, fR))))))))) :
    Cl l G (d + 6) 32 8095 mX11_chance [.ref A, .int a1] (sh, f, g, fR) Q := by
  refine Cl.of (L0 := [some (.ref A), some (.int a1), none, none]) miX11_chance rfl rfl ?_
  refine S_iload_n (pc := 0) dX11_chance_0 rfl rfl ?_
  refine S_iconst (pc := 1) dX11_chance_1 ic1 ?_
  refine S_icmp_lt (pc := 2) (tgt := 19) dX11_chance_2 rfl (fun hc1 => ?_) (fun hc1 => ?_)
  · replace H := H.1 hc1
    refine S_aload_n (pc := 19) dX11_chance_19 rfl rfl ?_
    refine S_iconst (pc := 20) dX11_chance_20 ic2 ?_
    refine S_callV (As := [.int (nI 2)]) (mc := 0) (ms := 0) (pc := 21) dX11_chance_21 miX11_refuse mvX11_refuse mlX11_70 rfl (sA_0 hs) rfl rfl rfl (RmOK.of rfl) (Q := fun r h => WP _ _ _ _ _ _ _ 24 [some (.ref A), some (.int a1), none, none] (r.toList ++ []) h) (Cl.of miX11_refuse rfl rfl ?_) (fun _ _ q => q)
    refine S_aload_n (pc := 0) dX11_refuse_0 rfl rfl ?_
    refine S_getR (pc := 1) dX11_refuse_1 flX11_13 (sA_0 hs) rfl (rA_0_2 hs) ?_
    refine S_iload_n (pc := 4) dX11_refuse_4 rfl rfl ?_
    refine S_dup2 (pc := 5) dX11_refuse_5 rfl rfl ?_
    refine S_iald (pc := 6) dX11_refuse_6 (sA_2 hs) (vp_in_nI (by decide) (by decide)) ?_
    show WP _ _ _ _ _ _ _ 7 _ (.int (f (A + 2) 2) :: _) _
    refine S_iconst (pc := 7) dX11_refuse_7 ic1 ?_
    refine S_iadd (pc := 8) dX11_refuse_8 ?_
    refine S_iast (pc := 9) dX11_refuse_9 (sA_2 hs) (Nat.succ_pos _) (vp_in_nI (by decide) (by decide)) ?_
    show WP _ _ _ _ _ _ _ 10 _ _ (sh, (up2 f (A + 2) 2 ((f (A + 2) 2) + (nI 1))), g, fR)
    refine S_iconst (pc := 10) dX11_refuse_10 icm1 ?_
    refine S_ireturn dX11_refuse_11 rfl ?_
    show WP _ _ _ _ _ _ _ 24 [some (.ref A), some (.int a1), none, none] [.int (-1)] (sh, (up2 f (A + 2) 2 ((f (A + 2) 2) + (nI 1))), g, fR)
    exact S_ireturn dX11_chance_24 rfl H
  · replace H := H.2 hc1
    refine S_iload_n (pc := 5) dX11_chance_5 rfl rfl ?_
    refine S_bipush (pc := 6) dX11_chance_6 bp100 ?_
    refine S_icmp_gt (pc := 8) (tgt := 19) dX11_chance_8 rfl (fun hc2 => ?_) (fun hc2 => ?_)
    · replace H := H.1 hc2
      refine S_aload_n (pc := 19) dX11_chance_19 rfl rfl ?_
      refine S_iconst (pc := 20) dX11_chance_20 ic2 ?_
      refine S_callV (As := [.int (nI 2)]) (mc := 0) (ms := 0) (pc := 21) dX11_chance_21 miX11_refuse mvX11_refuse mlX11_70 rfl (sA_0 hs) rfl rfl rfl (RmOK.of rfl) (Q := fun r h => WP _ _ _ _ _ _ _ 24 [some (.ref A), some (.int a1), none, none] (r.toList ++ []) h) (Cl.of miX11_refuse rfl rfl ?_) (fun _ _ q => q)
      refine S_aload_n (pc := 0) dX11_refuse_0 rfl rfl ?_
      refine S_getR (pc := 1) dX11_refuse_1 flX11_13 (sA_0 hs) rfl (rA_0_2 hs) ?_
      refine S_iload_n (pc := 4) dX11_refuse_4 rfl rfl ?_
      refine S_dup2 (pc := 5) dX11_refuse_5 rfl rfl ?_
      refine S_iald (pc := 6) dX11_refuse_6 (sA_2 hs) (vp_in_nI (by decide) (by decide)) ?_
      show WP _ _ _ _ _ _ _ 7 _ (.int (f (A + 2) 2) :: _) _
      refine S_iconst (pc := 7) dX11_refuse_7 ic1 ?_
      refine S_iadd (pc := 8) dX11_refuse_8 ?_
      refine S_iast (pc := 9) dX11_refuse_9 (sA_2 hs) (Nat.succ_pos _) (vp_in_nI (by decide) (by decide)) ?_
      show WP _ _ _ _ _ _ _ 10 _ _ (sh, (up2 f (A + 2) 2 ((f (A + 2) 2) + (nI 1))), g, fR)
      refine S_iconst (pc := 10) dX11_refuse_10 icm1 ?_
      refine S_ireturn dX11_refuse_11 rfl ?_
      show WP _ _ _ _ _ _ _ 24 [some (.ref A), some (.int a1), none, none] [.int (-1)] (sh, (up2 f (A + 2) 2 ((f (A + 2) 2) + (nI 1))), g, fR)
      exact S_ireturn dX11_chance_24 rfl H
    · replace H := H.2 hc2
      refine S_aload_n (pc := 11) dX11_chance_11 rfl rfl ?_
      refine S_iload_n (pc := 12) dX11_chance_12 rfl rfl ?_
      refine S_callV (As := [.int a1]) (mc := 0) (ms := 0) (pc := 13) dX11_chance_13 miX11_canGo mvX11_canGo mlX11_248 rfl (sA_0 hs) rfl rfl rfl (RmOK.of rfl) H ?_
      rintro _ _ ⟨x5, f3, g4, rfl, rfl, H⟩
      show WP _ _ _ _ _ _ _ 16 [some (.ref A), some (.int a1), none, none] [.int x5] (sh, f3, g4, fR)
      refine S_if_ne (pc := 16) (tgt := 25) dX11_chance_16 rfl (fun hc6 => ?_) (fun hc6 => ?_)
      · replace H := H.1 hc6
        refine S_aload_n (pc := 25) dX11_chance_25 rfl rfl ?_
        refine S_callV (As := []) (mc := 32) (ms := 8095) (kc := 0) (ks := 0) (pc := 26) dX11_chance_26 miX11_beginAct mvX11_beginAct mlX11_321 rfl (sA_0 hs) rfl rfl rfl (RmOK.of rfl) H ?_
        rintro _ _ ⟨sh9, f10, g11, fR12, rfl, rfl, hs, hp, hn, hP, H⟩
        show WP _ _ _ _ _ 0 0 29 [some (.ref A), some (.int a1), none, none] [] (sh9, f10, g11, fR12)
        refine S_iconst (pc := 29) dX11_chance_29 ic0 ?_
        refine S_istore_n (pc := 30) (L' := [some (.ref A), some (.int a1), some (.int (nI 0)), none]) dX11_chance_30 rfl (by decide) rfl ?_
        refine S_iconst (pc := 31) dX11_chance_31 ic0 ?_
        refine S_istore_n (pc := 32) (L' := [some (.ref A), some (.int a1), some (.int (nI 0)), some (.int (nI 0))]) dX11_chance_32 rfl (by decide) rfl ?_
        exact H
      · replace H := H.2 hc6
        refine S_aload_n (pc := 19) dX11_chance_19 rfl rfl ?_
        refine S_iconst (pc := 20) dX11_chance_20 ic2 ?_
        refine S_callV (As := [.int (nI 2)]) (mc := 0) (ms := 0) (pc := 21) dX11_chance_21 miX11_refuse mvX11_refuse mlX11_70 rfl (sA_0 hs) rfl rfl rfl (RmOK.of rfl) (Q := fun r h => WP _ _ _ _ _ _ _ 24 [some (.ref A), some (.int a1), none, none] (r.toList ++ []) h) (Cl.of miX11_refuse rfl rfl ?_) (fun _ _ q => q)
        refine S_aload_n (pc := 0) dX11_refuse_0 rfl rfl ?_
        refine S_getR (pc := 1) dX11_refuse_1 flX11_13 (sA_0 hs) rfl (rA_0_2 hs) ?_
        refine S_iload_n (pc := 4) dX11_refuse_4 rfl rfl ?_
        refine S_dup2 (pc := 5) dX11_refuse_5 rfl rfl ?_
        refine S_iald (pc := 6) dX11_refuse_6 (sA_2 hs) (vp_in_nI (by decide) (by decide)) ?_
        show WP _ _ _ _ _ _ _ 7 _ (.int (f3 (A + 2) 2) :: _) _
        refine S_iconst (pc := 7) dX11_refuse_7 ic1 ?_
        refine S_iadd (pc := 8) dX11_refuse_8 ?_
        refine S_iast (pc := 9) dX11_refuse_9 (sA_2 hs) (Nat.succ_pos _) (vp_in_nI (by decide) (by decide)) ?_
        show WP _ _ _ _ _ _ _ 10 _ _ (sh, (up2 f3 (A + 2) 2 ((f3 (A + 2) 2) + (nI 1))), g4, fR)
        refine S_iconst (pc := 10) dX11_refuse_10 icm1 ?_
        refine S_ireturn dX11_refuse_11 rfl ?_
        show WP _ _ _ _ _ _ _ 24 [some (.ref A), some (.int a1), none, none] [.int (-1)] (sh, (up2 f3 (A + 2) 2 ((f3 (A + 2) 2) + (nI 1))), g4, fR)
        exact S_ireturn dX11_chance_24 rfl H
set_option maxHeartbeats 2000000 in
set_option maxRecDepth 4000 in
theorem VGX11_chance_33 {l : Launch} {G : Gx} {d : Nat} {Q : Option Value → Hp → Prop} {sh : Sh} {fR : FRt} {A p : Nat} {f : FI} {g : FL} {a1 : Int32} {a2 : Int32} {a3 : Int32} (hs : StA sh fR A) (hp : fR A 5 = some p) (hn : fR (A + 40) 7 = some p) (hP : StPl sh fR p)
    (H : ((a1 ≤ a3 → Q (some (.int a2)) (sh, f, g, fR)) ∧ (¬ a1 ≤ a3 → Cl l G (d + 5) 0 0 mX10_step [.ref (A + 40), .ref (A + 3)] (sh, f, g, fR) (qv sh fR fun f14 g15 => (∀ w16 : Int32, w16 = a2 + (f14 (A + 40) 14) → LgX11_chance_33 l G d Q sh fR A p f14 g15 a1 w16 (a3 + nI 1)))))) :
    LgX11_chance_33 l G d Q sh fR A p f g a1 a2 a3 := by
  refine S_iload_n (pc := 33) dX11_chance_33 rfl rfl ?_
  refine S_iload_n (pc := 34) dX11_chance_34 rfl rfl ?_
  refine S_icmp_ge (pc := 35) (tgt := 65) dX11_chance_35 rfl (fun hc13 => ?_) (fun hc13 => ?_)
  · replace H := H.1 hc13
    refine S_iload_n (pc := 65) dX11_chance_65 rfl rfl ?_
    exact S_ireturn dX11_chance_66 rfl H
  · replace H := H.2 hc13
    refine S_aload_n (pc := 38) dX11_chance_38 rfl rfl ?_
    refine S_getR (pc := 39) dX11_chance_39 flX11_47 (sA_0 hs) rfl (rA_0_8 hs) ?_
    refine S_aload_n (pc := 42) dX11_chance_42 rfl rfl ?_
    refine S_getR (pc := 43) dX11_chance_43 flX11_19 (sA_0 hs) rfl (rA_0_3 hs) ?_
    refine S_callV (As := [.ref (A + 3)]) (mc := 0) (ms := 0) (pc := 46) dX11_chance_46 miX10_step mvX10_step mlX11_255 rfl (sW_0 hs.2.2.2.1) rfl rfl rfl (RmOK.of rfl) H ?_
    rintro _ _ ⟨f14, g15, rfl, rfl, H⟩
    show WP _ _ _ _ _ _ _ 49 [some (.ref A), some (.int a1), some (.int a2), some (.int a3)] [] (sh, f14, g15, fR)
    refine S_iload_n (pc := 49) dX11_chance_49 rfl rfl ?_
    refine S_aload_n (pc := 50) dX11_chance_50 rfl rfl ?_
    refine S_getR (pc := 51) dX11_chance_51 flX11_47 (sA_0 hs) rfl (rA_0_8 hs) ?_
    refine S_get (pc := 54) (v := .int (f14 (A + 40) 14)) dX11_chance_54 flX11_324 (sW_0 hs.2.2.2.1) rfl ?_
    refine S_iadd (pc := 57) dX11_chance_57 ?_
    refine S_namei (fun w16 e17 => ?_)
    replace H := H w16 e17
    refine S_istore_n (pc := 58) (L' := [some (.ref A), some (.int a1), some (.int w16), some (.int a3)]) dX11_chance_58 rfl (by decide) rfl ?_
    refine S_iinc (pc := 59) (v := nI 1) (L' := [some (.ref A), some (.int a1), some (.int w16), some (.int (a3 + nI 1))]) dX11_chance_59 rfl ic1 rfl ?_
    refine S_goto (pc := 62) (tgt := 33) dX11_chance_62 rfl ?_
    exact H
set_option maxHeartbeats 2000000 in
set_option maxRecDepth 4000 in
theorem VGX11_join {l : Launch} {G : Gx} {d : Nat} {Q : Option Value → Hp → Prop} {sh : Sh} {fR : FRt} {A p : Nat} {f : FI} {g : FL} {a1 : Int32} {a2 : Int32} (hs : StA sh fR A) (hp : fR A 5 = some p) (hn : fR (A + 40) 7 = some p) (hP : StPl sh fR p)
    (H : Cl l G (d + 3) 0 0 mX11_isPath [.ref A, .int a1] (sh, f, g, fR) (qi sh fR fun x3 f1 g2 => ((x3 = 0 → Q (some (.int (nI 0))) (sh, (up2 f1 (A + 2) 3 ((f1 (A + 2) 3) + (nI 1))), g2, fR)) ∧ (¬ x3 = 0 → ((a2 < 0 → Q (some (.int (nI 0))) (sh, (up2 f1 (A + 2) 3 ((f1 (A + 2) 3) + (nI 1))), g2, fR)) ∧ (¬ a2 < 0 → (((nI 999) < a2 → Q (some (.int (nI 0))) (sh, (up2 f1 (A + 2) 3 ((f1 (A + 2) 3) + (nI 1))), g2, fR)) ∧ (¬ (nI 999) < a2 → inb a1 4 ∧ (∃ r8, fR (A + 40 + 1) a1.toNatClampNeg = some r8 ∧ sh[r8]? = some (8, 8) ∧ 0 < r8 ∧ Cl l G (d + 3) 0 0 mX8_isNew [.ref r8] (sh, f1, g2, fR) (qi sh fR fun x14 f12 g13 => ((¬ x14 = 0 → Cl l G (d + 3) 32 8095 mX11_beginAct [.ref A] (sh, f12, g13, fR) (qg A p fun sh18 f19 g20 fR21 => Cl l G (d + 3) 0 0 mX10_tryToken [.ref (A + 40), .int a1, .int a2] (sh18, f19, g20, fR21) (qi sh18 fR21 fun x24 f22 g23 => (x24 = 0 ∨ x24 = 1) ∧ Q (some (.int x24)) (sh18, f22, g23, fR21)))) ∧ (x14 = 0 → Q (some (.int (nI 0))) (sh, (up2 f12 (A + 2) 3 ((f12 (A + 2) 3) + (nI 1))), g13, fR))))))))))))) :
    Cl l G (d + 4) 32 8095 mX11_join [.ref A, .int a1, .int a2] (sh, f, g, fR) Q := by
  refine Cl.of (L0 := [some (.ref A), some (.int a1), some (.int a2)]) miX11_join rfl rfl ?_
  refine S_aload_n (pc := 0) dX11_join_0 rfl rfl ?_
  refine S_iload_n (pc := 1) dX11_join_1 rfl rfl ?_
  refine S_callV (As := [.int a1]) (mc := 0) (ms := 0) (pc := 2) dX11_join_2 miX11_isPath mvX11_isPath mlX11_175 rfl (sA_0 hs) rfl rfl rfl (RmOK.of rfl) H ?_
  rintro _ _ ⟨x3, f1, g2, rfl, rfl, H⟩
  show WP _ _ _ _ _ _ _ 5 [some (.ref A), some (.int a1), some (.int a2)] [.int x3] (sh, f1, g2, fR)
  refine S_if_eq (pc := 5) (tgt := 34) dX11_join_5 rfl (fun hc4 => ?_) (fun hc4 => ?_)
  · replace H := H.1 hc4
    refine S_aload_n (pc := 34) dX11_join_34 rfl rfl ?_
    refine S_callV (As := []) (mc := 0) (ms := 0) (pc := 35) dX11_join_35 miX11_refusePath mvX11_refusePath mlX11_333 rfl (sA_0 hs) rfl rfl rfl (RmOK.of rfl) (Q := fun r h => WP _ _ _ _ _ _ _ 38 [some (.ref A), some (.int a1), some (.int a2)] (r.toList ++ []) h) (Cl.of miX11_refusePath rfl rfl ?_) (fun _ _ q => q)
    refine S_aload_n (pc := 0) dX11_refusePath_0 rfl rfl ?_
    refine S_getR (pc := 1) dX11_refusePath_1 flX11_13 (sA_0 hs) rfl (rA_0_2 hs) ?_
    refine S_iconst (pc := 4) dX11_refusePath_4 ic3 ?_
    refine S_dup2 (pc := 5) dX11_refusePath_5 rfl rfl ?_
    refine S_iald (pc := 6) dX11_refusePath_6 (sA_2 hs) (vp_in_nI (by decide) (by decide)) ?_
    show WP _ _ _ _ _ _ _ 7 _ (.int (f1 (A + 2) 3) :: _) _
    refine S_iconst (pc := 7) dX11_refusePath_7 ic1 ?_
    refine S_iadd (pc := 8) dX11_refusePath_8 ?_
    refine S_iast (pc := 9) dX11_refusePath_9 (sA_2 hs) (Nat.succ_pos _) (vp_in_nI (by decide) (by decide)) ?_
    show WP _ _ _ _ _ _ _ 10 _ _ (sh, (up2 f1 (A + 2) 3 ((f1 (A + 2) 3) + (nI 1))), g2, fR)
    refine S_iconst (pc := 10) dX11_refusePath_10 ic0 ?_
    refine S_zreturn dX11_refusePath_11 rfl (Or.inl rfl) ?_
    show WP _ _ _ _ _ _ _ 38 [some (.ref A), some (.int a1), some (.int a2)] [.int (nI 0)] (sh, (up2 f1 (A + 2) 3 ((f1 (A + 2) 3) + (nI 1))), g2, fR)
    exact S_zreturn dX11_join_38 rfl (Or.inl rfl) H
  · replace H := H.2 hc4
    refine S_iload_n (pc := 8) dX11_join_8 rfl rfl ?_
    refine S_if_lt (pc := 9) (tgt := 34) dX11_join_9 rfl (fun hc5 => ?_) (fun hc5 => ?_)
    · replace H := H.1 hc5
      refine S_aload_n (pc := 34) dX11_join_34 rfl rfl ?_
      refine S_callV (As := []) (mc := 0) (ms := 0) (pc := 35) dX11_join_35 miX11_refusePath mvX11_refusePath mlX11_333 rfl (sA_0 hs) rfl rfl rfl (RmOK.of rfl) (Q := fun r h => WP _ _ _ _ _ _ _ 38 [some (.ref A), some (.int a1), some (.int a2)] (r.toList ++ []) h) (Cl.of miX11_refusePath rfl rfl ?_) (fun _ _ q => q)
      refine S_aload_n (pc := 0) dX11_refusePath_0 rfl rfl ?_
      refine S_getR (pc := 1) dX11_refusePath_1 flX11_13 (sA_0 hs) rfl (rA_0_2 hs) ?_
      refine S_iconst (pc := 4) dX11_refusePath_4 ic3 ?_
      refine S_dup2 (pc := 5) dX11_refusePath_5 rfl rfl ?_
      refine S_iald (pc := 6) dX11_refusePath_6 (sA_2 hs) (vp_in_nI (by decide) (by decide)) ?_
      show WP _ _ _ _ _ _ _ 7 _ (.int (f1 (A + 2) 3) :: _) _
      refine S_iconst (pc := 7) dX11_refusePath_7 ic1 ?_
      refine S_iadd (pc := 8) dX11_refusePath_8 ?_
      refine S_iast (pc := 9) dX11_refusePath_9 (sA_2 hs) (Nat.succ_pos _) (vp_in_nI (by decide) (by decide)) ?_
      show WP _ _ _ _ _ _ _ 10 _ _ (sh, (up2 f1 (A + 2) 3 ((f1 (A + 2) 3) + (nI 1))), g2, fR)
      refine S_iconst (pc := 10) dX11_refusePath_10 ic0 ?_
      refine S_zreturn dX11_refusePath_11 rfl (Or.inl rfl) ?_
      show WP _ _ _ _ _ _ _ 38 [some (.ref A), some (.int a1), some (.int a2)] [.int (nI 0)] (sh, (up2 f1 (A + 2) 3 ((f1 (A + 2) 3) + (nI 1))), g2, fR)
      exact S_zreturn dX11_join_38 rfl (Or.inl rfl) H
    · replace H := H.2 hc5
      refine S_iload_n (pc := 12) dX11_join_12 rfl rfl ?_
      refine S_sipush (pc := 13) dX11_join_13 sp999 ?_
      refine S_icmp_gt (pc := 16) (tgt := 34) dX11_join_16 rfl (fun hc6 => ?_) (fun hc6 => ?_)
      · replace H := H.1 hc6
        refine S_aload_n (pc := 34) dX11_join_34 rfl rfl ?_
        refine S_callV (As := []) (mc := 0) (ms := 0) (pc := 35) dX11_join_35 miX11_refusePath mvX11_refusePath mlX11_333 rfl (sA_0 hs) rfl rfl rfl (RmOK.of rfl) (Q := fun r h => WP _ _ _ _ _ _ _ 38 [some (.ref A), some (.int a1), some (.int a2)] (r.toList ++ []) h) (Cl.of miX11_refusePath rfl rfl ?_) (fun _ _ q => q)
        refine S_aload_n (pc := 0) dX11_refusePath_0 rfl rfl ?_
        refine S_getR (pc := 1) dX11_refusePath_1 flX11_13 (sA_0 hs) rfl (rA_0_2 hs) ?_
        refine S_iconst (pc := 4) dX11_refusePath_4 ic3 ?_
        refine S_dup2 (pc := 5) dX11_refusePath_5 rfl rfl ?_
        refine S_iald (pc := 6) dX11_refusePath_6 (sA_2 hs) (vp_in_nI (by decide) (by decide)) ?_
        show WP _ _ _ _ _ _ _ 7 _ (.int (f1 (A + 2) 3) :: _) _
        refine S_iconst (pc := 7) dX11_refusePath_7 ic1 ?_
        refine S_iadd (pc := 8) dX11_refusePath_8 ?_
        refine S_iast (pc := 9) dX11_refusePath_9 (sA_2 hs) (Nat.succ_pos _) (vp_in_nI (by decide) (by decide)) ?_
        show WP _ _ _ _ _ _ _ 10 _ _ (sh, (up2 f1 (A + 2) 3 ((f1 (A + 2) 3) + (nI 1))), g2, fR)
        refine S_iconst (pc := 10) dX11_refusePath_10 ic0 ?_
        refine S_zreturn dX11_refusePath_11 rfl (Or.inl rfl) ?_
        show WP _ _ _ _ _ _ _ 38 [some (.ref A), some (.int a1), some (.int a2)] [.int (nI 0)] (sh, (up2 f1 (A + 2) 3 ((f1 (A + 2) 3) + (nI 1))), g2, fR)
        exact S_zreturn dX11_join_38 rfl (Or.inl rfl) H
      · replace H := H.2 hc6
        refine S_aload_n (pc := 19) dX11_join_19 rfl rfl ?_
        refine S_getR (pc := 20) dX11_join_20 flX11_47 (sA_0 hs) rfl (rA_0_8 hs) ?_
        refine S_getR (pc := 23) dX11_join_23 flX11_186 (sW_0 hs.2.2.2.1) rfl (rW_0_0 hs.2.2.2.1) ?_
        refine S_iload_n (pc := 26) dX11_join_26 rfl rfl ?_
        obtain ⟨hb7, H⟩ := H
        obtain ⟨r8, e9, s10, p11, H⟩ := H
        refine S_aald24 (pc := 27) dX11_join_27 (sW_1 hs.2.2.2.1) hb7 e9 ?_
        refine S_callV (As := []) (mc := 0) (ms := 0) (pc := 28) dX11_join_28 miX8_isNew mvX8_isNew mlX11_330 rfl s10 rfl rfl rfl (RmOK.of rfl) H ?_
        rintro _ _ ⟨x14, f12, g13, rfl, rfl, H⟩
        show WP _ _ _ _ _ _ _ 31 [some (.ref A), some (.int a1), some (.int a2)] [.int x14] (sh, f12, g13, fR)
        refine S_if_ne (pc := 31) (tgt := 39) dX11_join_31 rfl (fun hc15 => ?_) (fun hc15 => ?_)
        · replace H := H.1 hc15
          refine S_aload_n (pc := 39) dX11_join_39 rfl rfl ?_
          refine S_callV (As := []) (mc := 32) (ms := 8095) (kc := 0) (ks := 0) (pc := 40) dX11_join_40 miX11_beginAct mvX11_beginAct mlX11_321 rfl (sA_0 hs) rfl rfl rfl (RmOK.of rfl) H ?_
          rintro _ _ ⟨sh18, f19, g20, fR21, rfl, rfl, hs, hp, hn, hP, H⟩
          show WP _ _ _ _ _ 0 0 43 [some (.ref A), some (.int a1), some (.int a2)] [] (sh18, f19, g20, fR21)
          refine S_aload_n (pc := 43) dX11_join_43 rfl rfl ?_
          refine S_getR (pc := 44) dX11_join_44 flX11_47 (sA_0 hs) rfl (rA_0_8 hs) ?_
          refine S_iload_n (pc := 47) dX11_join_47 rfl rfl ?_
          refine S_iload_n (pc := 48) dX11_join_48 rfl rfl ?_
          refine S_callV (As := [.int a1, .int a2]) (mc := 0) (ms := 0) (pc := 49) dX11_join_49 miX10_tryToken mvX10_tryToken mlX11_336 rfl (sW_0 hs.2.2.2.1) rfl rfl rfl (RmOK.of rfl) H ?_
          rintro _ _ ⟨x24, f22, g23, rfl, rfl, H⟩
          show WP _ _ _ _ _ _ _ 52 [some (.ref A), some (.int a1), some (.int a2)] [.int x24] (sh18, f22, g23, fR21)
          obtain ⟨hc25, H⟩ := H
          exact S_zreturn dX11_join_52 rfl hc25 H
        · replace H := H.2 hc15
          refine S_aload_n (pc := 34) dX11_join_34 rfl rfl ?_
          refine S_callV (As := []) (mc := 0) (ms := 0) (pc := 35) dX11_join_35 miX11_refusePath mvX11_refusePath mlX11_333 rfl (sA_0 hs) rfl rfl rfl (RmOK.of rfl) (Q := fun r h => WP _ _ _ _ _ _ _ 38 [some (.ref A), some (.int a1), some (.int a2)] (r.toList ++ []) h) (Cl.of miX11_refusePath rfl rfl ?_) (fun _ _ q => q)
          refine S_aload_n (pc := 0) dX11_refusePath_0 rfl rfl ?_
          refine S_getR (pc := 1) dX11_refusePath_1 flX11_13 (sA_0 hs) rfl (rA_0_2 hs) ?_
          refine S_iconst (pc := 4) dX11_refusePath_4 ic3 ?_
          refine S_dup2 (pc := 5) dX11_refusePath_5 rfl rfl ?_
          refine S_iald (pc := 6) dX11_refusePath_6 (sA_2 hs) (vp_in_nI (by decide) (by decide)) ?_
          show WP _ _ _ _ _ _ _ 7 _ (.int (f12 (A + 2) 3) :: _) _
          refine S_iconst (pc := 7) dX11_refusePath_7 ic1 ?_
          refine S_iadd (pc := 8) dX11_refusePath_8 ?_
          refine S_iast (pc := 9) dX11_refusePath_9 (sA_2 hs) (Nat.succ_pos _) (vp_in_nI (by decide) (by decide)) ?_
          show WP _ _ _ _ _ _ _ 10 _ _ (sh, (up2 f12 (A + 2) 3 ((f12 (A + 2) 3) + (nI 1))), g13, fR)
          refine S_iconst (pc := 10) dX11_refusePath_10 ic0 ?_
          refine S_zreturn dX11_refusePath_11 rfl (Or.inl rfl) ?_
          show WP _ _ _ _ _ _ _ 38 [some (.ref A), some (.int a1), some (.int a2)] [.int (nI 0)] (sh, (up2 f12 (A + 2) 3 ((f12 (A + 2) 3) + (nI 1))), g13, fR)
          exact S_zreturn dX11_join_38 rfl (Or.inl rfl) H
set_option maxHeartbeats 2000000 in
set_option maxRecDepth 4000 in
theorem VGX11_kill {l : Launch} {G : Gx} {d : Nat} {Q : Option Value → Hp → Prop} {sh : Sh} {fR : FRt} {A p : Nat} {f : FI} {g : FL} {a1 : Int32} (hs : StA sh fR A) (hp : fR A 5 = some p) (hn : fR (A + 40) 7 = some p) (hP : StPl sh fR p)
    (H : Cl l G (d + 3) 0 0 mX11_isPath [.ref A, .int a1] (sh, f, g, fR) (qi sh fR fun x3 f1 g2 => ((x3 = 0 → Q (some (.int (nI 0))) (sh, (up2 f1 (A + 2) 3 ((f1 (A + 2) 3) + (nI 1))), g2, fR)) ∧ (¬ x3 = 0 → inb a1 4 ∧ (∃ r6, fR (A + 40 + 1) a1.toNatClampNeg = some r6 ∧ sh[r6]? = some (8, 8) ∧ 0 < r6 ∧ Cl l G (d + 3) 0 0 mX8_isAlive [.ref r6] (sh, f1, g2, fR) (qi sh fR fun x12 f10 g11 => ((¬ x12 = 0 → Cl l G (d + 3) 32 8095 mX11_beginAct [.ref A] (sh, f10, g11, fR) (qg A p fun sh16 f17 g18 fR19 => Cl l G (d + 3) 0 0 mX10_bury [.ref (A + 40), .int a1] (sh16, f17, g18, fR19) (qv sh16 fR19 fun f20 g21 => Q (some (.int (nI 1))) (sh16, f20, g21, fR19)))) ∧ (x12 = 0 → Q (some (.int (nI 0))) (sh, (up2 f10 (A + 2) 3 ((f10 (A + 2) 3) + (nI 1))), g11, fR))))))))) :
    Cl l G (d + 4) 32 8095 mX11_kill [.ref A, .int a1] (sh, f, g, fR) Q := by
  refine Cl.of (L0 := [some (.ref A), some (.int a1)]) miX11_kill rfl rfl ?_
  refine S_aload_n (pc := 0) dX11_kill_0 rfl rfl ?_
  refine S_iload_n (pc := 1) dX11_kill_1 rfl rfl ?_
  refine S_callV (As := [.int a1]) (mc := 0) (ms := 0) (pc := 2) dX11_kill_2 miX11_isPath mvX11_isPath mlX11_175 rfl (sA_0 hs) rfl rfl rfl (RmOK.of rfl) H ?_
  rintro _ _ ⟨x3, f1, g2, rfl, rfl, H⟩
  show WP _ _ _ _ _ _ _ 5 [some (.ref A), some (.int a1)] [.int x3] (sh, f1, g2, fR)
  refine S_if_eq (pc := 5) (tgt := 23) dX11_kill_5 rfl (fun hc4 => ?_) (fun hc4 => ?_)
  · replace H := H.1 hc4
    refine S_aload_n (pc := 23) dX11_kill_23 rfl rfl ?_
    refine S_callV (As := []) (mc := 0) (ms := 0) (pc := 24) dX11_kill_24 miX11_refusePath mvX11_refusePath mlX11_333 rfl (sA_0 hs) rfl rfl rfl (RmOK.of rfl) (Q := fun r h => WP _ _ _ _ _ _ _ 27 [some (.ref A), some (.int a1)] (r.toList ++ []) h) (Cl.of miX11_refusePath rfl rfl ?_) (fun _ _ q => q)
    refine S_aload_n (pc := 0) dX11_refusePath_0 rfl rfl ?_
    refine S_getR (pc := 1) dX11_refusePath_1 flX11_13 (sA_0 hs) rfl (rA_0_2 hs) ?_
    refine S_iconst (pc := 4) dX11_refusePath_4 ic3 ?_
    refine S_dup2 (pc := 5) dX11_refusePath_5 rfl rfl ?_
    refine S_iald (pc := 6) dX11_refusePath_6 (sA_2 hs) (vp_in_nI (by decide) (by decide)) ?_
    show WP _ _ _ _ _ _ _ 7 _ (.int (f1 (A + 2) 3) :: _) _
    refine S_iconst (pc := 7) dX11_refusePath_7 ic1 ?_
    refine S_iadd (pc := 8) dX11_refusePath_8 ?_
    refine S_iast (pc := 9) dX11_refusePath_9 (sA_2 hs) (Nat.succ_pos _) (vp_in_nI (by decide) (by decide)) ?_
    show WP _ _ _ _ _ _ _ 10 _ _ (sh, (up2 f1 (A + 2) 3 ((f1 (A + 2) 3) + (nI 1))), g2, fR)
    refine S_iconst (pc := 10) dX11_refusePath_10 ic0 ?_
    refine S_zreturn dX11_refusePath_11 rfl (Or.inl rfl) ?_
    show WP _ _ _ _ _ _ _ 27 [some (.ref A), some (.int a1)] [.int (nI 0)] (sh, (up2 f1 (A + 2) 3 ((f1 (A + 2) 3) + (nI 1))), g2, fR)
    exact S_zreturn dX11_kill_27 rfl (Or.inl rfl) H
  · replace H := H.2 hc4
    refine S_aload_n (pc := 8) dX11_kill_8 rfl rfl ?_
    refine S_getR (pc := 9) dX11_kill_9 flX11_47 (sA_0 hs) rfl (rA_0_8 hs) ?_
    refine S_getR (pc := 12) dX11_kill_12 flX11_186 (sW_0 hs.2.2.2.1) rfl (rW_0_0 hs.2.2.2.1) ?_
    refine S_iload_n (pc := 15) dX11_kill_15 rfl rfl ?_
    obtain ⟨hb5, H⟩ := H
    obtain ⟨r6, e7, s8, p9, H⟩ := H
    refine S_aald24 (pc := 16) dX11_kill_16 (sW_1 hs.2.2.2.1) hb5 e7 ?_
    refine S_callV (As := []) (mc := 0) (ms := 0) (pc := 17) dX11_kill_17 miX8_isAlive mvX8_isAlive mlX11_340 rfl s8 rfl rfl rfl (RmOK.of rfl) H ?_
    rintro _ _ ⟨x12, f10, g11, rfl, rfl, H⟩
    show WP _ _ _ _ _ _ _ 20 [some (.ref A), some (.int a1)] [.int x12] (sh, f10, g11, fR)
    refine S_if_ne (pc := 20) (tgt := 28) dX11_kill_20 rfl (fun hc13 => ?_) (fun hc13 => ?_)
    · replace H := H.1 hc13
      refine S_aload_n (pc := 28) dX11_kill_28 rfl rfl ?_
      refine S_callV (As := []) (mc := 32) (ms := 8095) (kc := 0) (ks := 0) (pc := 29) dX11_kill_29 miX11_beginAct mvX11_beginAct mlX11_321 rfl (sA_0 hs) rfl rfl rfl (RmOK.of rfl) H ?_
      rintro _ _ ⟨sh16, f17, g18, fR19, rfl, rfl, hs, hp, hn, hP, H⟩
      show WP _ _ _ _ _ 0 0 32 [some (.ref A), some (.int a1)] [] (sh16, f17, g18, fR19)
      refine S_aload_n (pc := 32) dX11_kill_32 rfl rfl ?_
      refine S_getR (pc := 33) dX11_kill_33 flX11_47 (sA_0 hs) rfl (rA_0_8 hs) ?_
      refine S_iload_n (pc := 36) dX11_kill_36 rfl rfl ?_
      refine S_callV (As := [.int a1]) (mc := 0) (ms := 0) (pc := 37) dX11_kill_37 miX10_bury mvX10_bury mlX11_266 rfl (sW_0 hs.2.2.2.1) rfl rfl rfl (RmOK.of rfl) H ?_
      rintro _ _ ⟨f20, g21, rfl, rfl, H⟩
      show WP _ _ _ _ _ _ _ 40 [some (.ref A), some (.int a1)] [] (sh16, f20, g21, fR19)
      refine S_iconst (pc := 40) dX11_kill_40 ic1 ?_
      exact S_zreturn dX11_kill_41 rfl (Or.inr rfl) H
    · replace H := H.2 hc13
      refine S_aload_n (pc := 23) dX11_kill_23 rfl rfl ?_
      refine S_callV (As := []) (mc := 0) (ms := 0) (pc := 24) dX11_kill_24 miX11_refusePath mvX11_refusePath mlX11_333 rfl (sA_0 hs) rfl rfl rfl (RmOK.of rfl) (Q := fun r h => WP _ _ _ _ _ _ _ 27 [some (.ref A), some (.int a1)] (r.toList ++ []) h) (Cl.of miX11_refusePath rfl rfl ?_) (fun _ _ q => q)
      refine S_aload_n (pc := 0) dX11_refusePath_0 rfl rfl ?_
      refine S_getR (pc := 1) dX11_refusePath_1 flX11_13 (sA_0 hs) rfl (rA_0_2 hs) ?_
      refine S_iconst (pc := 4) dX11_refusePath_4 ic3 ?_
      refine S_dup2 (pc := 5) dX11_refusePath_5 rfl rfl ?_
      refine S_iald (pc := 6) dX11_refusePath_6 (sA_2 hs) (vp_in_nI (by decide) (by decide)) ?_
      show WP _ _ _ _ _ _ _ 7 _ (.int (f10 (A + 2) 3) :: _) _
      refine S_iconst (pc := 7) dX11_refusePath_7 ic1 ?_
      refine S_iadd (pc := 8) dX11_refusePath_8 ?_
      refine S_iast (pc := 9) dX11_refusePath_9 (sA_2 hs) (Nat.succ_pos _) (vp_in_nI (by decide) (by decide)) ?_
      show WP _ _ _ _ _ _ _ 10 _ _ (sh, (up2 f10 (A + 2) 3 ((f10 (A + 2) 3) + (nI 1))), g11, fR)
      refine S_iconst (pc := 10) dX11_refusePath_10 ic0 ?_
      refine S_zreturn dX11_refusePath_11 rfl (Or.inl rfl) ?_
      show WP _ _ _ _ _ _ _ 27 [some (.ref A), some (.int a1)] [.int (nI 0)] (sh, (up2 f10 (A + 2) 3 ((f10 (A + 2) 3) + (nI 1))), g11, fR)
      exact S_zreturn dX11_kill_27 rfl (Or.inl rfl) H
set_option maxHeartbeats 2000000 in
set_option maxRecDepth 4000 in
theorem VGX11_spoil {l : Launch} {G : Gx} {d : Nat} {Q : Option Value → Hp → Prop} {sh : Sh} {fR : FRt} {A p : Nat} {f : FI} {g : FL} {a1 : Int32} (hs : StA sh fR A) (hp : fR A 5 = some p) (hn : fR (A + 40) 7 = some p) (hP : StPl sh fR p)
    (H : Cl l G (d + 3) 0 0 mX11_isPath [.ref A, .int a1] (sh, f, g, fR) (qi sh fR fun x3 f1 g2 => ((x3 = 0 → Q (some (.int (nI 0))) (sh, (up2 f1 (A + 2) 3 ((f1 (A + 2) 3) + (nI 1))), g2, fR)) ∧ (¬ x3 = 0 → inb a1 4 ∧ (∃ r6, fR (A + 40 + 1) a1.toNatClampNeg = some r6 ∧ sh[r6]? = some (8, 8) ∧ 0 < r6 ∧ Cl l G (d + 3) 0 0 mX8_isAlive [.ref r6] (sh, f1, g2, fR) (qi sh fR fun x12 f10 g11 => ((x12 = 0 → Q (some (.int (nI 0))) (sh, (up2 f10 (A + 2) 3 ((f10 (A + 2) 3) + (nI 1))), g11, fR)) ∧ (¬ x12 = 0 → inb a1 4 ∧ (∃ r15, fR (A + 40 + 1) a1.toNatClampNeg = some r15 ∧ sh[r15]? = some (8, 8) ∧ 0 < r15 ∧ (((f10 r15 7) = 0 → Cl l G (d + 3) 32 8095 mX11_beginAct [.ref A] (sh, f10, g11, fR) (qg A p fun sh22 f23 g24 fR25 => inb a1 4 ∧ (∃ r27, fR25 (A + 40 + 1) a1.toNatClampNeg = some r27 ∧ sh22[r27]? = some (8, 8) ∧ 0 < r27 ∧ Q (some (.int (nI 1))) (sh22, (up2 f23 r27 7 (nI 1)), g24, fR25)))) ∧ (¬ (f10 r15 7) = 0 → Q (some (.int (nI 0))) (sh, (up2 f10 (A + 2) 3 ((f10 (A + 2) 3) + (nI 1))), g11, fR)))))))))))) :
    Cl l G (d + 4) 32 8095 mX11_spoil [.ref A, .int a1] (sh, f, g, fR) Q := by
  refine Cl.of (L0 := [some (.ref A), some (.int a1)]) miX11_spoil rfl rfl ?_
  refine S_aload_n (pc := 0) dX11_spoil_0 rfl rfl ?_
  refine S_iload_n (pc := 1) dX11_spoil_1 rfl rfl ?_
  refine S_callV (As := [.int a1]) (mc := 0) (ms := 0) (pc := 2) dX11_spoil_2 miX11_isPath mvX11_isPath mlX11_175 rfl (sA_0 hs) rfl rfl rfl (RmOK.of rfl) H ?_
  rintro _ _ ⟨x3, f1, g2, rfl, rfl, H⟩
  show WP _ _ _ _ _ _ _ 5 [some (.ref A), some (.int a1)] [.int x3] (sh, f1, g2, fR)
  refine S_if_eq (pc := 5) (tgt := 38) dX11_spoil_5 rfl (fun hc4 => ?_) (fun hc4 => ?_)
  · replace H := H.1 hc4
    refine S_aload_n (pc := 38) dX11_spoil_38 rfl rfl ?_
    refine S_callV (As := []) (mc := 0) (ms := 0) (pc := 39) dX11_spoil_39 miX11_refusePath mvX11_refusePath mlX11_333 rfl (sA_0 hs) rfl rfl rfl (RmOK.of rfl) (Q := fun r h => WP _ _ _ _ _ _ _ 42 [some (.ref A), some (.int a1)] (r.toList ++ []) h) (Cl.of miX11_refusePath rfl rfl ?_) (fun _ _ q => q)
    refine S_aload_n (pc := 0) dX11_refusePath_0 rfl rfl ?_
    refine S_getR (pc := 1) dX11_refusePath_1 flX11_13 (sA_0 hs) rfl (rA_0_2 hs) ?_
    refine S_iconst (pc := 4) dX11_refusePath_4 ic3 ?_
    refine S_dup2 (pc := 5) dX11_refusePath_5 rfl rfl ?_
    refine S_iald (pc := 6) dX11_refusePath_6 (sA_2 hs) (vp_in_nI (by decide) (by decide)) ?_
    show WP _ _ _ _ _ _ _ 7 _ (.int (f1 (A + 2) 3) :: _) _
    refine S_iconst (pc := 7) dX11_refusePath_7 ic1 ?_
    refine S_iadd (pc := 8) dX11_refusePath_8 ?_
    refine S_iast (pc := 9) dX11_refusePath_9 (sA_2 hs) (Nat.succ_pos _) (vp_in_nI (by decide) (by decide)) ?_
    show WP _ _ _ _ _ _ _ 10 _ _ (sh, (up2 f1 (A + 2) 3 ((f1 (A + 2) 3) + (nI 1))), g2, fR)
    refine S_iconst (pc := 10) dX11_refusePath_10 ic0 ?_
    refine S_zreturn dX11_refusePath_11 rfl (Or.inl rfl) ?_
    show WP _ _ _ _ _ _ _ 42 [some (.ref A), some (.int a1)] [.int (nI 0)] (sh, (up2 f1 (A + 2) 3 ((f1 (A + 2) 3) + (nI 1))), g2, fR)
    exact S_zreturn dX11_spoil_42 rfl (Or.inl rfl) H
  · replace H := H.2 hc4
    refine S_aload_n (pc := 8) dX11_spoil_8 rfl rfl ?_
    refine S_getR (pc := 9) dX11_spoil_9 flX11_47 (sA_0 hs) rfl (rA_0_8 hs) ?_
    refine S_getR (pc := 12) dX11_spoil_12 flX11_186 (sW_0 hs.2.2.2.1) rfl (rW_0_0 hs.2.2.2.1) ?_
    refine S_iload_n (pc := 15) dX11_spoil_15 rfl rfl ?_
    obtain ⟨hb5, H⟩ := H
    obtain ⟨r6, e7, s8, p9, H⟩ := H
    refine S_aald24 (pc := 16) dX11_spoil_16 (sW_1 hs.2.2.2.1) hb5 e7 ?_
    refine S_callV (As := []) (mc := 0) (ms := 0) (pc := 17) dX11_spoil_17 miX8_isAlive mvX8_isAlive mlX11_340 rfl s8 rfl rfl rfl (RmOK.of rfl) H ?_
    rintro _ _ ⟨x12, f10, g11, rfl, rfl, H⟩
    show WP _ _ _ _ _ _ _ 20 [some (.ref A), some (.int a1)] [.int x12] (sh, f10, g11, fR)
    refine S_if_eq (pc := 20) (tgt := 38) dX11_spoil_20 rfl (fun hc13 => ?_) (fun hc13 => ?_)
    · replace H := H.1 hc13
      refine S_aload_n (pc := 38) dX11_spoil_38 rfl rfl ?_
      refine S_callV (As := []) (mc := 0) (ms := 0) (pc := 39) dX11_spoil_39 miX11_refusePath mvX11_refusePath mlX11_333 rfl (sA_0 hs) rfl rfl rfl (RmOK.of rfl) (Q := fun r h => WP _ _ _ _ _ _ _ 42 [some (.ref A), some (.int a1)] (r.toList ++ []) h) (Cl.of miX11_refusePath rfl rfl ?_) (fun _ _ q => q)
      refine S_aload_n (pc := 0) dX11_refusePath_0 rfl rfl ?_
      refine S_getR (pc := 1) dX11_refusePath_1 flX11_13 (sA_0 hs) rfl (rA_0_2 hs) ?_
      refine S_iconst (pc := 4) dX11_refusePath_4 ic3 ?_
      refine S_dup2 (pc := 5) dX11_refusePath_5 rfl rfl ?_
      refine S_iald (pc := 6) dX11_refusePath_6 (sA_2 hs) (vp_in_nI (by decide) (by decide)) ?_
      show WP _ _ _ _ _ _ _ 7 _ (.int (f10 (A + 2) 3) :: _) _
      refine S_iconst (pc := 7) dX11_refusePath_7 ic1 ?_
      refine S_iadd (pc := 8) dX11_refusePath_8 ?_
      refine S_iast (pc := 9) dX11_refusePath_9 (sA_2 hs) (Nat.succ_pos _) (vp_in_nI (by decide) (by decide)) ?_
      show WP _ _ _ _ _ _ _ 10 _ _ (sh, (up2 f10 (A + 2) 3 ((f10 (A + 2) 3) + (nI 1))), g11, fR)
      refine S_iconst (pc := 10) dX11_refusePath_10 ic0 ?_
      refine S_zreturn dX11_refusePath_11 rfl (Or.inl rfl) ?_
      show WP _ _ _ _ _ _ _ 42 [some (.ref A), some (.int a1)] [.int (nI 0)] (sh, (up2 f10 (A + 2) 3 ((f10 (A + 2) 3) + (nI 1))), g11, fR)
      exact S_zreturn dX11_spoil_42 rfl (Or.inl rfl) H
    · replace H := H.2 hc13
      refine S_aload_n (pc := 23) dX11_spoil_23 rfl rfl ?_
      refine S_getR (pc := 24) dX11_spoil_24 flX11_47 (sA_0 hs) rfl (rA_0_8 hs) ?_
      refine S_getR (pc := 27) dX11_spoil_27 flX11_186 (sW_0 hs.2.2.2.1) rfl (rW_0_0 hs.2.2.2.1) ?_
      refine S_iload_n (pc := 30) dX11_spoil_30 rfl rfl ?_
      obtain ⟨hb14, H⟩ := H
      obtain ⟨r15, e16, s17, p18, H⟩ := H
      refine S_aald24 (pc := 31) dX11_spoil_31 (sW_1 hs.2.2.2.1) hb14 e16 ?_
      refine S_get (pc := 32) (v := .int (f10 r15 7)) dX11_spoil_32 flX11_210 s17 rfl ?_
      refine S_if_eq (pc := 35) (tgt := 43) dX11_spoil_35 rfl (fun hc19 => ?_) (fun hc19 => ?_)
      · replace H := H.1 hc19
        refine S_aload_n (pc := 43) dX11_spoil_43 rfl rfl ?_
        refine S_callV (As := []) (mc := 32) (ms := 8095) (kc := 0) (ks := 0) (pc := 44) dX11_spoil_44 miX11_beginAct mvX11_beginAct mlX11_321 rfl (sA_0 hs) rfl rfl rfl (RmOK.of rfl) H ?_
        rintro _ _ ⟨sh22, f23, g24, fR25, rfl, rfl, hs, hp, hn, hP, H⟩
        show WP _ _ _ _ _ 0 0 47 [some (.ref A), some (.int a1)] [] (sh22, f23, g24, fR25)
        refine S_aload_n (pc := 47) dX11_spoil_47 rfl rfl ?_
        refine S_getR (pc := 48) dX11_spoil_48 flX11_47 (sA_0 hs) rfl (rA_0_8 hs) ?_
        refine S_getR (pc := 51) dX11_spoil_51 flX11_186 (sW_0 hs.2.2.2.1) rfl (rW_0_0 hs.2.2.2.1) ?_
        refine S_iload_n (pc := 54) dX11_spoil_54 rfl rfl ?_
        obtain ⟨hb26, H⟩ := H
        obtain ⟨r27, e28, s29, p30, H⟩ := H
        refine S_aald24 (pc := 55) dX11_spoil_55 (sW_1 hs.2.2.2.1) hb26 e28 ?_
        refine S_iconst (pc := 56) dX11_spoil_56 ic1 ?_
        refine S_putI (pc := 57) dX11_spoil_57 flX11_210 s29 p30 (nf_8_7) nb1 rfl (fun _ => rfl) ?_
        refine S_iconst (pc := 60) dX11_spoil_60 ic1 ?_
        exact S_zreturn dX11_spoil_61 rfl (Or.inr rfl) H
      · replace H := H.2 hc19
        refine S_aload_n (pc := 38) dX11_spoil_38 rfl rfl ?_
        refine S_callV (As := []) (mc := 0) (ms := 0) (pc := 39) dX11_spoil_39 miX11_refusePath mvX11_refusePath mlX11_333 rfl (sA_0 hs) rfl rfl rfl (RmOK.of rfl) (Q := fun r h => WP _ _ _ _ _ _ _ 42 [some (.ref A), some (.int a1)] (r.toList ++ []) h) (Cl.of miX11_refusePath rfl rfl ?_) (fun _ _ q => q)
        refine S_aload_n (pc := 0) dX11_refusePath_0 rfl rfl ?_
        refine S_getR (pc := 1) dX11_refusePath_1 flX11_13 (sA_0 hs) rfl (rA_0_2 hs) ?_
        refine S_iconst (pc := 4) dX11_refusePath_4 ic3 ?_
        refine S_dup2 (pc := 5) dX11_refusePath_5 rfl rfl ?_
        refine S_iald (pc := 6) dX11_refusePath_6 (sA_2 hs) (vp_in_nI (by decide) (by decide)) ?_
        show WP _ _ _ _ _ _ _ 7 _ (.int (f10 (A + 2) 3) :: _) _
        refine S_iconst (pc := 7) dX11_refusePath_7 ic1 ?_
        refine S_iadd (pc := 8) dX11_refusePath_8 ?_
        refine S_iast (pc := 9) dX11_refusePath_9 (sA_2 hs) (Nat.succ_pos _) (vp_in_nI (by decide) (by decide)) ?_
        show WP _ _ _ _ _ _ _ 10 _ _ (sh, (up2 f10 (A + 2) 3 ((f10 (A + 2) 3) + (nI 1))), g11, fR)
        refine S_iconst (pc := 10) dX11_refusePath_10 ic0 ?_
        refine S_zreturn dX11_refusePath_11 rfl (Or.inl rfl) ?_
        show WP _ _ _ _ _ _ _ 42 [some (.ref A), some (.int a1)] [.int (nI 0)] (sh, (up2 f10 (A + 2) 3 ((f10 (A + 2) 3) + (nI 1))), g11, fR)
        exact S_zreturn dX11_spoil_42 rfl (Or.inl rfl) H
