abbrev LpX9_readText_48 (l : Launch) (G : Gx) (d : Nat) (Q : Option Value → Hp → Prop) (sh : Sh) (fR : FRt) (A p q : Nat) (f : FI) (g : FL) (a3 : Int32) : Prop := WP l G (Zq G 0 0 Q) mX9_readText (rmd (d + 13) 0 0) 0 0 48 [some (.ref (A + 38)), none, none, some (.int a3)] [] (sh, f, g, (up2 fR (A + 38) 7 (some q)))
abbrev LpX9_readText_73 (l : Launch) (G : Gx) (d : Nat) (Q : Option Value → Hp → Prop) (sh : Sh) (fR : FRt) (A p q : Nat) (f : FI) (g : FL) (a3 : Int32) : Prop := WP l G (Zq G 0 0 Q) mX9_readText (rmd (d + 13) 0 0) 0 0 73 [some (.ref (A + 38)), none, none, some (.int a3)] [] (sh, f, g, (up2 fR (A + 38) 7 (some q)))
set_option maxHeartbeats 2000000 in
set_option maxRecDepth 4000 in
theorem VX9_readText_15 {l : Launch} {G : Gx} {d : Nat} {Q : Option Value → Hp → Prop} {sh : Sh} {fR : FRt} {A p q : Nat} {f : FI} {g : FL} {a1 : Int32} (hs : StA sh fR A) (hp : fR (A + 38) 6 = some p) (hP : StPl sh fR p) (hq : StF sh fR q)
    (H : Cl l G (d + 12) 0 0 mX6_clear [.ref p] (sh, (up2 (up2 (up2 (up2 f (A + 38) 9 (nI 0)) (A + 38) 1 (nI 0)) (A + 38) 2 (-1)) (A + 38) 10 (nI 0)), g, (up2 fR (A + 38) 7 (some q))) (qv sh (up2 fR (A + 38) 7 (some q)) fun f1 g2 => Cl l G (d + 12) 0 0 mX9_advance [.ref (A + 38)] (sh, f1, g2, (up2 fR (A + 38) 7 (some q))) (qv sh (up2 fR (A + 38) 7 (some q)) fun f3 g4 => LpX9_readText_48 l G d Q sh fR A p q f3 g4 (nI 0)))) :
    WP l G (Zq G 0 0 Q) mX9_readText (rmd (d + 13) 0 0) 0 0 15 [some (.ref (A + 38)), some (.int a1), some (.ref p), none] [] (sh, f, g, (up2 fR (A + 38) 7 (some q))) := by
  refine S_aload_n (pc := 15) dX9_readText_15 rfl rfl ?_
  refine S_iconst (pc := 16) dX9_readText_16 ic0 ?_
  refine S_putI (pc := 17) dX9_readText_17 flX9_49 (sA_38 hs) (Nat.succ_pos _) (nf_9_9) rfl rfl (fun _ => rfl) ?_
  refine S_aload_n (pc := 20) dX9_readText_20 rfl rfl ?_
  refine S_iconst (pc := 21) dX9_readText_21 ic0 ?_
  refine S_putI (pc := 22) dX9_readText_22 flX9_52 (sA_38 hs) (Nat.succ_pos _) (nf_9_1) rfl rfl (fun _ => rfl) ?_
  refine S_aload_n (pc := 25) dX9_readText_25 rfl rfl ?_
  refine S_iconst (pc := 26) dX9_readText_26 icm1 ?_
  refine S_putI (pc := 27) dX9_readText_27 flX9_55 (sA_38 hs) (Nat.succ_pos _) (nf_9_2) rfl rfl (fun _ => rfl) ?_
  refine S_aload_n (pc := 30) dX9_readText_30 rfl rfl ?_
  refine S_iconst (pc := 31) dX9_readText_31 ic0 ?_
  refine S_putI (pc := 32) dX9_readText_32 flX9_58 (sA_38 hs) (Nat.succ_pos _) (nf_9_10) rfl rfl (fun _ => rfl) ?_
  refine S_aload_n (pc := 35) dX9_readText_35 rfl rfl ?_
  refine S_getR (pc := 36) dX9_readText_36 flX9_18 (sA_38 hs) rfl ((up2_ne (by simp)).trans hp) ?_
  refine S_callV (As := []) (mc := 0) (ms := 0) (pc := 39) dX9_readText_39 miX6_clear mvX6_clear mlX9_61 rfl (sL_0 hP) rfl rfl rfl (RmOK.of rfl) H ?_
  rintro _ _ ⟨f1, g2, rfl, rfl, H⟩
  show WP _ _ _ _ _ _ _ 42 [some (.ref (A + 38)), some (.int a1), some (.ref p), none] [] (sh, f1, g2, (up2 fR (A + 38) 7 (some q)))
  refine S_aload_n (pc := 42) dX9_readText_42 rfl rfl ?_
  refine S_callV (As := []) (mc := 0) (ms := 0) (pc := 43) dX9_readText_43 miX9_advance mvX9_advance mlX9_64 rfl (sA_38 hs) rfl rfl rfl (RmOK.of rfl) H ?_
  rintro _ _ ⟨f3, g4, rfl, rfl, H⟩
  show WP _ _ _ _ _ _ _ 46 [some (.ref (A + 38)), some (.int a1), some (.ref p), none] [] (sh, f3, g4, (up2 fR (A + 38) 7 (some q)))
  refine S_iconst (pc := 46) dX9_readText_46 ic0 ?_
  refine S_istore_n (pc := 47) (L' := [some (.ref (A + 38)), some (.int a1), some (.ref p), some (.int (nI 0))]) dX9_readText_47 rfl (by decide) rfl ?_
  exact S_weak (L' := [some (.ref (A + 38)), none, none, some (.int (nI 0))]) (ls_e (ls_n (ls_n (ls_e ls_0)))) H
set_option maxHeartbeats 2000000 in
set_option maxRecDepth 4000 in
theorem VX9_readText_48 {l : Launch} {G : Gx} {d : Nat} {Q : Option Value → Hp → Prop} {sh : Sh} {fR : FRt} {A p q : Nat} {f : FI} {g : FL} {a3 : Int32} (hs : StA sh fR A) (hp : fR (A + 38) 6 = some p) (hP : StPl sh fR p) (hq : StF sh fR q)
    (H : (((nI 40) < a3 → Q none (sh, f, g, (up2 fR (A + 38) 7 (some q)))) ∧ (¬ (nI 40) < a3 → ((¬ (f (A + 38) 1) = 0 → Q none (sh, f, g, (up2 fR (A + 38) 7 (some q)))) ∧ ((f (A + 38) 1) = 0 → ((¬ (f (A + 38) 10) = 0 → LpX9_readText_73 l G d Q sh fR A p q f g a3) ∧ ((f (A + 38) 10) = 0 → ((a3 ≤ 0 → LpX9_readText_73 l G d Q sh fR A p q f g a3) ∧ (¬ a3 ≤ 0 → Q none (sh, f, g, (up2 fR (A + 38) 7 (some q)))))))))))) :
    LpX9_readText_48 l G d Q sh fR A p q f g a3 := by
  refine S_iload_n (pc := 48) dX9_readText_48 rfl rfl ?_
  refine S_bipush (pc := 49) dX9_readText_49 bp40 ?_
  refine S_icmp_gt (pc := 51) (tgt := 103) dX9_readText_51 rfl (fun hc5 => ?_) (fun hc5 => ?_)
  · replace H := H.1 hc5
    exact S_vreturn dX9_readText_103 rfl H
  · replace H := H.2 hc5
    refine S_aload_n (pc := 54) dX9_readText_54 rfl rfl ?_
    refine S_get (pc := 55) (v := .int (f (A + 38) 1)) dX9_readText_55 flX9_52 (sA_38 hs) rfl ?_
    refine S_if_ne (pc := 58) (tgt := 103) dX9_readText_58 rfl (fun hc6 => ?_) (fun hc6 => ?_)
    · replace H := H.1 hc6
      exact S_vreturn dX9_readText_103 rfl H
    · replace H := H.2 hc6
      refine S_aload_n (pc := 61) dX9_readText_61 rfl rfl ?_
      refine S_get (pc := 62) (v := .int (f (A + 38) 10)) dX9_readText_62 flX9_58 (sA_38 hs) rfl ?_
      refine S_if_ne (pc := 65) (tgt := 73) dX9_readText_65 rfl (fun hc7 => ?_) (fun hc7 => ?_)
      · replace H := H.1 hc7
        exact H
      · replace H := H.2 hc7
        refine S_iload_n (pc := 68) dX9_readText_68 rfl rfl ?_
        refine S_if_le (pc := 69) (tgt := 73) dX9_readText_69 rfl (fun hc8 => ?_) (fun hc8 => ?_)
        · replace H := H.1 hc8
          exact H
        · replace H := H.2 hc8
          exact S_vreturn dX9_readText_72 rfl H
set_option maxHeartbeats 2000000 in
set_option maxRecDepth 4000 in
theorem VX9_readText_73 {l : Launch} {G : Gx} {d : Nat} {Q : Option Value → Hp → Prop} {sh : Sh} {fR : FRt} {A p q : Nat} {f : FI} {g : FL} {a3 : Int32} (hs : StA sh fR A) (hp : fR (A + 38) 6 = some p) (hP : StPl sh fR p) (hq : StF sh fR q)
    (H : Cl l G (d + 12) 0 0 mX9_readStatement [.ref (A + 38), .int a3] (sh, f, g, (up2 fR (A + 38) 7 (some q))) (qn sh fR (A + 38) fun q13 f11 g12 => Cl l G (d + 12) 0 0 mX9_expectSign [.ref (A + 38), .int (nI 59)] (sh, f11, g12, (up2 fR (A + 38) 7 (some q13))) (qv sh (up2 fR (A + 38) 7 (some q13)) fun f15 g16 => LpX9_readText_48 l G d Q sh fR A p q13 (up2 f15 p 0 ((f15 p 0) + (nI 1))) g16 (a3 + nI 1)))) :
    LpX9_readText_73 l G d Q sh fR A p q f g a3 := by
  refine S_aload_n (pc := 73) dX9_readText_73 rfl rfl ?_
  refine S_iload_n (pc := 74) dX9_readText_74 rfl rfl ?_
  refine S_callV (As := [.int a3]) (mc := 0) (ms := 0) (pc := 75) dX9_readText_75 miX9_readStatement mvX9_readStatement mlX9_67 rfl (sA_38 hs) rfl rfl rfl (RmOK.of rfl) H ?_
  rintro _ _ ⟨q13, f11, g12, rfl, rfl, hq14, H⟩
  show WP _ _ _ _ _ _ _ 78 [some (.ref (A + 38)), none, none, some (.int a3)] [] (sh, f11, g12, (up2 fR (A + 38) 7 (some q13)))
  refine S_aload_n (pc := 78) dX9_readText_78 rfl rfl ?_
  refine S_bipush (pc := 79) dX9_readText_79 bp59 ?_
  refine S_callV (As := [.int (nI 59)]) (mc := 0) (ms := 0) (pc := 81) dX9_readText_81 miX9_expectSign mvX9_expectSign mlX9_71 rfl (sA_38 hs) rfl rfl rfl (RmOK.of rfl) H ?_
  rintro _ _ ⟨f15, g16, rfl, rfl, H⟩
  show WP _ _ _ _ _ _ _ 84 [some (.ref (A + 38)), none, none, some (.int a3)] [] (sh, f15, g16, (up2 fR (A + 38) 7 (some q13)))
  refine S_aload_n (pc := 84) dX9_readText_84 rfl rfl ?_
  refine S_getR (pc := 85) dX9_readText_85 flX9_18 (sA_38 hs) rfl ((up2_ne (by simp)).trans hp) ?_
  refine S_dup (pc := 88) dX9_readText_88 rfl ?_
  refine S_get (pc := 89) (v := .int (f15 p 0)) dX9_readText_89 flX9_74 (sL_0 hP) rfl ?_
  refine S_iconst (pc := 92) dX9_readText_92 ic1 ?_
  refine S_iadd (pc := 93) dX9_readText_93 ?_
  refine S_putI (pc := 94) dX9_readText_94 flX9_74 (sL_0 hP) hP.2.2 (nf_6_0) rfl rfl (fun _ => rfl) ?_
  refine S_iinc (pc := 97) (v := nI 1) (L' := [some (.ref (A + 38)), none, none, some (.int (a3 + nI 1))]) dX9_readText_97 rfl ic1 rfl ?_
  refine S_goto (pc := 100) (tgt := 48) dX9_readText_100 rfl ?_
  exact H
