theorem WP.more {l : Launch} {G : Gx} {Z : Zt} {md : Md} {R : Room} {kc ks kc' ks' pc : Nat} {L : List (Option Value)} {S : List Value} {h : Hp} (h1 : kc ≤ kc') (h2 : ks ≤ ks') (H : WP l G Z md R kc ks pc L S h) : WP l G Z md R kc' ks' pc L S h := by
  intro p e s m args below meth c C ls H0 locs cells slots hL hh hS hc hk
  exact H p e s m args below meth c C ls H0 locs cells slots hL hh hS (by omega) (by omega)
abbrev Bg (l : Launch) (G : Gx) (d : Nat) (Q : Option Value → Hp → Prop) (sh : Sh) (fR : FRt) (A p : Nat) (f : FI) (g : FL) (kc ks : Nat) : Prop := WP l G (Zq G 32 8095 Q) mX11_beginAct (rmd (d + 3) 32 8095) kc ks 32 [some (.ref A)] [] (sh, f, g, fR)
set_option maxHeartbeats 2000000 in
set_option maxRecDepth 4000 in
theorem VX11_beg32 {l : Launch} {G : Gx} {d : Nat} {Q : Option Value → Hp → Prop} {sh : Sh} {fR : FRt} {A p : Nat} {f : FI} {g : FL} {kc ks : Nat} (hs : StA sh fR A) (hp : fR A 5 = some p) (hn : fR (A + 40) 7 = some p) (hP : StPl sh fR p)
    (H : inb (f A 11) 20 ∧ ((fR (A + 104) (f A 11).toNatClampNeg = none → False) ∧ (∀ r2, fR (A + 104) (f A 11).toNatClampNeg = some r2 → sh[r2]? = some (10, 16) ∧ 0 < r2 ∧ Cl l G (d + 2) 0 0 mX10_copyFrom [.ref r2, .ref (A + 40)] (sh, f, g, fR) (qv sh (up2 fR r2 7 (some p)) fun f8 g9 => Cl l G (d + 2) 0 0 mJ_min [.int ((f8 A 12) + (nI 1)), .int (nI 20)] (sh, (up2 f8 A 11 (((f8 A 11) + (nI 1)) - ((f8 A 11) + (nI 1)) / (nI 20) * (nI 20))), g9, (up2 fR r2 7 (some p))) (qi sh (up2 fR r2 7 (some p)) fun x12 f10 g11 => Q none (sh, (up2 f10 A 12 x12), g11, (up2 fR r2 7 (some p)))))))) :
    Bg l G d Q sh fR A p f g kc ks := by
  refine S_aload_n (pc := 32) dX11_beginAct_32 rfl rfl ?_
  refine S_getR (pc := 33) dX11_beginAct_33 flX11_54 (sA_0 hs) rfl (rA_0_10 hs) ?_
  refine S_aload_n (pc := 36) dX11_beginAct_36 rfl rfl ?_
  refine S_get (pc := 37) (v := .int (f A 11)) dX11_beginAct_37 flX11_327 (sA_0 hs) rfl ?_
  obtain ⟨hb1, H⟩ := H
  rcases e3 : fR (A + 104) (f A 11).toNatClampNeg with _ | r2
  · replace H := H.1 e3
    refine S_aald25N (pc := 40) dX11_beginAct_40 (sA_104 hs) hb1 e3 ?_
    refine S_aload_n (pc := 41) dX11_beginAct_41 rfl rfl ?_
    refine S_getR (pc := 42) dX11_beginAct_42 flX11_47 (sA_0 hs) rfl (rA_0_8 hs) ?_
    exact H.elim
  · obtain ⟨s4, p5, H⟩ := H.2 r2 e3
    refine S_aald25 (pc := 40) dX11_beginAct_40 (sA_104 hs) hb1 e3 ?_
    refine S_aload_n (pc := 41) dX11_beginAct_41 rfl rfl ?_
    refine S_getR (pc := 42) dX11_beginAct_42 flX11_47 (sA_0 hs) rfl (rA_0_8 hs) ?_
    refine S_callV (As := [.ref (A + 40)]) (mc := 0) (ms := 0) (pc := 45) dX11_beginAct_45 miX10_copyFrom mvX10_copyFrom mlX11_251 rfl s4 rfl rfl rfl (RmOK.of rfl) H ?_
    rintro _ _ ⟨f8, g9, rfl, rfl, H⟩
    show WP _ _ _ _ _ _ _ 48 [some (.ref A)] [] (sh, f8, g9, (up2 fR r2 7 (some p)))
    refine S_aload_n (pc := 48) dX11_beginAct_48 rfl rfl ?_
    refine S_aload_n (pc := 49) dX11_beginAct_49 rfl rfl ?_
    refine S_get (pc := 50) (v := .int (f8 A 11)) dX11_beginAct_50 flX11_327 (sA_0 hs) rfl ?_
    refine S_iconst (pc := 53) dX11_beginAct_53 ic1 ?_
    refine S_iadd (pc := 54) dX11_beginAct_54 ?_
    refine S_bipush (pc := 55) dX11_beginAct_55 bp20 ?_
    refine S_irem (pc := 57) dX11_beginAct_57 (by decide) ?_
    refine S_putI (pc := 58) dX11_beginAct_58 flX11_327 (sA_0 hs) hs.2.2.1 (nf_11_11) rfl rfl (fun _ => rfl) ?_
    refine S_aload_n (pc := 61) dX11_beginAct_61 rfl rfl ?_
    refine S_aload_n (pc := 62) dX11_beginAct_62 rfl rfl ?_
    refine S_get (pc := 63) (v := .int ((up2 f8 A 11 (((f8 A 11) + (nI 1)) - ((f8 A 11) + (nI 1)) / (nI 20) * (nI 20))) A 12)) dX11_beginAct_63 flX11_95 (sA_0 hs) rfl ?_
    refine S_eqi (x := f8 A 12) ((up2_k (by decide)).trans rfl) ?_
    refine S_iconst (pc := 66) dX11_beginAct_66 ic1 ?_
    refine S_iadd (pc := 67) dX11_beginAct_67 ?_
    refine S_bipush (pc := 68) dX11_beginAct_68 bp20 ?_
    refine S_callSJ (As := [.int ((f8 A 12) + (nI 1)), .int (nI 20)]) (mc := 0) (ms := 0) (pc := 70) dX11_beginAct_70 miJ_min mvJ_min mlX11_306 rfl rfl (RmOK.of rfl) H ?_
    rintro _ _ ⟨x12, f10, g11, rfl, rfl, H⟩
    show WP _ _ _ _ _ _ _ 73 [some (.ref A)] [.int x12, .ref A] (sh, f10, g11, (up2 fR r2 7 (some p)))
    refine S_putI (pc := 73) dX11_beginAct_73 flX11_95 (sA_0 hs) hs.2.2.1 (nf_11_12) rfl rfl (fun _ => rfl) ?_
    exact S_vreturn dX11_beginAct_76 rfl H
set_option maxHeartbeats 2000000 in
set_option maxRecDepth 4000 in
theorem VX11_beg0 {l : Launch} {G : Gx} {d : Nat} {Q : Option Value → Hp → Prop} {sh : Sh} {fR : FRt} {A p : Nat} {f : FI} {g : FL} (hs : StA sh fR A) (hp : fR A 5 = some p) (hn : fR (A + 40) 7 = some p) (hP : StPl sh fR p)
    (H : inb (f A 11) 20 ∧ ((fR (A + 104) (f A 11).toNatClampNeg = none → WP l G (Zq G 32 8095 Q) mX11_beginAct (rmd (d + 3) 32 8095) 32 8095 20 [some (.ref A)] [.int (f A 11), .ref (A + 104)] (sh, f, g, fR)) ∧ (∀ r2, fR (A + 104) (f A 11).toNatClampNeg = some r2 → sh[r2]? = some (10, 16) ∧ 0 < r2 ∧ Bg l G d Q sh fR A p f g 32 8095))) :
    Cl l G (d + 3) 32 8095 mX11_beginAct [.ref A] (sh, f, g, fR) Q := by
  refine Cl.of (L0 := [some (.ref A)]) miX11_beginAct rfl rfl ?_
  refine S_aload_n (pc := 0) dX11_beginAct_0 rfl rfl ?_
  refine S_getR (pc := 1) dX11_beginAct_1 flX11_54 (sA_0 hs) rfl (rA_0_10 hs) ?_
  refine S_aload_n (pc := 4) dX11_beginAct_4 rfl rfl ?_
  refine S_get (pc := 5) (v := .int (f A 11)) dX11_beginAct_5 flX11_327 (sA_0 hs) rfl ?_
  obtain ⟨hb1, H⟩ := H
  rcases e3 : fR (A + 104) (f A 11).toNatClampNeg with _ | r2
  · replace H := H.1 e3
    refine S_aald25N (pc := 8) dX11_beginAct_8 (sA_104 hs) hb1 e3 ?_
    refine S_ifnonnullN (pc := 9) dX11_beginAct_9 ?_
    refine S_aload_n (pc := 12) dX11_beginAct_12 rfl rfl ?_
    refine S_getR (pc := 13) dX11_beginAct_13 flX11_54 (sA_0 hs) rfl (rA_0_10 hs) ?_
    refine S_aload_n (pc := 16) dX11_beginAct_16 rfl rfl ?_
    refine S_get (pc := 17) (v := .int (f A 11)) dX11_beginAct_17 flX11_327 (sA_0 hs) rfl ?_
    exact H
  · obtain ⟨s4, p5, H⟩ := H.2 r2 e3
    refine S_aald25 (pc := 8) dX11_beginAct_8 (sA_104 hs) hb1 e3 ?_
    refine S_ifnonnull (pc := 9) (tgt := 32) dX11_beginAct_9 rfl ?_
    exact H
