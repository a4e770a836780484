/-! the reference is made -/
def RM0 (x : Nat) : List (Nat × Nat × Nat) := [(0, 68, x + 37), (0, 67, x + 36), (0, 66, x + 35), (0, 65, x + 34), (0, 58, x + 33), (0, 56, x + 32), (0, 55, x + 31), (0, 54, x + 30), (0, 53, x + 29), (0, 48, x + 28), (0, 47, x + 27), (0, 46, x + 26), (0, 45, x + 25), (0, 44, x + 24), (0, 43, x + 23), (0, 42, x + 22), (0, 38, x + 21), (0, 35, x + 20), (0, 34, x + 19), (0, 33, x + 18), (0, 32, x + 17), (0, 31, x + 16), (0, 27, x + 15), (0, 26, x + 14), (0, 25, x + 13), (0, 24, x + 12), (0, 23, x + 11), (0, 22, x + 10), (0, 21, x + 9), (0, 20, x + 8), (0, 19, x + 7), (0, 18, x + 6), (0, 17, x + 5), (0, 16, x + 4), (0, 15, x + 3), (0, 14, x + 2), (0, 0, x + 1)]
def IM0 : List (Nat × Nat × Int32) := [(11, 7, (-1)), (11, 6, (-1)), (11, 5, (-1)), (11, 4, (-1)), (11, 3, (-1)), (11, 2, (-1)), (11, 1, (-1)), (11, 0, (-1)), (0, 64, (nI 0)), (0, 63, (nI 0)), (0, 62, (nI 0)), (0, 61, (nI 0)), (0, 60, (nI 0)), (0, 59, (nI 0)), (0, 57, (nI 0)), (0, 52, (nI 0)), (0, 50, (nI 0)), (0, 49, (nI 0)), (0, 41, (nI 0)), (0, 40, (nI 0)), (0, 39, (nI 0)), (0, 37, (nI 0)), (0, 36, (nI 0)), (0, 30, (nI 0)), (0, 29, (nI 1)), (0, 28, (nI 0)), (0, 13, (nI 0)), (0, 12, (-1)), (0, 11, (-1)), (0, 10, (nI 0)), (0, 9, (-1)), (0, 8, (nI 0)), (0, 6, (nI 0)), (0, 5, (nI 0)), (0, 4, (nI 0)), (0, 3, (nI 0)), (0, 2, (nI 0)), (0, 1, (nI 0))]
def JM0 : List (Nat × Nat × Int64) := [(0, 51, lN 1), (0, 7, lN 0)]
set_option maxHeartbeats 8000000 in
set_option maxRecDepth 8000 in
theorem I_X12 {l : Launch} {G : Gx} {d : Nat} {sh : Sh} {f : FI} {g : FL} {fR : FRt} {x : Nat} (hx : sh.length = x) (hx0 : 0 < x) : Cl l G (d + 1) 37 182330 mX12_init [.ref (x + 0)] (gi sh f g fR x [(12, 69)] [] [] []) (fun r h => r = none ∧ h = gi sh f g fR x [(12, 69), (20, 1800), (20, 2), (20, 2), (20, 2), (20, 2), (20, 2), (20, 8), (20, 8), (20, 8), (20, 2), (20, 8), (20, 8), (20, 3200), (20, 3200), (21, 8), (20, 20), (20, 20), (22, 20), (20, 20), (20, 20), (20, 500), (20, 6), (20, 880), (20, 84480), (20, 21120), (20, 57200), (20, 4400), (20, 2640), (20, 4), (21, 500), (20, 12), (20, 480), (20, 480), (20, 16), (20, 16), (20, 16), (20, 1220)] (RM0 x) IM0 JM0) := by
  refine Cl.of (L0 := [some (.ref (x + 0)), none]) miX12_init rfl rfl ?_
  refine S_aload_n (pc := 0) dX12_init_0 rfl rfl ?_
  refine S_objInit (pc := 1) dX12_init_1 mlX12_1 miO mcO ⟨by show 1 ≤ d + 1; omega, by show 0 + 12 ≤ 64 * (d + 1); omega⟩ ?_
  refine S_aload_n (pc := 4) dX12_init_4 rfl rfl ?_
  refine S_sipush (pc := 5) dX12_init_5 sp1800 ?_
  refine S_newa20 (pc := 8) (N := 1800) (kc := 36) (ks := 180530) dX12_init_8 (gw 39 rfl rfl) (by decide) (by decide) (by decide) ?_
  refine I_nw hx rfl rfl rfl ?_
  show WP _ _ _ _ _ 36 180530 10 [some (.ref (x + 0)), none] [.ref (x + 1), .ref (x + 0)] (gi sh f g fR x [(12, 69), (20, 1800)] [] [] [])
  refine I_putR (pc := 10) (i := 0) dX12_init_10 flX12_7 hx hx0 rfl (ff_12_0 rfl rfl) (fun _ => rfl) (fun _ => rfl) (fun _ => rfl) ?_
  refine S_aload_n (pc := 13) dX12_init_13 rfl rfl ?_
  refine S_iconst (pc := 14) dX12_init_14 ic0 ?_
  refine I_putI (pc := 15) (i := 0) dX12_init_15 flX12_13 hx hx0 rfl nf_12_1 rfl rfl (fun _ => rfl) ?_
  refine S_aload_n (pc := 18) dX12_init_18 rfl rfl ?_
  refine S_iconst (pc := 19) dX12_init_19 ic0 ?_
  refine I_putI (pc := 20) (i := 0) dX12_init_20 flX12_17 hx hx0 rfl nf_12_2 rfl rfl (fun _ => rfl) ?_
  refine S_aload_n (pc := 23) dX12_init_23 rfl rfl ?_
  refine S_iconst (pc := 24) dX12_init_24 ic0 ?_
  refine I_putI (pc := 25) (i := 0) dX12_init_25 flX12_20 hx hx0 rfl nf_12_3 rfl rfl (fun _ => rfl) ?_
  refine S_aload_n (pc := 28) dX12_init_28 rfl rfl ?_
  refine S_iconst (pc := 29) dX12_init_29 ic0 ?_
  refine I_putI (pc := 30) (i := 0) dX12_init_30 flX12_23 hx hx0 rfl nf_12_4 rfl rfl (fun _ => rfl) ?_
  refine S_aload_n (pc := 33) dX12_init_33 rfl rfl ?_
  refine S_iconst (pc := 34) dX12_init_34 ic0 ?_
  refine I_putI (pc := 35) (i := 0) dX12_init_35 flX12_26 hx hx0 rfl nf_12_5 rfl rfl (fun _ => rfl) ?_
  refine S_aload_n (pc := 38) dX12_init_38 rfl rfl ?_
  refine S_iconst (pc := 39) dX12_init_39 ic0 ?_
  refine I_putI (pc := 40) (i := 0) dX12_init_40 flX12_29 hx hx0 rfl nf_12_6 rfl rfl (fun _ => rfl) ?_
  refine S_aload_n (pc := 43) dX12_init_43 rfl rfl ?_
  refine S_lconst (pc := 44) dX12_init_44 lc0 ?_
  refine I_putL (pc := 45) (i := 0) dX12_init_45 flX12_32 hx hx0 rfl nf_12_7 rfl ?_
  refine S_aload_n (pc := 48) dX12_init_48 rfl rfl ?_
  refine S_iconst (pc := 49) dX12_init_49 ic0 ?_
  refine I_putI (pc := 50) (i := 0) dX12_init_50 flX12_36 hx hx0 rfl nf_12_8 rfl rfl (fun _ => rfl) ?_
  refine S_aload_n (pc := 53) dX12_init_53 rfl rfl ?_
  refine S_iconst (pc := 54) dX12_init_54 icm1 ?_
  refine I_putI (pc := 55) (i := 0) dX12_init_55 flX12_39 hx hx0 rfl nf_12_9 rfl rfl (fun _ => rfl) ?_
  refine S_aload_n (pc := 58) dX12_init_58 rfl rfl ?_
  refine S_iconst (pc := 59) dX12_init_59 ic0 ?_
  refine I_putI (pc := 60) (i := 0) dX12_init_60 flX12_42 hx hx0 rfl nf_12_10 rfl rfl (fun _ => rfl) ?_
  refine S_aload_n (pc := 63) dX12_init_63 rfl rfl ?_
  refine S_iconst (pc := 64) dX12_init_64 icm1 ?_
  refine I_putI (pc := 65) (i := 0) dX12_init_65 flX12_45 hx hx0 rfl nf_12_11 rfl rfl (fun _ => rfl) ?_
  refine S_aload_n (pc := 68) dX12_init_68 rfl rfl ?_
  refine S_iconst (pc := 69) dX12_init_69 icm1 ?_
  refine I_putI (pc := 70) (i := 0) dX12_init_70 flX12_48 hx hx0 rfl nf_12_12 rfl rfl (fun _ => rfl) ?_
  refine S_aload_n (pc := 73) dX12_init_73 rfl rfl ?_
  refine S_iconst (pc := 74) dX12_init_74 ic0 ?_
  refine I_putI (pc := 75) (i := 0) dX12_init_75 flX12_51 hx hx0 rfl nf_12_13 rfl rfl (fun _ => rfl) ?_
  refine S_aload_n (pc := 78) dX12_init_78 rfl rfl ?_
  refine S_iconst (pc := 79) dX12_init_79 ic2 ?_
  refine S_newa20 (pc := 80) (N := 2) (kc := 35) (ks := 180528) dX12_init_80 (gw 39 rfl rfl) (by decide) (by decide) (by decide) ?_
  refine I_nw hx rfl rfl rfl ?_
  show WP _ _ _ _ _ 35 180528 82 [some (.ref (x + 0)), none] [.ref (x + 2), .ref (x + 0)] (gi sh f g fR x [(12, 69), (20, 1800), (20, 2)] [(0, 0, x + 1)] [(0, 13, (nI 0)), (0, 12, (-1)), (0, 11, (-1)), (0, 10, (nI 0)), (0, 9, (-1)), (0, 8, (nI 0)), (0, 6, (nI 0)), (0, 5, (nI 0)), (0, 4, (nI 0)), (0, 3, (nI 0)), (0, 2, (nI 0)), (0, 1, (nI 0))] [(0, 7, lN 0)])
  refine I_putR (pc := 82) (i := 0) dX12_init_82 flX12_54 hx hx0 rfl (ff_12_14 rfl rfl) (fun _ => rfl) (fun _ => rfl) (fun _ => rfl) ?_
  refine S_aload_n (pc := 85) dX12_init_85 rfl rfl ?_
  refine S_iconst (pc := 86) dX12_init_86 ic2 ?_
  refine S_newa20 (pc := 87) (N := 2) (kc := 34) (ks := 180526) dX12_init_87 (gw 39 rfl rfl) (by decide) (by decide) (by decide) ?_
  refine I_nw hx rfl rfl rfl ?_
  show WP _ _ _ _ _ 34 180526 89 [some (.ref (x + 0)), none] [.ref (x + 3), .ref (x + 0)] (gi sh f g fR x [(12, 69), (20, 1800), (20, 2), (20, 2)] [(0, 14, x + 2), (0, 0, x + 1)] [(0, 13, (nI 0)), (0, 12, (-1)), (0, 11, (-1)), (0, 10, (nI 0)), (0, 9, (-1)), (0, 8, (nI 0)), (0, 6, (nI 0)), (0, 5, (nI 0)), (0, 4, (nI 0)), (0, 3, (nI 0)), (0, 2, (nI 0)), (0, 1, (nI 0))] [(0, 7, lN 0)])
  refine I_putR (pc := 89) (i := 0) dX12_init_89 flX12_57 hx hx0 rfl (ff_12_15 rfl rfl) (fun _ => rfl) (fun _ => rfl) (fun _ => rfl) ?_
  refine S_aload_n (pc := 92) dX12_init_92 rfl rfl ?_
  refine S_iconst (pc := 93) dX12_init_93 ic2 ?_
  refine S_newa20 (pc := 94) (N := 2) (kc := 33) (ks := 180524) dX12_init_94 (gw 39 rfl rfl) (by decide) (by decide) (by decide) ?_
  refine I_nw hx rfl rfl rfl ?_
  show WP _ _ _ _ _ 33 180524 96 [some (.ref (x + 0)), none] [.ref (x + 4), .ref (x + 0)] (gi sh f g fR x [(12, 69), (20, 1800), (20, 2), (20, 2), (20, 2)] [(0, 15, x + 3), (0, 14, x + 2), (0, 0, x + 1)] [(0, 13, (nI 0)), (0, 12, (-1)), (0, 11, (-1)), (0, 10, (nI 0)), (0, 9, (-1)), (0, 8, (nI 0)), (0, 6, (nI 0)), (0, 5, (nI 0)), (0, 4, (nI 0)), (0, 3, (nI 0)), (0, 2, (nI 0)), (0, 1, (nI 0))] [(0, 7, lN 0)])
  refine I_putR (pc := 96) (i := 0) dX12_init_96 flX12_60 hx hx0 rfl (ff_12_16 rfl rfl) (fun _ => rfl) (fun _ => rfl) (fun _ => rfl) ?_
  refine S_aload_n (pc := 99) dX12_init_99 rfl rfl ?_
  refine S_iconst (pc := 100) dX12_init_100 ic2 ?_
  refine S_newa20 (pc := 101) (N := 2) (kc := 32) (ks := 180522) dX12_init_101 (gw 39 rfl rfl) (by decide) (by decide) (by decide) ?_
  refine I_nw hx rfl rfl rfl ?_
  show WP _ _ _ _ _ 32 180522 103 [some (.ref (x + 0)), none] [.ref (x + 5), .ref (x + 0)] (gi sh f g fR x [(12, 69), (20, 1800), (20, 2), (20, 2), (20, 2), (20, 2)] [(0, 16, x + 4), (0, 15, x + 3), (0, 14, x + 2), (0, 0, x + 1)] [(0, 13, (nI 0)), (0, 12, (-1)), (0, 11, (-1)), (0, 10, (nI 0)), (0, 9, (-1)), (0, 8, (nI 0)), (0, 6, (nI 0)), (0, 5, (nI 0)), (0, 4, (nI 0)), (0, 3, (nI 0)), (0, 2, (nI 0)), (0, 1, (nI 0))] [(0, 7, lN 0)])
  refine I_putR (pc := 103) (i := 0) dX12_init_103 flX12_63 hx hx0 rfl (ff_12_17 rfl rfl) (fun _ => rfl) (fun _ => rfl) (fun _ => rfl) ?_
  refine S_aload_n (pc := 106) dX12_init_106 rfl rfl ?_
  refine S_iconst (pc := 107) dX12_init_107 ic2 ?_
  refine S_newa20 (pc := 108) (N := 2) (kc := 31) (ks := 180520) dX12_init_108 (gw 39 rfl rfl) (by decide) (by decide) (by decide) ?_
  refine I_nw hx rfl rfl rfl ?_
  show WP _ _ _ _ _ 31 180520 110 [some (.ref (x + 0)), none] [.ref (x + 6), .ref (x + 0)] (gi sh f g fR x [(12, 69), (20, 1800), (20, 2), (20, 2), (20, 2), (20, 2), (20, 2)] [(0, 17, x + 5), (0, 16, x + 4), (0, 15, x + 3), (0, 14, x + 2), (0, 0, x + 1)] [(0, 13, (nI 0)), (0, 12, (-1)), (0, 11, (-1)), (0, 10, (nI 0)), (0, 9, (-1)), (0, 8, (nI 0)), (0, 6, (nI 0)), (0, 5, (nI 0)), (0, 4, (nI 0)), (0, 3, (nI 0)), (0, 2, (nI 0)), (0, 1, (nI 0))] [(0, 7, lN 0)])
  refine I_putR (pc := 110) (i := 0) dX12_init_110 flX12_66 hx hx0 rfl (ff_12_18 rfl rfl) (fun _ => rfl) (fun _ => rfl) (fun _ => rfl) ?_
  refine S_aload_n (pc := 113) dX12_init_113 rfl rfl ?_
  refine S_bipush (pc := 114) dX12_init_114 bp8 ?_
  refine S_newa20 (pc := 116) (N := 8) (kc := 30) (ks := 180512) dX12_init_116 (gw 39 rfl rfl) (by decide) (by decide) (by decide) ?_
  refine I_nw hx rfl rfl rfl ?_
  show WP _ _ _ _ _ 30 180512 118 [some (.ref (x + 0)), none] [.ref (x + 7), .ref (x + 0)] (gi sh f g fR x [(12, 69), (20, 1800), (20, 2), (20, 2), (20, 2), (20, 2), (20, 2), (20, 8)] [(0, 18, x + 6), (0, 17, x + 5), (0, 16, x + 4), (0, 15, x + 3), (0, 14, x + 2), (0, 0, x + 1)] [(0, 13, (nI 0)), (0, 12, (-1)), (0, 11, (-1)), (0, 10, (nI 0)), (0, 9, (-1)), (0, 8, (nI 0)), (0, 6, (nI 0)), (0, 5, (nI 0)), (0, 4, (nI 0)), (0, 3, (nI 0)), (0, 2, (nI 0)), (0, 1, (nI 0))] [(0, 7, lN 0)])
  refine I_putR (pc := 118) (i := 0) dX12_init_118 flX12_69 hx hx0 rfl (ff_12_19 rfl rfl) (fun _ => rfl) (fun _ => rfl) (fun _ => rfl) ?_
  refine S_aload_n (pc := 121) dX12_init_121 rfl rfl ?_
  refine S_bipush (pc := 122) dX12_init_122 bp8 ?_
  refine S_newa20 (pc := 124) (N := 8) (kc := 29) (ks := 180504) dX12_init_124 (gw 39 rfl rfl) (by decide) (by decide) (by decide) ?_
  refine I_nw hx rfl rfl rfl ?_
  show WP _ _ _ _ _ 29 180504 126 [some (.ref (x + 0)), none] [.ref (x + 8), .ref (x + 0)] (gi sh f g fR x [(12, 69), (20, 1800), (20, 2), (20, 2), (20, 2), (20, 2), (20, 2), (20, 8), (20, 8)] [(0, 19, x + 7), (0, 18, x + 6), (0, 17, x + 5), (0, 16, x + 4), (0, 15, x + 3), (0, 14, x + 2), (0, 0, x + 1)] [(0, 13, (nI 0)), (0, 12, (-1)), (0, 11, (-1)), (0, 10, (nI 0)), (0, 9, (-1)), (0, 8, (nI 0)), (0, 6, (nI 0)), (0, 5, (nI 0)), (0, 4, (nI 0)), (0, 3, (nI 0)), (0, 2, (nI 0)), (0, 1, (nI 0))] [(0, 7, lN 0)])
  refine I_putR (pc := 126) (i := 0) dX12_init_126 flX12_72 hx hx0 rfl (ff_12_20 rfl rfl) (fun _ => rfl) (fun _ => rfl) (fun _ => rfl) ?_
  refine S_aload_n (pc := 129) dX12_init_129 rfl rfl ?_
  refine S_bipush (pc := 130) dX12_init_130 bp8 ?_
  refine S_newa20 (pc := 132) (N := 8) (kc := 28) (ks := 180496) dX12_init_132 (gw 39 rfl rfl) (by decide) (by decide) (by decide) ?_
  refine I_nw hx rfl rfl rfl ?_
  show WP _ _ _ _ _ 28 180496 134 [some (.ref (x + 0)), none] [.ref (x + 9), .ref (x + 0)] (gi sh f g fR x [(12, 69), (20, 1800), (20, 2), (20, 2), (20, 2), (20, 2), (20, 2), (20, 8), (20, 8), (20, 8)] [(0, 20, x + 8), (0, 19, x + 7), (0, 18, x + 6), (0, 17, x + 5), (0, 16, x + 4), (0, 15, x + 3), (0, 14, x + 2), (0, 0, x + 1)] [(0, 13, (nI 0)), (0, 12, (-1)), (0, 11, (-1)), (0, 10, (nI 0)), (0, 9, (-1)), (0, 8, (nI 0)), (0, 6, (nI 0)), (0, 5, (nI 0)), (0, 4, (nI 0)), (0, 3, (nI 0)), (0, 2, (nI 0)), (0, 1, (nI 0))] [(0, 7, lN 0)])
  refine I_putR (pc := 134) (i := 0) dX12_init_134 flX12_75 hx hx0 rfl (ff_12_21 rfl rfl) (fun _ => rfl) (fun _ => rfl) (fun _ => rfl) ?_
  refine S_aload_n (pc := 137) dX12_init_137 rfl rfl ?_
  refine S_iconst (pc := 138) dX12_init_138 ic2 ?_
  refine S_newa20 (pc := 139) (N := 2) (kc := 27) (ks := 180494) dX12_init_139 (gw 39 rfl rfl) (by decide) (by decide) (by decide) ?_
  refine I_nw hx rfl rfl rfl ?_
  show WP _ _ _ _ _ 27 180494 141 [some (.ref (x + 0)), none] [.ref (x + 10), .ref (x + 0)] (gi sh f g fR x [(12, 69), (20, 1800), (20, 2), (20, 2), (20, 2), (20, 2), (20, 2), (20, 8), (20, 8), (20, 8), (20, 2)] [(0, 21, x + 9), (0, 20, x + 8), (0, 19, x + 7), (0, 18, x + 6), (0, 17, x + 5), (0, 16, x + 4), (0, 15, x + 3), (0, 14, x + 2), (0, 0, x + 1)] [(0, 13, (nI 0)), (0, 12, (-1)), (0, 11, (-1)), (0, 10, (nI 0)), (0, 9, (-1)), (0, 8, (nI 0)), (0, 6, (nI 0)), (0, 5, (nI 0)), (0, 4, (nI 0)), (0, 3, (nI 0)), (0, 2, (nI 0)), (0, 1, (nI 0))] [(0, 7, lN 0)])
  refine I_putR (pc := 141) (i := 0) dX12_init_141 flX12_78 hx hx0 rfl (ff_12_22 rfl rfl) (fun _ => rfl) (fun _ => rfl) (fun _ => rfl) ?_
  refine S_aload_n (pc := 144) dX12_init_144 rfl rfl ?_
  refine S_bipush (pc := 145) dX12_init_145 bp8 ?_
  refine S_newa20 (pc := 147) (N := 8) (kc := 26) (ks := 180486) dX12_init_147 (gw 39 rfl rfl) (by decide) (by decide) (by decide) ?_
  refine I_nw hx rfl rfl rfl ?_
  show WP _ _ _ _ _ 26 180486 149 [some (.ref (x + 0)), none] [.ref (x + 11), .ref (x + 0)] (gi sh f g fR x [(12, 69), (20, 1800), (20, 2), (20, 2), (20, 2), (20, 2), (20, 2), (20, 8), (20, 8), (20, 8), (20, 2), (20, 8)] [(0, 22, x + 10), (0, 21, x + 9), (0, 20, x + 8), (0, 19, x + 7), (0, 18, x + 6), (0, 17, x + 5), (0, 16, x + 4), (0, 15, x + 3), (0, 14, x + 2), (0, 0, x + 1)] [(0, 13, (nI 0)), (0, 12, (-1)), (0, 11, (-1)), (0, 10, (nI 0)), (0, 9, (-1)), (0, 8, (nI 0)), (0, 6, (nI 0)), (0, 5, (nI 0)), (0, 4, (nI 0)), (0, 3, (nI 0)), (0, 2, (nI 0)), (0, 1, (nI 0))] [(0, 7, lN 0)])
  refine I_putR (pc := 149) (i := 0) dX12_init_149 flX12_81 hx hx0 rfl (ff_12_23 rfl rfl) (fun _ => rfl) (fun _ => rfl) (fun _ => rfl) ?_
  refine S_aload_n (pc := 152) dX12_init_152 rfl rfl ?_
  refine S_bipush (pc := 153) dX12_init_153 bp8 ?_
  refine S_newa20 (pc := 155) (N := 8) (kc := 25) (ks := 180478) dX12_init_155 (gw 39 rfl rfl) (by decide) (by decide) (by decide) ?_
  refine I_nw hx rfl rfl rfl ?_
  show WP _ _ _ _ _ 25 180478 157 [some (.ref (x + 0)), none] [.ref (x + 12), .ref (x + 0)] (gi sh f g fR x [(12, 69), (20, 1800), (20, 2), (20, 2), (20, 2), (20, 2), (20, 2), (20, 8), (20, 8), (20, 8), (20, 2), (20, 8), (20, 8)] [(0, 23, x + 11), (0, 22, x + 10), (0, 21, x + 9), (0, 20, x + 8), (0, 19, x + 7), (0, 18, x + 6), (0, 17, x + 5), (0, 16, x + 4), (0, 15, x + 3), (0, 14, x + 2), (0, 0, x + 1)] [(0, 13, (nI 0)), (0, 12, (-1)), (0, 11, (-1)), (0, 10, (nI 0)), (0, 9, (-1)), (0, 8, (nI 0)), (0, 6, (nI 0)), (0, 5, (nI 0)), (0, 4, (nI 0)), (0, 3, (nI 0)), (0, 2, (nI 0)), (0, 1, (nI 0))] [(0, 7, lN 0)])
  refine I_putR (pc := 157) (i := 0) dX12_init_157 flX12_84 hx hx0 rfl (ff_12_24 rfl rfl) (fun _ => rfl) (fun _ => rfl) (fun _ => rfl) ?_
  refine S_aload_n (pc := 160) dX12_init_160 rfl rfl ?_
  refine S_sipush (pc := 161) dX12_init_161 sp3200 ?_
  refine S_newa20 (pc := 164) (N := 3200) (kc := 24) (ks := 177278) dX12_init_164 (gw 39 rfl rfl) (by decide) (by decide) (by decide) ?_
  refine I_nw hx rfl rfl rfl ?_
  show WP _ _ _ _ _ 24 177278 166 [some (.ref (x + 0)), none] [.ref (x + 13), .ref (x + 0)] (gi sh f g fR x [(12, 69), (20, 1800), (20, 2), (20, 2), (20, 2), (20, 2), (20, 2), (20, 8), (20, 8), (20, 8), (20, 2), (20, 8), (20, 8), (20, 3200)] [(0, 24, x + 12), (0, 23, x + 11), (0, 22, x + 10), (0, 21, x + 9), (0, 20, x + 8), (0, 19, x + 7), (0, 18, x + 6), (0, 17, x + 5), (0, 16, x + 4), (0, 15, x + 3), (0, 14, x + 2), (0, 0, x + 1)] [(0, 13, (nI 0)), (0, 12, (-1)), (0, 11, (-1)), (0, 10, (nI 0)), (0, 9, (-1)), (0, 8, (nI 0)), (0, 6, (nI 0)), (0, 5, (nI 0)), (0, 4, (nI 0)), (0, 3, (nI 0)), (0, 2, (nI 0)), (0, 1, (nI 0))] [(0, 7, lN 0)])
  refine I_putR (pc := 166) (i := 0) dX12_init_166 flX12_87 hx hx0 rfl (ff_12_25 rfl rfl) (fun _ => rfl) (fun _ => rfl) (fun _ => rfl) ?_
  refine S_aload_n (pc := 169) dX12_init_169 rfl rfl ?_
  refine S_sipush (pc := 170) dX12_init_170 sp3200 ?_
  refine S_newa20 (pc := 173) (N := 3200) (kc := 23) (ks := 174078) dX12_init_173 (gw 39 rfl rfl) (by decide) (by decide) (by decide) ?_
  refine I_nw hx rfl rfl rfl ?_
  show WP _ _ _ _ _ 23 174078 175 [some (.ref (x + 0)), none] [.ref (x + 14), .ref (x + 0)] (gi sh f g fR x [(12, 69), (20, 1800), (20, 2), (20, 2), (20, 2), (20, 2), (20, 2), (20, 8), (20, 8), (20, 8), (20, 2), (20, 8), (20, 8), (20, 3200), (20, 3200)] [(0, 25, x + 13), (0, 24, x + 12), (0, 23, x + 11), (0, 22, x + 10), (0, 21, x + 9), (0, 20, x + 8), (0, 19, x + 7), (0, 18, x + 6), (0, 17, x + 5), (0, 16, x + 4), (0, 15, x + 3), (0, 14, x + 2), (0, 0, x + 1)] [(0, 13, (nI 0)), (0, 12, (-1)), (0, 11, (-1)), (0, 10, (nI 0)), (0, 9, (-1)), (0, 8, (nI 0)), (0, 6, (nI 0)), (0, 5, (nI 0)), (0, 4, (nI 0)), (0, 3, (nI 0)), (0, 2, (nI 0)), (0, 1, (nI 0))] [(0, 7, lN 0)])
  refine I_putR (pc := 175) (i := 0) dX12_init_175 flX12_90 hx hx0 rfl (ff_12_26 rfl rfl) (fun _ => rfl) (fun _ => rfl) (fun _ => rfl) ?_
  refine S_aload_n (pc := 178) dX12_init_178 rfl rfl ?_
  refine S_bipush (pc := 179) dX12_init_179 bp8 ?_
  refine S_newa21 (pc := 181) (N := 8) (kc := 22) (ks := 174070) dX12_init_181 (gw 1385 rfl rfl) (by decide) (by decide) (by decide) ?_
  refine I_nw hx rfl rfl rfl ?_
  show WP _ _ _ _ _ 22 174070 183 [some (.ref (x + 0)), none] [.ref (x + 15), .ref (x + 0)] (gi sh f g fR x [(12, 69), (20, 1800), (20, 2), (20, 2), (20, 2), (20, 2), (20, 2), (20, 8), (20, 8), (20, 8), (20, 2), (20, 8), (20, 8), (20, 3200), (20, 3200), (21, 8)] [(0, 26, x + 14), (0, 25, x + 13), (0, 24, x + 12), (0, 23, x + 11), (0, 22, x + 10), (0, 21, x + 9), (0, 20, x + 8), (0, 19, x + 7), (0, 18, x + 6), (0, 17, x + 5), (0, 16, x + 4), (0, 15, x + 3), (0, 14, x + 2), (0, 0, x + 1)] [(0, 13, (nI 0)), (0, 12, (-1)), (0, 11, (-1)), (0, 10, (nI 0)), (0, 9, (-1)), (0, 8, (nI 0)), (0, 6, (nI 0)), (0, 5, (nI 0)), (0, 4, (nI 0)), (0, 3, (nI 0)), (0, 2, (nI 0)), (0, 1, (nI 0))] [(0, 7, lN 0)])
  refine I_putR (pc := 183) (i := 0) dX12_init_183 flX12_93 hx hx0 rfl (ff_12_27 rfl rfl) (fun _ => rfl) (fun _ => rfl) (fun _ => rfl) ?_
  refine S_aload_n (pc := 186) dX12_init_186 rfl rfl ?_
  refine S_iconst (pc := 187) dX12_init_187 ic0 ?_
  refine I_putI (pc := 188) (i := 0) dX12_init_188 flX12_97 hx hx0 rfl nf_12_28 rfl rfl (fun _ => rfl) ?_
  refine S_aload_n (pc := 191) dX12_init_191 rfl rfl ?_
  refine S_iconst (pc := 192) dX12_init_192 ic1 ?_
  refine I_putI (pc := 193) (i := 0) dX12_init_193 flX12_100 hx hx0 rfl nf_12_29 rfl rfl (fun _ => rfl) ?_
  refine S_aload_n (pc := 196) dX12_init_196 rfl rfl ?_
  refine S_iconst (pc := 197) dX12_init_197 ic0 ?_
  refine I_putI (pc := 198) (i := 0) dX12_init_198 flX12_103 hx hx0 rfl nf_12_30 rfl rfl (fun _ => rfl) ?_
  refine S_aload_n (pc := 201) dX12_init_201 rfl rfl ?_
  refine S_bipush (pc := 202) dX12_init_202 bp20 ?_
  refine S_newa20 (pc := 204) (N := 20) (kc := 21) (ks := 174050) dX12_init_204 (gw 39 rfl rfl) (by decide) (by decide) (by decide) ?_
  refine I_nw hx rfl rfl rfl ?_
  show WP _ _ _ _ _ 21 174050 206 [some (.ref (x + 0)), none] [.ref (x + 16), .ref (x + 0)] (gi sh f g fR x [(12, 69), (20, 1800), (20, 2), (20, 2), (20, 2), (20, 2), (20, 2), (20, 8), (20, 8), (20, 8), (20, 2), (20, 8), (20, 8), (20, 3200), (20, 3200), (21, 8), (20, 20)] [(0, 27, x + 15), (0, 26, x + 14), (0, 25, x + 13), (0, 24, x + 12), (0, 23, x + 11), (0, 22, x + 10), (0, 21, x + 9), (0, 20, x + 8), (0, 19, x + 7), (0, 18, x + 6), (0, 17, x + 5), (0, 16, x + 4), (0, 15, x + 3), (0, 14, x + 2), (0, 0, x + 1)] [(0, 30, (nI 0)), (0, 29, (nI 1)), (0, 28, (nI 0)), (0, 13, (nI 0)), (0, 12, (-1)), (0, 11, (-1)), (0, 10, (nI 0)), (0, 9, (-1)), (0, 8, (nI 0)), (0, 6, (nI 0)), (0, 5, (nI 0)), (0, 4, (nI 0)), (0, 3, (nI 0)), (0, 2, (nI 0)), (0, 1, (nI 0))] [(0, 7, lN 0)])
  refine I_putR (pc := 206) (i := 0) dX12_init_206 flX12_106 hx hx0 rfl (ff_12_31 rfl rfl) (fun _ => rfl) (fun _ => rfl) (fun _ => rfl) ?_
  refine S_aload_n (pc := 209) dX12_init_209 rfl rfl ?_
  refine S_bipush (pc := 210) dX12_init_210 bp20 ?_
  refine S_newa20 (pc := 212) (N := 20) (kc := 20) (ks := 174030) dX12_init_212 (gw 39 rfl rfl) (by decide) (by decide) (by decide) ?_
  refine I_nw hx rfl rfl rfl ?_
  show WP _ _ _ _ _ 20 174030 214 [some (.ref (x + 0)), none] [.ref (x + 17), .ref (x + 0)] (gi sh f g fR x [(12, 69), (20, 1800), (20, 2), (20, 2), (20, 2), (20, 2), (20, 2), (20, 8), (20, 8), (20, 8), (20, 2), (20, 8), (20, 8), (20, 3200), (20, 3200), (21, 8), (20, 20), (20, 20)] [(0, 31, x + 16), (0, 27, x + 15), (0, 26, x + 14), (0, 25, x + 13), (0, 24, x + 12), (0, 23, x + 11), (0, 22, x + 10), (0, 21, x + 9), (0, 20, x + 8), (0, 19, x + 7), (0, 18, x + 6), (0, 17, x + 5), (0, 16, x + 4), (0, 15, x + 3), (0, 14, x + 2), (0, 0, x + 1)] [(0, 30, (nI 0)), (0, 29, (nI 1)), (0, 28, (nI 0)), (0, 13, (nI 0)), (0, 12, (-1)), (0, 11, (-1)), (0, 10, (nI 0)), (0, 9, (-1)), (0, 8, (nI 0)), (0, 6, (nI 0)), (0, 5, (nI 0)), (0, 4, (nI 0)), (0, 3, (nI 0)), (0, 2, (nI 0)), (0, 1, (nI 0))] [(0, 7, lN 0)])
  refine I_putR (pc := 214) (i := 0) dX12_init_214 flX12_109 hx hx0 rfl (ff_12_32 rfl rfl) (fun _ => rfl) (fun _ => rfl) (fun _ => rfl) ?_
  refine S_aload_n (pc := 217) dX12_init_217 rfl rfl ?_
  refine S_bipush (pc := 218) dX12_init_218 bp20 ?_
  refine S_newa22 (pc := 220) (N := 20) (kc := 19) (ks := 174010) dX12_init_220 (gw 337 rfl rfl) (by decide) (by decide) (by decide) ?_
  refine I_nw hx rfl rfl rfl ?_
  show WP _ _ _ _ _ 19 174010 222 [some (.ref (x + 0)), none] [.ref (x + 18), .ref (x + 0)] (gi sh f g fR x [(12, 69), (20, 1800), (20, 2), (20, 2), (20, 2), (20, 2), (20, 2), (20, 8), (20, 8), (20, 8), (20, 2), (20, 8), (20, 8), (20, 3200), (20, 3200), (21, 8), (20, 20), (20, 20), (22, 20)] [(0, 32, x + 17), (0, 31, x + 16), (0, 27, x + 15), (0, 26, x + 14), (0, 25, x + 13), (0, 24, x + 12), (0, 23, x + 11), (0, 22, x + 10), (0, 21, x + 9), (0, 20, x + 8), (0, 19, x + 7), (0, 18, x + 6), (0, 17, x + 5), (0, 16, x + 4), (0, 15, x + 3), (0, 14, x + 2), (0, 0, x + 1)] [(0, 30, (nI 0)), (0, 29, (nI 1)), (0, 28, (nI 0)), (0, 13, (nI 0)), (0, 12, (-1)), (0, 11, (-1)), (0, 10, (nI 0)), (0, 9, (-1)), (0, 8, (nI 0)), (0, 6, (nI 0)), (0, 5, (nI 0)), (0, 4, (nI 0)), (0, 3, (nI 0)), (0, 2, (nI 0)), (0, 1, (nI 0))] [(0, 7, lN 0)])
  refine I_putR (pc := 222) (i := 0) dX12_init_222 flX12_112 hx hx0 rfl (ff_12_33 rfl rfl) (fun _ => rfl) (fun _ => rfl) (fun _ => rfl) ?_
  refine S_aload_n (pc := 225) dX12_init_225 rfl rfl ?_
  refine S_bipush (pc := 226) dX12_init_226 bp20 ?_
  refine S_newa20 (pc := 228) (N := 20) (kc := 18) (ks := 173990) dX12_init_228 (gw 39 rfl rfl) (by decide) (by decide) (by decide) ?_
  refine I_nw hx rfl rfl rfl ?_
  show WP _ _ _ _ _ 18 173990 230 [some (.ref (x + 0)), none] [.ref (x + 19), .ref (x + 0)] (gi sh f g fR x [(12, 69), (20, 1800), (20, 2), (20, 2), (20, 2), (20, 2), (20, 2), (20, 8), (20, 8), (20, 8), (20, 2), (20, 8), (20, 8), (20, 3200), (20, 3200), (21, 8), (20, 20), (20, 20), (22, 20), (20, 20)] [(0, 33, x + 18), (0, 32, x + 17), (0, 31, x + 16), (0, 27, x + 15), (0, 26, x + 14), (0, 25, x + 13), (0, 24, x + 12), (0, 23, x + 11), (0, 22, x + 10), (0, 21, x + 9), (0, 20, x + 8), (0, 19, x + 7), (0, 18, x + 6), (0, 17, x + 5), (0, 16, x + 4), (0, 15, x + 3), (0, 14, x + 2), (0, 0, x + 1)] [(0, 30, (nI 0)), (0, 29, (nI 1)), (0, 28, (nI 0)), (0, 13, (nI 0)), (0, 12, (-1)), (0, 11, (-1)), (0, 10, (nI 0)), (0, 9, (-1)), (0, 8, (nI 0)), (0, 6, (nI 0)), (0, 5, (nI 0)), (0, 4, (nI 0)), (0, 3, (nI 0)), (0, 2, (nI 0)), (0, 1, (nI 0))] [(0, 7, lN 0)])
  refine I_putR (pc := 230) (i := 0) dX12_init_230 flX12_116 hx hx0 rfl (ff_12_34 rfl rfl) (fun _ => rfl) (fun _ => rfl) (fun _ => rfl) ?_
  refine S_aload_n (pc := 233) dX12_init_233 rfl rfl ?_
  refine S_bipush (pc := 234) dX12_init_234 bp20 ?_
  refine S_newa20 (pc := 236) (N := 20) (kc := 17) (ks := 173970) dX12_init_236 (gw 39 rfl rfl) (by decide) (by decide) (by decide) ?_
  refine I_nw hx rfl rfl rfl ?_
  show WP _ _ _ _ _ 17 173970 238 [some (.ref (x + 0)), none] [.ref (x + 20), .ref (x + 0)] (gi sh f g fR x [(12, 69), (20, 1800), (20, 2), (20, 2), (20, 2), (20, 2), (20, 2), (20, 8), (20, 8), (20, 8), (20, 2), (20, 8), (20, 8), (20, 3200), (20, 3200), (21, 8), (20, 20), (20, 20), (22, 20), (20, 20), (20, 20)] [(0, 34, x + 19), (0, 33, x + 18), (0, 32, x + 17), (0, 31, x + 16), (0, 27, x + 15), (0, 26, x + 14), (0, 25, x + 13), (0, 24, x + 12), (0, 23, x + 11), (0, 22, x + 10), (0, 21, x + 9), (0, 20, x + 8), (0, 19, x + 7), (0, 18, x + 6), (0, 17, x + 5), (0, 16, x + 4), (0, 15, x + 3), (0, 14, x + 2), (0, 0, x + 1)] [(0, 30, (nI 0)), (0, 29, (nI 1)), (0, 28, (nI 0)), (0, 13, (nI 0)), (0, 12, (-1)), (0, 11, (-1)), (0, 10, (nI 0)), (0, 9, (-1)), (0, 8, (nI 0)), (0, 6, (nI 0)), (0, 5, (nI 0)), (0, 4, (nI 0)), (0, 3, (nI 0)), (0, 2, (nI 0)), (0, 1, (nI 0))] [(0, 7, lN 0)])
  refine I_putR (pc := 238) (i := 0) dX12_init_238 flX12_119 hx hx0 rfl (ff_12_35 rfl rfl) (fun _ => rfl) (fun _ => rfl) (fun _ => rfl) ?_
  refine S_aload_n (pc := 241) dX12_init_241 rfl rfl ?_
  refine S_iconst (pc := 242) dX12_init_242 ic0 ?_
  refine I_putI (pc := 243) (i := 0) dX12_init_243 flX12_122 hx hx0 rfl nf_12_36 rfl rfl (fun _ => rfl) ?_
  refine S_aload_n (pc := 246) dX12_init_246 rfl rfl ?_
  refine S_iconst (pc := 247) dX12_init_247 ic0 ?_
  refine I_putI (pc := 248) (i := 0) dX12_init_248 flX12_125 hx hx0 rfl nf_12_37 rfl rfl (fun _ => rfl) ?_
  refine S_aload_n (pc := 251) dX12_init_251 rfl rfl ?_
  refine S_sipush (pc := 252) dX12_init_252 sp500 ?_
  refine S_newa20 (pc := 255) (N := 500) (kc := 16) (ks := 173470) dX12_init_255 (gw 39 rfl rfl) (by decide) (by decide) (by decide) ?_
  refine I_nw hx rfl rfl rfl ?_
  show WP _ _ _ _ _ 16 173470 257 [some (.ref (x + 0)), none] [.ref (x + 21), .ref (x + 0)] (gi sh f g fR x [(12, 69), (20, 1800), (20, 2), (20, 2), (20, 2), (20, 2), (20, 2), (20, 8), (20, 8), (20, 8), (20, 2), (20, 8), (20, 8), (20, 3200), (20, 3200), (21, 8), (20, 20), (20, 20), (22, 20), (20, 20), (20, 20), (20, 500)] [(0, 35, x + 20), (0, 34, x + 19), (0, 33, x + 18), (0, 32, x + 17), (0, 31, x + 16), (0, 27, x + 15), (0, 26, x + 14), (0, 25, x + 13), (0, 24, x + 12), (0, 23, x + 11), (0, 22, x + 10), (0, 21, x + 9), (0, 20, x + 8), (0, 19, x + 7), (0, 18, x + 6), (0, 17, x + 5), (0, 16, x + 4), (0, 15, x + 3), (0, 14, x + 2), (0, 0, x + 1)] [(0, 37, (nI 0)), (0, 36, (nI 0)), (0, 30, (nI 0)), (0, 29, (nI 1)), (0, 28, (nI 0)), (0, 13, (nI 0)), (0, 12, (-1)), (0, 11, (-1)), (0, 10, (nI 0)), (0, 9, (-1)), (0, 8, (nI 0)), (0, 6, (nI 0)), (0, 5, (nI 0)), (0, 4, (nI 0)), (0, 3, (nI 0)), (0, 2, (nI 0)), (0, 1, (nI 0))] [(0, 7, lN 0)])
  refine I_putR (pc := 257) (i := 0) dX12_init_257 flX12_128 hx hx0 rfl (ff_12_38 rfl rfl) (fun _ => rfl) (fun _ => rfl) (fun _ => rfl) ?_
  refine S_aload_n (pc := 260) dX12_init_260 rfl rfl ?_
  refine S_iconst (pc := 261) dX12_init_261 ic0 ?_
  refine I_putI (pc := 262) (i := 0) dX12_init_262 flX12_131 hx hx0 rfl nf_12_39 rfl rfl (fun _ => rfl) ?_
  refine S_aload_n (pc := 265) dX12_init_265 rfl rfl ?_
  refine S_iconst (pc := 266) dX12_init_266 ic0 ?_
  refine I_putI (pc := 267) (i := 0) dX12_init_267 flX12_134 hx hx0 rfl nf_12_40 nb0 rfl (fun _ => rfl) ?_
  refine S_aload_n (pc := 270) dX12_init_270 rfl rfl ?_
  refine S_iconst (pc := 271) dX12_init_271 ic0 ?_
  refine I_putI (pc := 272) (i := 0) dX12_init_272 flX12_138 hx hx0 rfl nf_12_41 nb0 rfl (fun _ => rfl) ?_
  refine S_aload_n (pc := 275) dX12_init_275 rfl rfl ?_
  refine S_bipush (pc := 276) dX12_init_276 bp6 ?_
  refine S_newa20 (pc := 278) (N := 6) (kc := 15) (ks := 173464) dX12_init_278 (gw 39 rfl rfl) (by decide) (by decide) (by decide) ?_
  refine I_nw hx rfl rfl rfl ?_
  show WP _ _ _ _ _ 15 173464 280 [some (.ref (x + 0)), none] [.ref (x + 22), .ref (x + 0)] (gi sh f g fR x [(12, 69), (20, 1800), (20, 2), (20, 2), (20, 2), (20, 2), (20, 2), (20, 8), (20, 8), (20, 8), (20, 2), (20, 8), (20, 8), (20, 3200), (20, 3200), (21, 8), (20, 20), (20, 20), (22, 20), (20, 20), (20, 20), (20, 500), (20, 6)] [(0, 38, x + 21), (0, 35, x + 20), (0, 34, x + 19), (0, 33, x + 18), (0, 32, x + 17), (0, 31, x + 16), (0, 27, x + 15), (0, 26, x + 14), (0, 25, x + 13), (0, 24, x + 12), (0, 23, x + 11), (0, 22, x + 10), (0, 21, x + 9), (0, 20, x + 8), (0, 19, x + 7), (0, 18, x + 6), (0, 17, x + 5), (0, 16, x + 4), (0, 15, x + 3), (0, 14, x + 2), (0, 0, x + 1)] [(0, 41, (nI 0)), (0, 40, (nI 0)), (0, 39, (nI 0)), (0, 37, (nI 0)), (0, 36, (nI 0)), (0, 30, (nI 0)), (0, 29, (nI 1)), (0, 28, (nI 0)), (0, 13, (nI 0)), (0, 12, (-1)), (0, 11, (-1)), (0, 10, (nI 0)), (0, 9, (-1)), (0, 8, (nI 0)), (0, 6, (nI 0)), (0, 5, (nI 0)), (0, 4, (nI 0)), (0, 3, (nI 0)), (0, 2, (nI 0)), (0, 1, (nI 0))] [(0, 7, lN 0)])
  refine I_putR (pc := 280) (i := 0) dX12_init_280 flX12_141 hx hx0 rfl (ff_12_42 rfl rfl) (fun _ => rfl) (fun _ => rfl) (fun _ => rfl) ?_
  refine S_aload_n (pc := 283) dX12_init_283 rfl rfl ?_
  refine S_sipush (pc := 284) dX12_init_284 sp880 ?_
  refine S_newa20 (pc := 287) (N := 880) (kc := 14) (ks := 172584) dX12_init_287 (gw 39 rfl rfl) (by decide) (by decide) (by decide) ?_
  refine I_nw hx rfl rfl rfl ?_
  show WP _ _ _ _ _ 14 172584 289 [some (.ref (x + 0)), none] [.ref (x + 23), .ref (x + 0)] (gi sh f g fR x [(12, 69), (20, 1800), (20, 2), (20, 2), (20, 2), (20, 2), (20, 2), (20, 8), (20, 8), (20, 8), (20, 2), (20, 8), (20, 8), (20, 3200), (20, 3200), (21, 8), (20, 20), (20, 20), (22, 20), (20, 20), (20, 20), (20, 500), (20, 6), (20, 880)] [(0, 42, x + 22), (0, 38, x + 21), (0, 35, x + 20), (0, 34, x + 19), (0, 33, x + 18), (0, 32, x + 17), (0, 31, x + 16), (0, 27, x + 15), (0, 26, x + 14), (0, 25, x + 13), (0, 24, x + 12), (0, 23, x + 11), (0, 22, x + 10), (0, 21, x + 9), (0, 20, x + 8), (0, 19, x + 7), (0, 18, x + 6), (0, 17, x + 5), (0, 16, x + 4), (0, 15, x + 3), (0, 14, x + 2), (0, 0, x + 1)] [(0, 41, (nI 0)), (0, 40, (nI 0)), (0, 39, (nI 0)), (0, 37, (nI 0)), (0, 36, (nI 0)), (0, 30, (nI 0)), (0, 29, (nI 1)), (0, 28, (nI 0)), (0, 13, (nI 0)), (0, 12, (-1)), (0, 11, (-1)), (0, 10, (nI 0)), (0, 9, (-1)), (0, 8, (nI 0)), (0, 6, (nI 0)), (0, 5, (nI 0)), (0, 4, (nI 0)), (0, 3, (nI 0)), (0, 2, (nI 0)), (0, 1, (nI 0))] [(0, 7, lN 0)])
  refine I_putR (pc := 289) (i := 0) dX12_init_289 flX12_144 hx hx0 rfl (ff_12_43 rfl rfl) (fun _ => rfl) (fun _ => rfl) (fun _ => rfl) ?_
  refine S_aload_n (pc := 292) dX12_init_292 rfl rfl ?_
  refine S_ldc (pc := 293) (v := nI 84480) dX12_init_293 (gw 1175 rfl rfl) ?_
  refine S_newa20 (pc := 295) (N := 84480) (kc := 13) (ks := 88104) dX12_init_295 (gw 39 rfl rfl) (by decide) (by decide) (by decide) ?_
  refine I_nw hx rfl rfl rfl ?_
  show WP _ _ _ _ _ 13 88104 297 [some (.ref (x + 0)), none] [.ref (x + 24), .ref (x + 0)] (gi sh f g fR x [(12, 69), (20, 1800), (20, 2), (20, 2), (20, 2), (20, 2), (20, 2), (20, 8), (20, 8), (20, 8), (20, 2), (20, 8), (20, 8), (20, 3200), (20, 3200), (21, 8), (20, 20), (20, 20), (22, 20), (20, 20), (20, 20), (20, 500), (20, 6), (20, 880), (20, 84480)] [(0, 43, x + 23), (0, 42, x + 22), (0, 38, x + 21), (0, 35, x + 20), (0, 34, x + 19), (0, 33, x + 18), (0, 32, x + 17), (0, 31, x + 16), (0, 27, x + 15), (0, 26, x + 14), (0, 25, x + 13), (0, 24, x + 12), (0, 23, x + 11), (0, 22, x + 10), (0, 21, x + 9), (0, 20, x + 8), (0, 19, x + 7), (0, 18, x + 6), (0, 17, x + 5), (0, 16, x + 4), (0, 15, x + 3), (0, 14, x + 2), (0, 0, x + 1)] [(0, 41, (nI 0)), (0, 40, (nI 0)), (0, 39, (nI 0)), (0, 37, (nI 0)), (0, 36, (nI 0)), (0, 30, (nI 0)), (0, 29, (nI 1)), (0, 28, (nI 0)), (0, 13, (nI 0)), (0, 12, (-1)), (0, 11, (-1)), (0, 10, (nI 0)), (0, 9, (-1)), (0, 8, (nI 0)), (0, 6, (nI 0)), (0, 5, (nI 0)), (0, 4, (nI 0)), (0, 3, (nI 0)), (0, 2, (nI 0)), (0, 1, (nI 0))] [(0, 7, lN 0)])
  refine I_putR (pc := 297) (i := 0) dX12_init_297 flX12_148 hx hx0 rfl (ff_12_44 rfl rfl) (fun _ => rfl) (fun _ => rfl) (fun _ => rfl) ?_
  refine S_aload_n (pc := 300) dX12_init_300 rfl rfl ?_
  refine S_sipush (pc := 301) dX12_init_301 sp21120 ?_
  refine S_newa20 (pc := 304) (N := 21120) (kc := 12) (ks := 66984) dX12_init_304 (gw 39 rfl rfl) (by decide) (by decide) (by decide) ?_
  refine I_nw hx rfl rfl rfl ?_
  show WP _ _ _ _ _ 12 66984 306 [some (.ref (x + 0)), none] [.ref (x + 25), .ref (x + 0)] (gi sh f g fR x [(12, 69), (20, 1800), (20, 2), (20, 2), (20, 2), (20, 2), (20, 2), (20, 8), (20, 8), (20, 8), (20, 2), (20, 8), (20, 8), (20, 3200), (20, 3200), (21, 8), (20, 20), (20, 20), (22, 20), (20, 20), (20, 20), (20, 500), (20, 6), (20, 880), (20, 84480), (20, 21120)] [(0, 44, x + 24), (0, 43, x + 23), (0, 42, x + 22), (0, 38, x + 21), (0, 35, x + 20), (0, 34, x + 19), (0, 33, x + 18), (0, 32, x + 17), (0, 31, x + 16), (0, 27, x + 15), (0, 26, x + 14), (0, 25, x + 13), (0, 24, x + 12), (0, 23, x + 11), (0, 22, x + 10), (0, 21, x + 9), (0, 20, x + 8), (0, 19, x + 7), (0, 18, x + 6), (0, 17, x + 5), (0, 16, x + 4), (0, 15, x + 3), (0, 14, x + 2), (0, 0, x + 1)] [(0, 41, (nI 0)), (0, 40, (nI 0)), (0, 39, (nI 0)), (0, 37, (nI 0)), (0, 36, (nI 0)), (0, 30, (nI 0)), (0, 29, (nI 1)), (0, 28, (nI 0)), (0, 13, (nI 0)), (0, 12, (-1)), (0, 11, (-1)), (0, 10, (nI 0)), (0, 9, (-1)), (0, 8, (nI 0)), (0, 6, (nI 0)), (0, 5, (nI 0)), (0, 4, (nI 0)), (0, 3, (nI 0)), (0, 2, (nI 0)), (0, 1, (nI 0))] [(0, 7, lN 0)])
  refine I_putR (pc := 306) (i := 0) dX12_init_306 flX12_151 hx hx0 rfl (ff_12_45 rfl rfl) (fun _ => rfl) (fun _ => rfl) (fun _ => rfl) ?_
  refine S_aload_n (pc := 309) dX12_init_309 rfl rfl ?_
  refine S_ldc (pc := 310) (v := nI 57200) dX12_init_310 (gw 1176 rfl rfl) ?_
  refine S_newa20 (pc := 312) (N := 57200) (kc := 11) (ks := 9784) dX12_init_312 (gw 39 rfl rfl) (by decide) (by decide) (by decide) ?_
  refine I_nw hx rfl rfl rfl ?_
  show WP _ _ _ _ _ 11 9784 314 [some (.ref (x + 0)), none] [.ref (x + 26), .ref (x + 0)] (gi sh f g fR x [(12, 69), (20, 1800), (20, 2), (20, 2), (20, 2), (20, 2), (20, 2), (20, 8), (20, 8), (20, 8), (20, 2), (20, 8), (20, 8), (20, 3200), (20, 3200), (21, 8), (20, 20), (20, 20), (22, 20), (20, 20), (20, 20), (20, 500), (20, 6), (20, 880), (20, 84480), (20, 21120), (20, 57200)] [(0, 45, x + 25), (0, 44, x + 24), (0, 43, x + 23), (0, 42, x + 22), (0, 38, x + 21), (0, 35, x + 20), (0, 34, x + 19), (0, 33, x + 18), (0, 32, x + 17), (0, 31, x + 16), (0, 27, x + 15), (0, 26, x + 14), (0, 25, x + 13), (0, 24, x + 12), (0, 23, x + 11), (0, 22, x + 10), (0, 21, x + 9), (0, 20, x + 8), (0, 19, x + 7), (0, 18, x + 6), (0, 17, x + 5), (0, 16, x + 4), (0, 15, x + 3), (0, 14, x + 2), (0, 0, x + 1)] [(0, 41, (nI 0)), (0, 40, (nI 0)), (0, 39, (nI 0)), (0, 37, (nI 0)), (0, 36, (nI 0)), (0, 30, (nI 0)), (0, 29, (nI 1)), (0, 28, (nI 0)), (0, 13, (nI 0)), (0, 12, (-1)), (0, 11, (-1)), (0, 10, (nI 0)), (0, 9, (-1)), (0, 8, (nI 0)), (0, 6, (nI 0)), (0, 5, (nI 0)), (0, 4, (nI 0)), (0, 3, (nI 0)), (0, 2, (nI 0)), (0, 1, (nI 0))] [(0, 7, lN 0)])
  refine I_putR (pc := 314) (i := 0) dX12_init_314 flX12_155 hx hx0 rfl (ff_12_46 rfl rfl) (fun _ => rfl) (fun _ => rfl) (fun _ => rfl) ?_
  refine S_aload_n (pc := 317) dX12_init_317 rfl rfl ?_
  refine S_sipush (pc := 318) dX12_init_318 sp4400 ?_
  refine S_newa20 (pc := 321) (N := 4400) (kc := 10) (ks := 5384) dX12_init_321 (gw 39 rfl rfl) (by decide) (by decide) (by decide) ?_
  refine I_nw hx rfl rfl rfl ?_
  show WP _ _ _ _ _ 10 5384 323 [some (.ref (x + 0)), none] [.ref (x + 27), .ref (x + 0)] (gi sh f g fR x [(12, 69), (20, 1800), (20, 2), (20, 2), (20, 2), (20, 2), (20, 2), (20, 8), (20, 8), (20, 8), (20, 2), (20, 8), (20, 8), (20, 3200), (20, 3200), (21, 8), (20, 20), (20, 20), (22, 20), (20, 20), (20, 20), (20, 500), (20, 6), (20, 880), (20, 84480), (20, 21120), (20, 57200), (20, 4400)] [(0, 46, x + 26), (0, 45, x + 25), (0, 44, x + 24), (0, 43, x + 23), (0, 42, x + 22), (0, 38, x + 21), (0, 35, x + 20), (0, 34, x + 19), (0, 33, x + 18), (0, 32, x + 17), (0, 31, x + 16), (0, 27, x + 15), (0, 26, x + 14), (0, 25, x + 13), (0, 24, x + 12), (0, 23, x + 11), (0, 22, x + 10), (0, 21, x + 9), (0, 20, x + 8), (0, 19, x + 7), (0, 18, x + 6), (0, 17, x + 5), (0, 16, x + 4), (0, 15, x + 3), (0, 14, x + 2), (0, 0, x + 1)] [(0, 41, (nI 0)), (0, 40, (nI 0)), (0, 39, (nI 0)), (0, 37, (nI 0)), (0, 36, (nI 0)), (0, 30, (nI 0)), (0, 29, (nI 1)), (0, 28, (nI 0)), (0, 13, (nI 0)), (0, 12, (-1)), (0, 11, (-1)), (0, 10, (nI 0)), (0, 9, (-1)), (0, 8, (nI 0)), (0, 6, (nI 0)), (0, 5, (nI 0)), (0, 4, (nI 0)), (0, 3, (nI 0)), (0, 2, (nI 0)), (0, 1, (nI 0))] [(0, 7, lN 0)])
  refine I_putR (pc := 323) (i := 0) dX12_init_323 flX12_158 hx hx0 rfl (ff_12_47 rfl rfl) (fun _ => rfl) (fun _ => rfl) (fun _ => rfl) ?_
  refine S_aload_n (pc := 326) dX12_init_326 rfl rfl ?_
  refine S_sipush (pc := 327) dX12_init_327 sp2640 ?_
  refine S_newa20 (pc := 330) (N := 2640) (kc := 9) (ks := 2744) dX12_init_330 (gw 39 rfl rfl) (by decide) (by decide) (by decide) ?_
  refine I_nw hx rfl rfl rfl ?_
  show WP _ _ _ _ _ 9 2744 332 [some (.ref (x + 0)), none] [.ref (x + 28), .ref (x + 0)] (gi sh f g fR x [(12, 69), (20, 1800), (20, 2), (20, 2), (20, 2), (20, 2), (20, 2), (20, 8), (20, 8), (20, 8), (20, 2), (20, 8), (20, 8), (20, 3200), (20, 3200), (21, 8), (20, 20), (20, 20), (22, 20), (20, 20), (20, 20), (20, 500), (20, 6), (20, 880), (20, 84480), (20, 21120), (20, 57200), (20, 4400), (20, 2640)] [(0, 47, x + 27), (0, 46, x + 26), (0, 45, x + 25), (0, 44, x + 24), (0, 43, x + 23), (0, 42, x + 22), (0, 38, x + 21), (0, 35, x + 20), (0, 34, x + 19), (0, 33, x + 18), (0, 32, x + 17), (0, 31, x + 16), (0, 27, x + 15), (0, 26, x + 14), (0, 25, x + 13), (0, 24, x + 12), (0, 23, x + 11), (0, 22, x + 10), (0, 21, x + 9), (0, 20, x + 8), (0, 19, x + 7), (0, 18, x + 6), (0, 17, x + 5), (0, 16, x + 4), (0, 15, x + 3), (0, 14, x + 2), (0, 0, x + 1)] [(0, 41, (nI 0)), (0, 40, (nI 0)), (0, 39, (nI 0)), (0, 37, (nI 0)), (0, 36, (nI 0)), (0, 30, (nI 0)), (0, 29, (nI 1)), (0, 28, (nI 0)), (0, 13, (nI 0)), (0, 12, (-1)), (0, 11, (-1)), (0, 10, (nI 0)), (0, 9, (-1)), (0, 8, (nI 0)), (0, 6, (nI 0)), (0, 5, (nI 0)), (0, 4, (nI 0)), (0, 3, (nI 0)), (0, 2, (nI 0)), (0, 1, (nI 0))] [(0, 7, lN 0)])
  refine I_putR (pc := 332) (i := 0) dX12_init_332 flX12_161 hx hx0 rfl (ff_12_48 rfl rfl) (fun _ => rfl) (fun _ => rfl) (fun _ => rfl) ?_
  refine S_aload_n (pc := 335) dX12_init_335 rfl rfl ?_
  refine S_iconst (pc := 336) dX12_init_336 ic0 ?_
  refine I_putI (pc := 337) (i := 0) dX12_init_337 flX12_164 hx hx0 rfl nf_12_49 rfl rfl (fun _ => rfl) ?_
  refine S_aload_n (pc := 340) dX12_init_340 rfl rfl ?_
  refine S_iconst (pc := 341) dX12_init_341 ic0 ?_
  refine I_putI (pc := 342) (i := 0) dX12_init_342 flX12_167 hx hx0 rfl nf_12_50 rfl rfl (fun _ => rfl) ?_
  refine S_aload_n (pc := 345) dX12_init_345 rfl rfl ?_
  refine S_lconst (pc := 346) dX12_init_346 lc1 ?_
  refine I_putL (pc := 347) (i := 0) dX12_init_347 flX12_170 hx hx0 rfl nf_12_51 rfl ?_
  refine S_aload_n (pc := 350) dX12_init_350 rfl rfl ?_
  refine S_iconst (pc := 351) dX12_init_351 ic0 ?_
  refine I_putI (pc := 352) (i := 0) dX12_init_352 flX12_173 hx hx0 rfl nf_12_52 rfl rfl (fun _ => rfl) ?_
  refine S_aload_n (pc := 355) dX12_init_355 rfl rfl ?_
  refine S_iconst (pc := 356) dX12_init_356 ic4 ?_
  refine S_newa20 (pc := 357) (N := 4) (kc := 8) (ks := 2740) dX12_init_357 (gw 39 rfl rfl) (by decide) (by decide) (by decide) ?_
  refine I_nw hx rfl rfl rfl ?_
  show WP _ _ _ _ _ 8 2740 359 [some (.ref (x + 0)), none] [.ref (x + 29), .ref (x + 0)] (gi sh f g fR x [(12, 69), (20, 1800), (20, 2), (20, 2), (20, 2), (20, 2), (20, 2), (20, 8), (20, 8), (20, 8), (20, 2), (20, 8), (20, 8), (20, 3200), (20, 3200), (21, 8), (20, 20), (20, 20), (22, 20), (20, 20), (20, 20), (20, 500), (20, 6), (20, 880), (20, 84480), (20, 21120), (20, 57200), (20, 4400), (20, 2640), (20, 4)] [(0, 48, x + 28), (0, 47, x + 27), (0, 46, x + 26), (0, 45, x + 25), (0, 44, x + 24), (0, 43, x + 23), (0, 42, x + 22), (0, 38, x + 21), (0, 35, x + 20), (0, 34, x + 19), (0, 33, x + 18), (0, 32, x + 17), (0, 31, x + 16), (0, 27, x + 15), (0, 26, x + 14), (0, 25, x + 13), (0, 24, x + 12), (0, 23, x + 11), (0, 22, x + 10), (0, 21, x + 9), (0, 20, x + 8), (0, 19, x + 7), (0, 18, x + 6), (0, 17, x + 5), (0, 16, x + 4), (0, 15, x + 3), (0, 14, x + 2), (0, 0, x + 1)] [(0, 52, (nI 0)), (0, 50, (nI 0)), (0, 49, (nI 0)), (0, 41, (nI 0)), (0, 40, (nI 0)), (0, 39, (nI 0)), (0, 37, (nI 0)), (0, 36, (nI 0)), (0, 30, (nI 0)), (0, 29, (nI 1)), (0, 28, (nI 0)), (0, 13, (nI 0)), (0, 12, (-1)), (0, 11, (-1)), (0, 10, (nI 0)), (0, 9, (-1)), (0, 8, (nI 0)), (0, 6, (nI 0)), (0, 5, (nI 0)), (0, 4, (nI 0)), (0, 3, (nI 0)), (0, 2, (nI 0)), (0, 1, (nI 0))] [(0, 51, lN 1), (0, 7, lN 0)])
  refine I_putR (pc := 359) (i := 0) dX12_init_359 flX12_176 hx hx0 rfl (ff_12_53 rfl rfl) (fun _ => rfl) (fun _ => rfl) (fun _ => rfl) ?_
  refine S_aload_n (pc := 362) dX12_init_362 rfl rfl ?_
  refine S_sipush (pc := 363) dX12_init_363 sp500 ?_
  refine S_newa21 (pc := 366) (N := 500) (kc := 7) (ks := 2240) dX12_init_366 (gw 1385 rfl rfl) (by decide) (by decide) (by decide) ?_
  refine I_nw hx rfl rfl rfl ?_
  show WP _ _ _ _ _ 7 2240 368 [some (.ref (x + 0)), none] [.ref (x + 30), .ref (x + 0)] (gi sh f g fR x [(12, 69), (20, 1800), (20, 2), (20, 2), (20, 2), (20, 2), (20, 2), (20, 8), (20, 8), (20, 8), (20, 2), (20, 8), (20, 8), (20, 3200), (20, 3200), (21, 8), (20, 20), (20, 20), (22, 20), (20, 20), (20, 20), (20, 500), (20, 6), (20, 880), (20, 84480), (20, 21120), (20, 57200), (20, 4400), (20, 2640), (20, 4), (21, 500)] [(0, 53, x + 29), (0, 48, x + 28), (0, 47, x + 27), (0, 46, x + 26), (0, 45, x + 25), (0, 44, x + 24), (0, 43, x + 23), (0, 42, x + 22), (0, 38, x + 21), (0, 35, x + 20), (0, 34, x + 19), (0, 33, x + 18), (0, 32, x + 17), (0, 31, x + 16), (0, 27, x + 15), (0, 26, x + 14), (0, 25, x + 13), (0, 24, x + 12), (0, 23, x + 11), (0, 22, x + 10), (0, 21, x + 9), (0, 20, x + 8), (0, 19, x + 7), (0, 18, x + 6), (0, 17, x + 5), (0, 16, x + 4), (0, 15, x + 3), (0, 14, x + 2), (0, 0, x + 1)] [(0, 52, (nI 0)), (0, 50, (nI 0)), (0, 49, (nI 0)), (0, 41, (nI 0)), (0, 40, (nI 0)), (0, 39, (nI 0)), (0, 37, (nI 0)), (0, 36, (nI 0)), (0, 30, (nI 0)), (0, 29, (nI 1)), (0, 28, (nI 0)), (0, 13, (nI 0)), (0, 12, (-1)), (0, 11, (-1)), (0, 10, (nI 0)), (0, 9, (-1)), (0, 8, (nI 0)), (0, 6, (nI 0)), (0, 5, (nI 0)), (0, 4, (nI 0)), (0, 3, (nI 0)), (0, 2, (nI 0)), (0, 1, (nI 0))] [(0, 51, lN 1), (0, 7, lN 0)])
  refine I_putR (pc := 368) (i := 0) dX12_init_368 flX12_179 hx hx0 rfl (ff_12_54 rfl rfl) (fun _ => rfl) (fun _ => rfl) (fun _ => rfl) ?_
  refine S_aload_n (pc := 371) dX12_init_371 rfl rfl ?_
  refine S_bipush (pc := 372) dX12_init_372 bp12 ?_
  refine S_newa20 (pc := 374) (N := 12) (kc := 6) (ks := 2228) dX12_init_374 (gw 39 rfl rfl) (by decide) (by decide) (by decide) ?_
  refine I_nw hx rfl rfl rfl ?_
  show WP _ _ _ _ _ 6 2228 376 [some (.ref (x + 0)), none] [.ref (x + 31), .ref (x + 0)] (gi sh f g fR x [(12, 69), (20, 1800), (20, 2), (20, 2), (20, 2), (20, 2), (20, 2), (20, 8), (20, 8), (20, 8), (20, 2), (20, 8), (20, 8), (20, 3200), (20, 3200), (21, 8), (20, 20), (20, 20), (22, 20), (20, 20), (20, 20), (20, 500), (20, 6), (20, 880), (20, 84480), (20, 21120), (20, 57200), (20, 4400), (20, 2640), (20, 4), (21, 500), (20, 12)] [(0, 54, x + 30), (0, 53, x + 29), (0, 48, x + 28), (0, 47, x + 27), (0, 46, x + 26), (0, 45, x + 25), (0, 44, x + 24), (0, 43, x + 23), (0, 42, x + 22), (0, 38, x + 21), (0, 35, x + 20), (0, 34, x + 19), (0, 33, x + 18), (0, 32, x + 17), (0, 31, x + 16), (0, 27, x + 15), (0, 26, x + 14), (0, 25, x + 13), (0, 24, x + 12), (0, 23, x + 11), (0, 22, x + 10), (0, 21, x + 9), (0, 20, x + 8), (0, 19, x + 7), (0, 18, x + 6), (0, 17, x + 5), (0, 16, x + 4), (0, 15, x + 3), (0, 14, x + 2), (0, 0, x + 1)] [(0, 52, (nI 0)), (0, 50, (nI 0)), (0, 49, (nI 0)), (0, 41, (nI 0)), (0, 40, (nI 0)), (0, 39, (nI 0)), (0, 37, (nI 0)), (0, 36, (nI 0)), (0, 30, (nI 0)), (0, 29, (nI 1)), (0, 28, (nI 0)), (0, 13, (nI 0)), (0, 12, (-1)), (0, 11, (-1)), (0, 10, (nI 0)), (0, 9, (-1)), (0, 8, (nI 0)), (0, 6, (nI 0)), (0, 5, (nI 0)), (0, 4, (nI 0)), (0, 3, (nI 0)), (0, 2, (nI 0)), (0, 1, (nI 0))] [(0, 51, lN 1), (0, 7, lN 0)])
  refine I_putR (pc := 376) (i := 0) dX12_init_376 flX12_182 hx hx0 rfl (ff_12_55 rfl rfl) (fun _ => rfl) (fun _ => rfl) (fun _ => rfl) ?_
  refine S_aload_n (pc := 379) dX12_init_379 rfl rfl ?_
  refine S_sipush (pc := 380) dX12_init_380 sp480 ?_
  refine S_newa20 (pc := 383) (N := 480) (kc := 5) (ks := 1748) dX12_init_383 (gw 39 rfl rfl) (by decide) (by decide) (by decide) ?_
  refine I_nw hx rfl rfl rfl ?_
  show WP _ _ _ _ _ 5 1748 385 [some (.ref (x + 0)), none] [.ref (x + 32), .ref (x + 0)] (gi sh f g fR x [(12, 69), (20, 1800), (20, 2), (20, 2), (20, 2), (20, 2), (20, 2), (20, 8), (20, 8), (20, 8), (20, 2), (20, 8), (20, 8), (20, 3200), (20, 3200), (21, 8), (20, 20), (20, 20), (22, 20), (20, 20), (20, 20), (20, 500), (20, 6), (20, 880), (20, 84480), (20, 21120), (20, 57200), (20, 4400), (20, 2640), (20, 4), (21, 500), (20, 12), (20, 480)] [(0, 55, x + 31), (0, 54, x + 30), (0, 53, x + 29), (0, 48, x + 28), (0, 47, x + 27), (0, 46, x + 26), (0, 45, x + 25), (0, 44, x + 24), (0, 43, x + 23), (0, 42, x + 22), (0, 38, x + 21), (0, 35, x + 20), (0, 34, x + 19), (0, 33, x + 18), (0, 32, x + 17), (0, 31, x + 16), (0, 27, x + 15), (0, 26, x + 14), (0, 25, x + 13), (0, 24, x + 12), (0, 23, x + 11), (0, 22, x + 10), (0, 21, x + 9), (0, 20, x + 8), (0, 19, x + 7), (0, 18, x + 6), (0, 17, x + 5), (0, 16, x + 4), (0, 15, x + 3), (0, 14, x + 2), (0, 0, x + 1)] [(0, 52, (nI 0)), (0, 50, (nI 0)), (0, 49, (nI 0)), (0, 41, (nI 0)), (0, 40, (nI 0)), (0, 39, (nI 0)), (0, 37, (nI 0)), (0, 36, (nI 0)), (0, 30, (nI 0)), (0, 29, (nI 1)), (0, 28, (nI 0)), (0, 13, (nI 0)), (0, 12, (-1)), (0, 11, (-1)), (0, 10, (nI 0)), (0, 9, (-1)), (0, 8, (nI 0)), (0, 6, (nI 0)), (0, 5, (nI 0)), (0, 4, (nI 0)), (0, 3, (nI 0)), (0, 2, (nI 0)), (0, 1, (nI 0))] [(0, 51, lN 1), (0, 7, lN 0)])
  refine I_putR (pc := 385) (i := 0) dX12_init_385 flX12_185 hx hx0 rfl (ff_12_56 rfl rfl) (fun _ => rfl) (fun _ => rfl) (fun _ => rfl) ?_
  refine S_aload_n (pc := 388) dX12_init_388 rfl rfl ?_
  refine S_iconst (pc := 389) dX12_init_389 ic0 ?_
  refine I_putI (pc := 390) (i := 0) dX12_init_390 flX12_188 hx hx0 rfl nf_12_57 rfl rfl (fun _ => rfl) ?_
  refine S_aload_n (pc := 393) dX12_init_393 rfl rfl ?_
  refine S_sipush (pc := 394) dX12_init_394 sp480 ?_
  refine S_newa20 (pc := 397) (N := 480) (kc := 4) (ks := 1268) dX12_init_397 (gw 39 rfl rfl) (by decide) (by decide) (by decide) ?_
  refine I_nw hx rfl rfl rfl ?_
  show WP _ _ _ _ _ 4 1268 399 [some (.ref (x + 0)), none] [.ref (x + 33), .ref (x + 0)] (gi sh f g fR x [(12, 69), (20, 1800), (20, 2), (20, 2), (20, 2), (20, 2), (20, 2), (20, 8), (20, 8), (20, 8), (20, 2), (20, 8), (20, 8), (20, 3200), (20, 3200), (21, 8), (20, 20), (20, 20), (22, 20), (20, 20), (20, 20), (20, 500), (20, 6), (20, 880), (20, 84480), (20, 21120), (20, 57200), (20, 4400), (20, 2640), (20, 4), (21, 500), (20, 12), (20, 480), (20, 480)] [(0, 56, x + 32), (0, 55, x + 31), (0, 54, x + 30), (0, 53, x + 29), (0, 48, x + 28), (0, 47, x + 27), (0, 46, x + 26), (0, 45, x + 25), (0, 44, x + 24), (0, 43, x + 23), (0, 42, x + 22), (0, 38, x + 21), (0, 35, x + 20), (0, 34, x + 19), (0, 33, x + 18), (0, 32, x + 17), (0, 31, x + 16), (0, 27, x + 15), (0, 26, x + 14), (0, 25, x + 13), (0, 24, x + 12), (0, 23, x + 11), (0, 22, x + 10), (0, 21, x + 9), (0, 20, x + 8), (0, 19, x + 7), (0, 18, x + 6), (0, 17, x + 5), (0, 16, x + 4), (0, 15, x + 3), (0, 14, x + 2), (0, 0, x + 1)] [(0, 57, (nI 0)), (0, 52, (nI 0)), (0, 50, (nI 0)), (0, 49, (nI 0)), (0, 41, (nI 0)), (0, 40, (nI 0)), (0, 39, (nI 0)), (0, 37, (nI 0)), (0, 36, (nI 0)), (0, 30, (nI 0)), (0, 29, (nI 1)), (0, 28, (nI 0)), (0, 13, (nI 0)), (0, 12, (-1)), (0, 11, (-1)), (0, 10, (nI 0)), (0, 9, (-1)), (0, 8, (nI 0)), (0, 6, (nI 0)), (0, 5, (nI 0)), (0, 4, (nI 0)), (0, 3, (nI 0)), (0, 2, (nI 0)), (0, 1, (nI 0))] [(0, 51, lN 1), (0, 7, lN 0)])
  refine I_putR (pc := 399) (i := 0) dX12_init_399 flX12_191 hx hx0 rfl (ff_12_58 rfl rfl) (fun _ => rfl) (fun _ => rfl) (fun _ => rfl) ?_
  refine S_aload_n (pc := 402) dX12_init_402 rfl rfl ?_
  refine S_iconst (pc := 403) dX12_init_403 ic0 ?_
  refine I_putI (pc := 404) (i := 0) dX12_init_404 flX12_194 hx hx0 rfl nf_12_59 rfl rfl (fun _ => rfl) ?_
  refine S_aload_n (pc := 407) dX12_init_407 rfl rfl ?_
  refine S_iconst (pc := 408) dX12_init_408 ic0 ?_
  refine I_putI (pc := 409) (i := 0) dX12_init_409 flX12_197 hx hx0 rfl nf_12_60 nb0 rfl (fun _ => rfl) ?_
  refine S_aload_n (pc := 412) dX12_init_412 rfl rfl ?_
  refine S_iconst (pc := 413) dX12_init_413 ic0 ?_
  refine I_putI (pc := 414) (i := 0) dX12_init_414 flX12_200 hx hx0 rfl nf_12_61 rfl rfl (fun _ => rfl) ?_
  refine S_aload_n (pc := 417) dX12_init_417 rfl rfl ?_
  refine S_iconst (pc := 418) dX12_init_418 ic0 ?_
  refine I_putI (pc := 419) (i := 0) dX12_init_419 flX12_203 hx hx0 rfl nf_12_62 rfl rfl (fun _ => rfl) ?_
  refine S_aload_n (pc := 422) dX12_init_422 rfl rfl ?_
  refine S_iconst (pc := 423) dX12_init_423 ic0 ?_
  refine I_putI (pc := 424) (i := 0) dX12_init_424 flX12_206 hx hx0 rfl nf_12_63 nb0 rfl (fun _ => rfl) ?_
  refine S_aload_n (pc := 427) dX12_init_427 rfl rfl ?_
  refine S_iconst (pc := 428) dX12_init_428 ic0 ?_
  refine I_putI (pc := 429) (i := 0) dX12_init_429 flX12_209 hx hx0 rfl nf_12_64 rfl rfl (fun _ => rfl) ?_
  refine S_aload_n (pc := 432) dX12_init_432 rfl rfl ?_
  refine S_bipush (pc := 433) dX12_init_433 bp16 ?_
  refine S_newa20 (pc := 435) (N := 16) (kc := 3) (ks := 1252) dX12_init_435 (gw 39 rfl rfl) (by decide) (by decide) (by decide) ?_
  refine I_nw hx rfl rfl rfl ?_
  show WP _ _ _ _ _ 3 1252 437 [some (.ref (x + 0)), none] [.ref (x + 34), .ref (x + 0)] (gi sh f g fR x [(12, 69), (20, 1800), (20, 2), (20, 2), (20, 2), (20, 2), (20, 2), (20, 8), (20, 8), (20, 8), (20, 2), (20, 8), (20, 8), (20, 3200), (20, 3200), (21, 8), (20, 20), (20, 20), (22, 20), (20, 20), (20, 20), (20, 500), (20, 6), (20, 880), (20, 84480), (20, 21120), (20, 57200), (20, 4400), (20, 2640), (20, 4), (21, 500), (20, 12), (20, 480), (20, 480), (20, 16)] [(0, 58, x + 33), (0, 56, x + 32), (0, 55, x + 31), (0, 54, x + 30), (0, 53, x + 29), (0, 48, x + 28), (0, 47, x + 27), (0, 46, x + 26), (0, 45, x + 25), (0, 44, x + 24), (0, 43, x + 23), (0, 42, x + 22), (0, 38, x + 21), (0, 35, x + 20), (0, 34, x + 19), (0, 33, x + 18), (0, 32, x + 17), (0, 31, x + 16), (0, 27, x + 15), (0, 26, x + 14), (0, 25, x + 13), (0, 24, x + 12), (0, 23, x + 11), (0, 22, x + 10), (0, 21, x + 9), (0, 20, x + 8), (0, 19, x + 7), (0, 18, x + 6), (0, 17, x + 5), (0, 16, x + 4), (0, 15, x + 3), (0, 14, x + 2), (0, 0, x + 1)] [(0, 64, (nI 0)), (0, 63, (nI 0)), (0, 62, (nI 0)), (0, 61, (nI 0)), (0, 60, (nI 0)), (0, 59, (nI 0)), (0, 57, (nI 0)), (0, 52, (nI 0)), (0, 50, (nI 0)), (0, 49, (nI 0)), (0, 41, (nI 0)), (0, 40, (nI 0)), (0, 39, (nI 0)), (0, 37, (nI 0)), (0, 36, (nI 0)), (0, 30, (nI 0)), (0, 29, (nI 1)), (0, 28, (nI 0)), (0, 13, (nI 0)), (0, 12, (-1)), (0, 11, (-1)), (0, 10, (nI 0)), (0, 9, (-1)), (0, 8, (nI 0)), (0, 6, (nI 0)), (0, 5, (nI 0)), (0, 4, (nI 0)), (0, 3, (nI 0)), (0, 2, (nI 0)), (0, 1, (nI 0))] [(0, 51, lN 1), (0, 7, lN 0)])
  refine I_putR (pc := 437) (i := 0) dX12_init_437 flX12_212 hx hx0 rfl (ff_12_65 rfl rfl) (fun _ => rfl) (fun _ => rfl) (fun _ => rfl) ?_
  refine S_aload_n (pc := 440) dX12_init_440 rfl rfl ?_
  refine S_bipush (pc := 441) dX12_init_441 bp16 ?_
  refine S_newa20 (pc := 443) (N := 16) (kc := 2) (ks := 1236) dX12_init_443 (gw 39 rfl rfl) (by decide) (by decide) (by decide) ?_
  refine I_nw hx rfl rfl rfl ?_
  show WP _ _ _ _ _ 2 1236 445 [some (.ref (x + 0)), none] [.ref (x + 35), .ref (x + 0)] (gi sh f g fR x [(12, 69), (20, 1800), (20, 2), (20, 2), (20, 2), (20, 2), (20, 2), (20, 8), (20, 8), (20, 8), (20, 2), (20, 8), (20, 8), (20, 3200), (20, 3200), (21, 8), (20, 20), (20, 20), (22, 20), (20, 20), (20, 20), (20, 500), (20, 6), (20, 880), (20, 84480), (20, 21120), (20, 57200), (20, 4400), (20, 2640), (20, 4), (21, 500), (20, 12), (20, 480), (20, 480), (20, 16), (20, 16)] [(0, 65, x + 34), (0, 58, x + 33), (0, 56, x + 32), (0, 55, x + 31), (0, 54, x + 30), (0, 53, x + 29), (0, 48, x + 28), (0, 47, x + 27), (0, 46, x + 26), (0, 45, x + 25), (0, 44, x + 24), (0, 43, x + 23), (0, 42, x + 22), (0, 38, x + 21), (0, 35, x + 20), (0, 34, x + 19), (0, 33, x + 18), (0, 32, x + 17), (0, 31, x + 16), (0, 27, x + 15), (0, 26, x + 14), (0, 25, x + 13), (0, 24, x + 12), (0, 23, x + 11), (0, 22, x + 10), (0, 21, x + 9), (0, 20, x + 8), (0, 19, x + 7), (0, 18, x + 6), (0, 17, x + 5), (0, 16, x + 4), (0, 15, x + 3), (0, 14, x + 2), (0, 0, x + 1)] [(0, 64, (nI 0)), (0, 63, (nI 0)), (0, 62, (nI 0)), (0, 61, (nI 0)), (0, 60, (nI 0)), (0, 59, (nI 0)), (0, 57, (nI 0)), (0, 52, (nI 0)), (0, 50, (nI 0)), (0, 49, (nI 0)), (0, 41, (nI 0)), (0, 40, (nI 0)), (0, 39, (nI 0)), (0, 37, (nI 0)), (0, 36, (nI 0)), (0, 30, (nI 0)), (0, 29, (nI 1)), (0, 28, (nI 0)), (0, 13, (nI 0)), (0, 12, (-1)), (0, 11, (-1)), (0, 10, (nI 0)), (0, 9, (-1)), (0, 8, (nI 0)), (0, 6, (nI 0)), (0, 5, (nI 0)), (0, 4, (nI 0)), (0, 3, (nI 0)), (0, 2, (nI 0)), (0, 1, (nI 0))] [(0, 51, lN 1), (0, 7, lN 0)])
  refine I_putR (pc := 445) (i := 0) dX12_init_445 flX12_215 hx hx0 rfl (ff_12_66 rfl rfl) (fun _ => rfl) (fun _ => rfl) (fun _ => rfl) ?_
  refine S_aload_n (pc := 448) dX12_init_448 rfl rfl ?_
  refine S_bipush (pc := 449) dX12_init_449 bp16 ?_
  refine S_newa20 (pc := 451) (N := 16) (kc := 1) (ks := 1220) dX12_init_451 (gw 39 rfl rfl) (by decide) (by decide) (by decide) ?_
  refine I_nw hx rfl rfl rfl ?_
  show WP _ _ _ _ _ 1 1220 453 [some (.ref (x + 0)), none] [.ref (x + 36), .ref (x + 0)] (gi sh f g fR x [(12, 69), (20, 1800), (20, 2), (20, 2), (20, 2), (20, 2), (20, 2), (20, 8), (20, 8), (20, 8), (20, 2), (20, 8), (20, 8), (20, 3200), (20, 3200), (21, 8), (20, 20), (20, 20), (22, 20), (20, 20), (20, 20), (20, 500), (20, 6), (20, 880), (20, 84480), (20, 21120), (20, 57200), (20, 4400), (20, 2640), (20, 4), (21, 500), (20, 12), (20, 480), (20, 480), (20, 16), (20, 16), (20, 16)] [(0, 66, x + 35), (0, 65, x + 34), (0, 58, x + 33), (0, 56, x + 32), (0, 55, x + 31), (0, 54, x + 30), (0, 53, x + 29), (0, 48, x + 28), (0, 47, x + 27), (0, 46, x + 26), (0, 45, x + 25), (0, 44, x + 24), (0, 43, x + 23), (0, 42, x + 22), (0, 38, x + 21), (0, 35, x + 20), (0, 34, x + 19), (0, 33, x + 18), (0, 32, x + 17), (0, 31, x + 16), (0, 27, x + 15), (0, 26, x + 14), (0, 25, x + 13), (0, 24, x + 12), (0, 23, x + 11), (0, 22, x + 10), (0, 21, x + 9), (0, 20, x + 8), (0, 19, x + 7), (0, 18, x + 6), (0, 17, x + 5), (0, 16, x + 4), (0, 15, x + 3), (0, 14, x + 2), (0, 0, x + 1)] [(0, 64, (nI 0)), (0, 63, (nI 0)), (0, 62, (nI 0)), (0, 61, (nI 0)), (0, 60, (nI 0)), (0, 59, (nI 0)), (0, 57, (nI 0)), (0, 52, (nI 0)), (0, 50, (nI 0)), (0, 49, (nI 0)), (0, 41, (nI 0)), (0, 40, (nI 0)), (0, 39, (nI 0)), (0, 37, (nI 0)), (0, 36, (nI 0)), (0, 30, (nI 0)), (0, 29, (nI 1)), (0, 28, (nI 0)), (0, 13, (nI 0)), (0, 12, (-1)), (0, 11, (-1)), (0, 10, (nI 0)), (0, 9, (-1)), (0, 8, (nI 0)), (0, 6, (nI 0)), (0, 5, (nI 0)), (0, 4, (nI 0)), (0, 3, (nI 0)), (0, 2, (nI 0)), (0, 1, (nI 0))] [(0, 51, lN 1), (0, 7, lN 0)])
  refine I_putR (pc := 453) (i := 0) dX12_init_453 flX12_218 hx hx0 rfl (ff_12_67 rfl rfl) (fun _ => rfl) (fun _ => rfl) (fun _ => rfl) ?_
  refine S_aload_n (pc := 456) dX12_init_456 rfl rfl ?_
  refine S_sipush (pc := 457) dX12_init_457 sp1220 ?_
  refine S_newa20 (pc := 460) (N := 1220) (kc := 0) (ks := 0) dX12_init_460 (gw 39 rfl rfl) (by decide) (by decide) (by decide) ?_
  refine I_nw hx rfl rfl rfl ?_
  show WP _ _ _ _ _ 0 0 462 [some (.ref (x + 0)), none] [.ref (x + 37), .ref (x + 0)] (gi sh f g fR x [(12, 69), (20, 1800), (20, 2), (20, 2), (20, 2), (20, 2), (20, 2), (20, 8), (20, 8), (20, 8), (20, 2), (20, 8), (20, 8), (20, 3200), (20, 3200), (21, 8), (20, 20), (20, 20), (22, 20), (20, 20), (20, 20), (20, 500), (20, 6), (20, 880), (20, 84480), (20, 21120), (20, 57200), (20, 4400), (20, 2640), (20, 4), (21, 500), (20, 12), (20, 480), (20, 480), (20, 16), (20, 16), (20, 16), (20, 1220)] [(0, 67, x + 36), (0, 66, x + 35), (0, 65, x + 34), (0, 58, x + 33), (0, 56, x + 32), (0, 55, x + 31), (0, 54, x + 30), (0, 53, x + 29), (0, 48, x + 28), (0, 47, x + 27), (0, 46, x + 26), (0, 45, x + 25), (0, 44, x + 24), (0, 43, x + 23), (0, 42, x + 22), (0, 38, x + 21), (0, 35, x + 20), (0, 34, x + 19), (0, 33, x + 18), (0, 32, x + 17), (0, 31, x + 16), (0, 27, x + 15), (0, 26, x + 14), (0, 25, x + 13), (0, 24, x + 12), (0, 23, x + 11), (0, 22, x + 10), (0, 21, x + 9), (0, 20, x + 8), (0, 19, x + 7), (0, 18, x + 6), (0, 17, x + 5), (0, 16, x + 4), (0, 15, x + 3), (0, 14, x + 2), (0, 0, x + 1)] [(0, 64, (nI 0)), (0, 63, (nI 0)), (0, 62, (nI 0)), (0, 61, (nI 0)), (0, 60, (nI 0)), (0, 59, (nI 0)), (0, 57, (nI 0)), (0, 52, (nI 0)), (0, 50, (nI 0)), (0, 49, (nI 0)), (0, 41, (nI 0)), (0, 40, (nI 0)), (0, 39, (nI 0)), (0, 37, (nI 0)), (0, 36, (nI 0)), (0, 30, (nI 0)), (0, 29, (nI 1)), (0, 28, (nI 0)), (0, 13, (nI 0)), (0, 12, (-1)), (0, 11, (-1)), (0, 10, (nI 0)), (0, 9, (-1)), (0, 8, (nI 0)), (0, 6, (nI 0)), (0, 5, (nI 0)), (0, 4, (nI 0)), (0, 3, (nI 0)), (0, 2, (nI 0)), (0, 1, (nI 0))] [(0, 51, lN 1), (0, 7, lN 0)])
  refine I_putR (pc := 462) (i := 0) dX12_init_462 flX12_221 hx hx0 rfl (ff_12_68 rfl rfl) (fun _ => rfl) (fun _ => rfl) (fun _ => rfl) ?_
  refine S_iconst (pc := 465) dX12_init_465 ic0 ?_
  refine S_istore_n (pc := 466) (L' := [some (.ref (x + 0)), some (.int (nI 0))]) dX12_init_466 rfl (by decide) rfl ?_
  refine S_iload_n (pc := 467) dX12_init_467 rfl rfl ?_
  refine S_bipush (pc := 468) dX12_init_468 bp8 ?_
  refine S_icmp_ge (pc := 470) (tgt := 486) dX12_init_470 rfl (fun c => by first | exact absurd c (by decide) | exact absurd (by decide) c) (fun _ => ?_)
  refine S_aload_n (pc := 473) dX12_init_473 rfl rfl ?_
  refine I_getR (pc := 474) (i := 0) (t := x + 11) dX12_init_474 flX12_81 hx rfl (fun _ => rfl) rfl ?_
  refine S_iload_n (pc := 477) dX12_init_477 rfl rfl ?_
  refine S_iconst (pc := 478) dX12_init_478 icm1 ?_
  refine I_iast (pc := 479) (i := 11) (j := 0) dX12_init_479 hx hx0 rfl (by decide) (by decide) ?_
  refine S_iinc (pc := 480) (v := nI 1) (L' := [some (.ref (x + 0)), some (.int (nI 0 + nI 1))]) dX12_init_480 rfl ic1 rfl ?_
  show WP _ _ _ _ _ 0 0 483 [some (.ref (x + 0)), some (.int (nI 1))] [] (gi sh f g fR x [(12, 69), (20, 1800), (20, 2), (20, 2), (20, 2), (20, 2), (20, 2), (20, 8), (20, 8), (20, 8), (20, 2), (20, 8), (20, 8), (20, 3200), (20, 3200), (21, 8), (20, 20), (20, 20), (22, 20), (20, 20), (20, 20), (20, 500), (20, 6), (20, 880), (20, 84480), (20, 21120), (20, 57200), (20, 4400), (20, 2640), (20, 4), (21, 500), (20, 12), (20, 480), (20, 480), (20, 16), (20, 16), (20, 16), (20, 1220)] [(0, 68, x + 37), (0, 67, x + 36), (0, 66, x + 35), (0, 65, x + 34), (0, 58, x + 33), (0, 56, x + 32), (0, 55, x + 31), (0, 54, x + 30), (0, 53, x + 29), (0, 48, x + 28), (0, 47, x + 27), (0, 46, x + 26), (0, 45, x + 25), (0, 44, x + 24), (0, 43, x + 23), (0, 42, x + 22), (0, 38, x + 21), (0, 35, x + 20), (0, 34, x + 19), (0, 33, x + 18), (0, 32, x + 17), (0, 31, x + 16), (0, 27, x + 15), (0, 26, x + 14), (0, 25, x + 13), (0, 24, x + 12), (0, 23, x + 11), (0, 22, x + 10), (0, 21, x + 9), (0, 20, x + 8), (0, 19, x + 7), (0, 18, x + 6), (0, 17, x + 5), (0, 16, x + 4), (0, 15, x + 3), (0, 14, x + 2), (0, 0, x + 1)] [(11, 0, (-1)), (0, 64, (nI 0)), (0, 63, (nI 0)), (0, 62, (nI 0)), (0, 61, (nI 0)), (0, 60, (nI 0)), (0, 59, (nI 0)), (0, 57, (nI 0)), (0, 52, (nI 0)), (0, 50, (nI 0)), (0, 49, (nI 0)), (0, 41, (nI 0)), (0, 40, (nI 0)), (0, 39, (nI 0)), (0, 37, (nI 0)), (0, 36, (nI 0)), (0, 30, (nI 0)), (0, 29, (nI 1)), (0, 28, (nI 0)), (0, 13, (nI 0)), (0, 12, (-1)), (0, 11, (-1)), (0, 10, (nI 0)), (0, 9, (-1)), (0, 8, (nI 0)), (0, 6, (nI 0)), (0, 5, (nI 0)), (0, 4, (nI 0)), (0, 3, (nI 0)), (0, 2, (nI 0)), (0, 1, (nI 0))] [(0, 51, lN 1), (0, 7, lN 0)])
  refine S_goto (pc := 483) (tgt := 467) dX12_init_483 rfl ?_
  refine S_iload_n (pc := 467) dX12_init_467 rfl rfl ?_
  refine S_bipush (pc := 468) dX12_init_468 bp8 ?_
  refine S_icmp_ge (pc := 470) (tgt := 486) dX12_init_470 rfl (fun c => by first | exact absurd c (by decide) | exact absurd (by decide) c) (fun _ => ?_)
  refine S_aload_n (pc := 473) dX12_init_473 rfl rfl ?_
  refine I_getR (pc := 474) (i := 0) (t := x + 11) dX12_init_474 flX12_81 hx rfl (fun _ => rfl) rfl ?_
  refine S_iload_n (pc := 477) dX12_init_477 rfl rfl ?_
  refine S_iconst (pc := 478) dX12_init_478 icm1 ?_
  refine I_iast (pc := 479) (i := 11) (j := 1) dX12_init_479 hx hx0 rfl (by decide) (by decide) ?_
  refine S_iinc (pc := 480) (v := nI 1) (L' := [some (.ref (x + 0)), some (.int (nI 1 + nI 1))]) dX12_init_480 rfl ic1 rfl ?_
  show WP _ _ _ _ _ 0 0 483 [some (.ref (x + 0)), some (.int (nI 2))] [] (gi sh f g fR x [(12, 69), (20, 1800), (20, 2), (20, 2), (20, 2), (20, 2), (20, 2), (20, 8), (20, 8), (20, 8), (20, 2), (20, 8), (20, 8), (20, 3200), (20, 3200), (21, 8), (20, 20), (20, 20), (22, 20), (20, 20), (20, 20), (20, 500), (20, 6), (20, 880), (20, 84480), (20, 21120), (20, 57200), (20, 4400), (20, 2640), (20, 4), (21, 500), (20, 12), (20, 480), (20, 480), (20, 16), (20, 16), (20, 16), (20, 1220)] [(0, 68, x + 37), (0, 67, x + 36), (0, 66, x + 35), (0, 65, x + 34), (0, 58, x + 33), (0, 56, x + 32), (0, 55, x + 31), (0, 54, x + 30), (0, 53, x + 29), (0, 48, x + 28), (0, 47, x + 27), (0, 46, x + 26), (0, 45, x + 25), (0, 44, x + 24), (0, 43, x + 23), (0, 42, x + 22), (0, 38, x + 21), (0, 35, x + 20), (0, 34, x + 19), (0, 33, x + 18), (0, 32, x + 17), (0, 31, x + 16), (0, 27, x + 15), (0, 26, x + 14), (0, 25, x + 13), (0, 24, x + 12), (0, 23, x + 11), (0, 22, x + 10), (0, 21, x + 9), (0, 20, x + 8), (0, 19, x + 7), (0, 18, x + 6), (0, 17, x + 5), (0, 16, x + 4), (0, 15, x + 3), (0, 14, x + 2), (0, 0, x + 1)] [(11, 1, (-1)), (11, 0, (-1)), (0, 64, (nI 0)), (0, 63, (nI 0)), (0, 62, (nI 0)), (0, 61, (nI 0)), (0, 60, (nI 0)), (0, 59, (nI 0)), (0, 57, (nI 0)), (0, 52, (nI 0)), (0, 50, (nI 0)), (0, 49, (nI 0)), (0, 41, (nI 0)), (0, 40, (nI 0)), (0, 39, (nI 0)), (0, 37, (nI 0)), (0, 36, (nI 0)), (0, 30, (nI 0)), (0, 29, (nI 1)), (0, 28, (nI 0)), (0, 13, (nI 0)), (0, 12, (-1)), (0, 11, (-1)), (0, 10, (nI 0)), (0, 9, (-1)), (0, 8, (nI 0)), (0, 6, (nI 0)), (0, 5, (nI 0)), (0, 4, (nI 0)), (0, 3, (nI 0)), (0, 2, (nI 0)), (0, 1, (nI 0))] [(0, 51, lN 1), (0, 7, lN 0)])
  refine S_goto (pc := 483) (tgt := 467) dX12_init_483 rfl ?_
  refine S_iload_n (pc := 467) dX12_init_467 rfl rfl ?_
  refine S_bipush (pc := 468) dX12_init_468 bp8 ?_
  refine S_icmp_ge (pc := 470) (tgt := 486) dX12_init_470 rfl (fun c => by first | exact absurd c (by decide) | exact absurd (by decide) c) (fun _ => ?_)
  refine S_aload_n (pc := 473) dX12_init_473 rfl rfl ?_
  refine I_getR (pc := 474) (i := 0) (t := x + 11) dX12_init_474 flX12_81 hx rfl (fun _ => rfl) rfl ?_
  refine S_iload_n (pc := 477) dX12_init_477 rfl rfl ?_
  refine S_iconst (pc := 478) dX12_init_478 icm1 ?_
  refine I_iast (pc := 479) (i := 11) (j := 2) dX12_init_479 hx hx0 rfl (by decide) (by decide) ?_
  refine S_iinc (pc := 480) (v := nI 1) (L' := [some (.ref (x + 0)), some (.int (nI 2 + nI 1))]) dX12_init_480 rfl ic1 rfl ?_
  show WP _ _ _ _ _ 0 0 483 [some (.ref (x + 0)), some (.int (nI 3))] [] (gi sh f g fR x [(12, 69), (20, 1800), (20, 2), (20, 2), (20, 2), (20, 2), (20, 2), (20, 8), (20, 8), (20, 8), (20, 2), (20, 8), (20, 8), (20, 3200), (20, 3200), (21, 8), (20, 20), (20, 20), (22, 20), (20, 20), (20, 20), (20, 500), (20, 6), (20, 880), (20, 84480), (20, 21120), (20, 57200), (20, 4400), (20, 2640), (20, 4), (21, 500), (20, 12), (20, 480), (20, 480), (20, 16), (20, 16), (20, 16), (20, 1220)] [(0, 68, x + 37), (0, 67, x + 36), (0, 66, x + 35), (0, 65, x + 34), (0, 58, x + 33), (0, 56, x + 32), (0, 55, x + 31), (0, 54, x + 30), (0, 53, x + 29), (0, 48, x + 28), (0, 47, x + 27), (0, 46, x + 26), (0, 45, x + 25), (0, 44, x + 24), (0, 43, x + 23), (0, 42, x + 22), (0, 38, x + 21), (0, 35, x + 20), (0, 34, x + 19), (0, 33, x + 18), (0, 32, x + 17), (0, 31, x + 16), (0, 27, x + 15), (0, 26, x + 14), (0, 25, x + 13), (0, 24, x + 12), (0, 23, x + 11), (0, 22, x + 10), (0, 21, x + 9), (0, 20, x + 8), (0, 19, x + 7), (0, 18, x + 6), (0, 17, x + 5), (0, 16, x + 4), (0, 15, x + 3), (0, 14, x + 2), (0, 0, x + 1)] [(11, 2, (-1)), (11, 1, (-1)), (11, 0, (-1)), (0, 64, (nI 0)), (0, 63, (nI 0)), (0, 62, (nI 0)), (0, 61, (nI 0)), (0, 60, (nI 0)), (0, 59, (nI 0)), (0, 57, (nI 0)), (0, 52, (nI 0)), (0, 50, (nI 0)), (0, 49, (nI 0)), (0, 41, (nI 0)), (0, 40, (nI 0)), (0, 39, (nI 0)), (0, 37, (nI 0)), (0, 36, (nI 0)), (0, 30, (nI 0)), (0, 29, (nI 1)), (0, 28, (nI 0)), (0, 13, (nI 0)), (0, 12, (-1)), (0, 11, (-1)), (0, 10, (nI 0)), (0, 9, (-1)), (0, 8, (nI 0)), (0, 6, (nI 0)), (0, 5, (nI 0)), (0, 4, (nI 0)), (0, 3, (nI 0)), (0, 2, (nI 0)), (0, 1, (nI 0))] [(0, 51, lN 1), (0, 7, lN 0)])
  refine S_goto (pc := 483) (tgt := 467) dX12_init_483 rfl ?_
  refine S_iload_n (pc := 467) dX12_init_467 rfl rfl ?_
  refine S_bipush (pc := 468) dX12_init_468 bp8 ?_
  refine S_icmp_ge (pc := 470) (tgt := 486) dX12_init_470 rfl (fun c => by first | exact absurd c (by decide) | exact absurd (by decide) c) (fun _ => ?_)
  refine S_aload_n (pc := 473) dX12_init_473 rfl rfl ?_
  refine I_getR (pc := 474) (i := 0) (t := x + 11) dX12_init_474 flX12_81 hx rfl (fun _ => rfl) rfl ?_
  refine S_iload_n (pc := 477) dX12_init_477 rfl rfl ?_
  refine S_iconst (pc := 478) dX12_init_478 icm1 ?_
  refine I_iast (pc := 479) (i := 11) (j := 3) dX12_init_479 hx hx0 rfl (by decide) (by decide) ?_
  refine S_iinc (pc := 480) (v := nI 1) (L' := [some (.ref (x + 0)), some (.int (nI 3 + nI 1))]) dX12_init_480 rfl ic1 rfl ?_
  show WP _ _ _ _ _ 0 0 483 [some (.ref (x + 0)), some (.int (nI 4))] [] (gi sh f g fR x [(12, 69), (20, 1800), (20, 2), (20, 2), (20, 2), (20, 2), (20, 2), (20, 8), (20, 8), (20, 8), (20, 2), (20, 8), (20, 8), (20, 3200), (20, 3200), (21, 8), (20, 20), (20, 20), (22, 20), (20, 20), (20, 20), (20, 500), (20, 6), (20, 880), (20, 84480), (20, 21120), (20, 57200), (20, 4400), (20, 2640), (20, 4), (21, 500), (20, 12), (20, 480), (20, 480), (20, 16), (20, 16), (20, 16), (20, 1220)] [(0, 68, x + 37), (0, 67, x + 36), (0, 66, x + 35), (0, 65, x + 34), (0, 58, x + 33), (0, 56, x + 32), (0, 55, x + 31), (0, 54, x + 30), (0, 53, x + 29), (0, 48, x + 28), (0, 47, x + 27), (0, 46, x + 26), (0, 45, x + 25), (0, 44, x + 24), (0, 43, x + 23), (0, 42, x + 22), (0, 38, x + 21), (0, 35, x + 20), (0, 34, x + 19), (0, 33, x + 18), (0, 32, x + 17), (0, 31, x + 16), (0, 27, x + 15), (0, 26, x + 14), (0, 25, x + 13), (0, 24, x + 12), (0, 23, x + 11), (0, 22, x + 10), (0, 21, x + 9), (0, 20, x + 8), (0, 19, x + 7), (0, 18, x + 6), (0, 17, x + 5), (0, 16, x + 4), (0, 15, x + 3), (0, 14, x + 2), (0, 0, x + 1)] [(11, 3, (-1)), (11, 2, (-1)), (11, 1, (-1)), (11, 0, (-1)), (0, 64, (nI 0)), (0, 63, (nI 0)), (0, 62, (nI 0)), (0, 61, (nI 0)), (0, 60, (nI 0)), (0, 59, (nI 0)), (0, 57, (nI 0)), (0, 52, (nI 0)), (0, 50, (nI 0)), (0, 49, (nI 0)), (0, 41, (nI 0)), (0, 40, (nI 0)), (0, 39, (nI 0)), (0, 37, (nI 0)), (0, 36, (nI 0)), (0, 30, (nI 0)), (0, 29, (nI 1)), (0, 28, (nI 0)), (0, 13, (nI 0)), (0, 12, (-1)), (0, 11, (-1)), (0, 10, (nI 0)), (0, 9, (-1)), (0, 8, (nI 0)), (0, 6, (nI 0)), (0, 5, (nI 0)), (0, 4, (nI 0)), (0, 3, (nI 0)), (0, 2, (nI 0)), (0, 1, (nI 0))] [(0, 51, lN 1), (0, 7, lN 0)])
  refine S_goto (pc := 483) (tgt := 467) dX12_init_483 rfl ?_
  refine S_iload_n (pc := 467) dX12_init_467 rfl rfl ?_
  refine S_bipush (pc := 468) dX12_init_468 bp8 ?_
  refine S_icmp_ge (pc := 470) (tgt := 486) dX12_init_470 rfl (fun c => by first | exact absurd c (by decide) | exact absurd (by decide) c) (fun _ => ?_)
  refine S_aload_n (pc := 473) dX12_init_473 rfl rfl ?_
  refine I_getR (pc := 474) (i := 0) (t := x + 11) dX12_init_474 flX12_81 hx rfl (fun _ => rfl) rfl ?_
  refine S_iload_n (pc := 477) dX12_init_477 rfl rfl ?_
  refine S_iconst (pc := 478) dX12_init_478 icm1 ?_
  refine I_iast (pc := 479) (i := 11) (j := 4) dX12_init_479 hx hx0 rfl (by decide) (by decide) ?_
  refine S_iinc (pc := 480) (v := nI 1) (L' := [some (.ref (x + 0)), some (.int (nI 4 + nI 1))]) dX12_init_480 rfl ic1 rfl ?_
  show WP _ _ _ _ _ 0 0 483 [some (.ref (x + 0)), some (.int (nI 5))] [] (gi sh f g fR x [(12, 69), (20, 1800), (20, 2), (20, 2), (20, 2), (20, 2), (20, 2), (20, 8), (20, 8), (20, 8), (20, 2), (20, 8), (20, 8), (20, 3200), (20, 3200), (21, 8), (20, 20), (20, 20), (22, 20), (20, 20), (20, 20), (20, 500), (20, 6), (20, 880), (20, 84480), (20, 21120), (20, 57200), (20, 4400), (20, 2640), (20, 4), (21, 500), (20, 12), (20, 480), (20, 480), (20, 16), (20, 16), (20, 16), (20, 1220)] [(0, 68, x + 37), (0, 67, x + 36), (0, 66, x + 35), (0, 65, x + 34), (0, 58, x + 33), (0, 56, x + 32), (0, 55, x + 31), (0, 54, x + 30), (0, 53, x + 29), (0, 48, x + 28), (0, 47, x + 27), (0, 46, x + 26), (0, 45, x + 25), (0, 44, x + 24), (0, 43, x + 23), (0, 42, x + 22), (0, 38, x + 21), (0, 35, x + 20), (0, 34, x + 19), (0, 33, x + 18), (0, 32, x + 17), (0, 31, x + 16), (0, 27, x + 15), (0, 26, x + 14), (0, 25, x + 13), (0, 24, x + 12), (0, 23, x + 11), (0, 22, x + 10), (0, 21, x + 9), (0, 20, x + 8), (0, 19, x + 7), (0, 18, x + 6), (0, 17, x + 5), (0, 16, x + 4), (0, 15, x + 3), (0, 14, x + 2), (0, 0, x + 1)] [(11, 4, (-1)), (11, 3, (-1)), (11, 2, (-1)), (11, 1, (-1)), (11, 0, (-1)), (0, 64, (nI 0)), (0, 63, (nI 0)), (0, 62, (nI 0)), (0, 61, (nI 0)), (0, 60, (nI 0)), (0, 59, (nI 0)), (0, 57, (nI 0)), (0, 52, (nI 0)), (0, 50, (nI 0)), (0, 49, (nI 0)), (0, 41, (nI 0)), (0, 40, (nI 0)), (0, 39, (nI 0)), (0, 37, (nI 0)), (0, 36, (nI 0)), (0, 30, (nI 0)), (0, 29, (nI 1)), (0, 28, (nI 0)), (0, 13, (nI 0)), (0, 12, (-1)), (0, 11, (-1)), (0, 10, (nI 0)), (0, 9, (-1)), (0, 8, (nI 0)), (0, 6, (nI 0)), (0, 5, (nI 0)), (0, 4, (nI 0)), (0, 3, (nI 0)), (0, 2, (nI 0)), (0, 1, (nI 0))] [(0, 51, lN 1), (0, 7, lN 0)])
  refine S_goto (pc := 483) (tgt := 467) dX12_init_483 rfl ?_
  refine S_iload_n (pc := 467) dX12_init_467 rfl rfl ?_
  refine S_bipush (pc := 468) dX12_init_468 bp8 ?_
  refine S_icmp_ge (pc := 470) (tgt := 486) dX12_init_470 rfl (fun c => by first | exact absurd c (by decide) | exact absurd (by decide) c) (fun _ => ?_)
  refine S_aload_n (pc := 473) dX12_init_473 rfl rfl ?_
  refine I_getR (pc := 474) (i := 0) (t := x + 11) dX12_init_474 flX12_81 hx rfl (fun _ => rfl) rfl ?_
  refine S_iload_n (pc := 477) dX12_init_477 rfl rfl ?_
  refine S_iconst (pc := 478) dX12_init_478 icm1 ?_
  refine I_iast (pc := 479) (i := 11) (j := 5) dX12_init_479 hx hx0 rfl (by decide) (by decide) ?_
  refine S_iinc (pc := 480) (v := nI 1) (L' := [some (.ref (x + 0)), some (.int (nI 5 + nI 1))]) dX12_init_480 rfl ic1 rfl ?_
  show WP _ _ _ _ _ 0 0 483 [some (.ref (x + 0)), some (.int (nI 6))] [] (gi sh f g fR x [(12, 69), (20, 1800), (20, 2), (20, 2), (20, 2), (20, 2), (20, 2), (20, 8), (20, 8), (20, 8), (20, 2), (20, 8), (20, 8), (20, 3200), (20, 3200), (21, 8), (20, 20), (20, 20), (22, 20), (20, 20), (20, 20), (20, 500), (20, 6), (20, 880), (20, 84480), (20, 21120), (20, 57200), (20, 4400), (20, 2640), (20, 4), (21, 500), (20, 12), (20, 480), (20, 480), (20, 16), (20, 16), (20, 16), (20, 1220)] [(0, 68, x + 37), (0, 67, x + 36), (0, 66, x + 35), (0, 65, x + 34), (0, 58, x + 33), (0, 56, x + 32), (0, 55, x + 31), (0, 54, x + 30), (0, 53, x + 29), (0, 48, x + 28), (0, 47, x + 27), (0, 46, x + 26), (0, 45, x + 25), (0, 44, x + 24), (0, 43, x + 23), (0, 42, x + 22), (0, 38, x + 21), (0, 35, x + 20), (0, 34, x + 19), (0, 33, x + 18), (0, 32, x + 17), (0, 31, x + 16), (0, 27, x + 15), (0, 26, x + 14), (0, 25, x + 13), (0, 24, x + 12), (0, 23, x + 11), (0, 22, x + 10), (0, 21, x + 9), (0, 20, x + 8), (0, 19, x + 7), (0, 18, x + 6), (0, 17, x + 5), (0, 16, x + 4), (0, 15, x + 3), (0, 14, x + 2), (0, 0, x + 1)] [(11, 5, (-1)), (11, 4, (-1)), (11, 3, (-1)), (11, 2, (-1)), (11, 1, (-1)), (11, 0, (-1)), (0, 64, (nI 0)), (0, 63, (nI 0)), (0, 62, (nI 0)), (0, 61, (nI 0)), (0, 60, (nI 0)), (0, 59, (nI 0)), (0, 57, (nI 0)), (0, 52, (nI 0)), (0, 50, (nI 0)), (0, 49, (nI 0)), (0, 41, (nI 0)), (0, 40, (nI 0)), (0, 39, (nI 0)), (0, 37, (nI 0)), (0, 36, (nI 0)), (0, 30, (nI 0)), (0, 29, (nI 1)), (0, 28, (nI 0)), (0, 13, (nI 0)), (0, 12, (-1)), (0, 11, (-1)), (0, 10, (nI 0)), (0, 9, (-1)), (0, 8, (nI 0)), (0, 6, (nI 0)), (0, 5, (nI 0)), (0, 4, (nI 0)), (0, 3, (nI 0)), (0, 2, (nI 0)), (0, 1, (nI 0))] [(0, 51, lN 1), (0, 7, lN 0)])
  refine S_goto (pc := 483) (tgt := 467) dX12_init_483 rfl ?_
  refine S_iload_n (pc := 467) dX12_init_467 rfl rfl ?_
  refine S_bipush (pc := 468) dX12_init_468 bp8 ?_
  refine S_icmp_ge (pc := 470) (tgt := 486) dX12_init_470 rfl (fun c => by first | exact absurd c (by decide) | exact absurd (by decide) c) (fun _ => ?_)
  refine S_aload_n (pc := 473) dX12_init_473 rfl rfl ?_
  refine I_getR (pc := 474) (i := 0) (t := x + 11) dX12_init_474 flX12_81 hx rfl (fun _ => rfl) rfl ?_
  refine S_iload_n (pc := 477) dX12_init_477 rfl rfl ?_
  refine S_iconst (pc := 478) dX12_init_478 icm1 ?_
  refine I_iast (pc := 479) (i := 11) (j := 6) dX12_init_479 hx hx0 rfl (by decide) (by decide) ?_
  refine S_iinc (pc := 480) (v := nI 1) (L' := [some (.ref (x + 0)), some (.int (nI 6 + nI 1))]) dX12_init_480 rfl ic1 rfl ?_
  show WP _ _ _ _ _ 0 0 483 [some (.ref (x + 0)), some (.int (nI 7))] [] (gi sh f g fR x [(12, 69), (20, 1800), (20, 2), (20, 2), (20, 2), (20, 2), (20, 2), (20, 8), (20, 8), (20, 8), (20, 2), (20, 8), (20, 8), (20, 3200), (20, 3200), (21, 8), (20, 20), (20, 20), (22, 20), (20, 20), (20, 20), (20, 500), (20, 6), (20, 880), (20, 84480), (20, 21120), (20, 57200), (20, 4400), (20, 2640), (20, 4), (21, 500), (20, 12), (20, 480), (20, 480), (20, 16), (20, 16), (20, 16), (20, 1220)] [(0, 68, x + 37), (0, 67, x + 36), (0, 66, x + 35), (0, 65, x + 34), (0, 58, x + 33), (0, 56, x + 32), (0, 55, x + 31), (0, 54, x + 30), (0, 53, x + 29), (0, 48, x + 28), (0, 47, x + 27), (0, 46, x + 26), (0, 45, x + 25), (0, 44, x + 24), (0, 43, x + 23), (0, 42, x + 22), (0, 38, x + 21), (0, 35, x + 20), (0, 34, x + 19), (0, 33, x + 18), (0, 32, x + 17), (0, 31, x + 16), (0, 27, x + 15), (0, 26, x + 14), (0, 25, x + 13), (0, 24, x + 12), (0, 23, x + 11), (0, 22, x + 10), (0, 21, x + 9), (0, 20, x + 8), (0, 19, x + 7), (0, 18, x + 6), (0, 17, x + 5), (0, 16, x + 4), (0, 15, x + 3), (0, 14, x + 2), (0, 0, x + 1)] [(11, 6, (-1)), (11, 5, (-1)), (11, 4, (-1)), (11, 3, (-1)), (11, 2, (-1)), (11, 1, (-1)), (11, 0, (-1)), (0, 64, (nI 0)), (0, 63, (nI 0)), (0, 62, (nI 0)), (0, 61, (nI 0)), (0, 60, (nI 0)), (0, 59, (nI 0)), (0, 57, (nI 0)), (0, 52, (nI 0)), (0, 50, (nI 0)), (0, 49, (nI 0)), (0, 41, (nI 0)), (0, 40, (nI 0)), (0, 39, (nI 0)), (0, 37, (nI 0)), (0, 36, (nI 0)), (0, 30, (nI 0)), (0, 29, (nI 1)), (0, 28, (nI 0)), (0, 13, (nI 0)), (0, 12, (-1)), (0, 11, (-1)), (0, 10, (nI 0)), (0, 9, (-1)), (0, 8, (nI 0)), (0, 6, (nI 0)), (0, 5, (nI 0)), (0, 4, (nI 0)), (0, 3, (nI 0)), (0, 2, (nI 0)), (0, 1, (nI 0))] [(0, 51, lN 1), (0, 7, lN 0)])
  refine S_goto (pc := 483) (tgt := 467) dX12_init_483 rfl ?_
  refine S_iload_n (pc := 467) dX12_init_467 rfl rfl ?_
  refine S_bipush (pc := 468) dX12_init_468 bp8 ?_
  refine S_icmp_ge (pc := 470) (tgt := 486) dX12_init_470 rfl (fun c => by first | exact absurd c (by decide) | exact absurd (by decide) c) (fun _ => ?_)
  refine S_aload_n (pc := 473) dX12_init_473 rfl rfl ?_
  refine I_getR (pc := 474) (i := 0) (t := x + 11) dX12_init_474 flX12_81 hx rfl (fun _ => rfl) rfl ?_
  refine S_iload_n (pc := 477) dX12_init_477 rfl rfl ?_
  refine S_iconst (pc := 478) dX12_init_478 icm1 ?_
  refine I_iast (pc := 479) (i := 11) (j := 7) dX12_init_479 hx hx0 rfl (by decide) (by decide) ?_
  refine S_iinc (pc := 480) (v := nI 1) (L' := [some (.ref (x + 0)), some (.int (nI 7 + nI 1))]) dX12_init_480 rfl ic1 rfl ?_
  show WP _ _ _ _ _ 0 0 483 [some (.ref (x + 0)), some (.int (nI 8))] [] (gi sh f g fR x [(12, 69), (20, 1800), (20, 2), (20, 2), (20, 2), (20, 2), (20, 2), (20, 8), (20, 8), (20, 8), (20, 2), (20, 8), (20, 8), (20, 3200), (20, 3200), (21, 8), (20, 20), (20, 20), (22, 20), (20, 20), (20, 20), (20, 500), (20, 6), (20, 880), (20, 84480), (20, 21120), (20, 57200), (20, 4400), (20, 2640), (20, 4), (21, 500), (20, 12), (20, 480), (20, 480), (20, 16), (20, 16), (20, 16), (20, 1220)] [(0, 68, x + 37), (0, 67, x + 36), (0, 66, x + 35), (0, 65, x + 34), (0, 58, x + 33), (0, 56, x + 32), (0, 55, x + 31), (0, 54, x + 30), (0, 53, x + 29), (0, 48, x + 28), (0, 47, x + 27), (0, 46, x + 26), (0, 45, x + 25), (0, 44, x + 24), (0, 43, x + 23), (0, 42, x + 22), (0, 38, x + 21), (0, 35, x + 20), (0, 34, x + 19), (0, 33, x + 18), (0, 32, x + 17), (0, 31, x + 16), (0, 27, x + 15), (0, 26, x + 14), (0, 25, x + 13), (0, 24, x + 12), (0, 23, x + 11), (0, 22, x + 10), (0, 21, x + 9), (0, 20, x + 8), (0, 19, x + 7), (0, 18, x + 6), (0, 17, x + 5), (0, 16, x + 4), (0, 15, x + 3), (0, 14, x + 2), (0, 0, x + 1)] [(11, 7, (-1)), (11, 6, (-1)), (11, 5, (-1)), (11, 4, (-1)), (11, 3, (-1)), (11, 2, (-1)), (11, 1, (-1)), (11, 0, (-1)), (0, 64, (nI 0)), (0, 63, (nI 0)), (0, 62, (nI 0)), (0, 61, (nI 0)), (0, 60, (nI 0)), (0, 59, (nI 0)), (0, 57, (nI 0)), (0, 52, (nI 0)), (0, 50, (nI 0)), (0, 49, (nI 0)), (0, 41, (nI 0)), (0, 40, (nI 0)), (0, 39, (nI 0)), (0, 37, (nI 0)), (0, 36, (nI 0)), (0, 30, (nI 0)), (0, 29, (nI 1)), (0, 28, (nI 0)), (0, 13, (nI 0)), (0, 12, (-1)), (0, 11, (-1)), (0, 10, (nI 0)), (0, 9, (-1)), (0, 8, (nI 0)), (0, 6, (nI 0)), (0, 5, (nI 0)), (0, 4, (nI 0)), (0, 3, (nI 0)), (0, 2, (nI 0)), (0, 1, (nI 0))] [(0, 51, lN 1), (0, 7, lN 0)])
  refine S_goto (pc := 483) (tgt := 467) dX12_init_483 rfl ?_
  refine S_iload_n (pc := 467) dX12_init_467 rfl rfl ?_
  refine S_bipush (pc := 468) dX12_init_468 bp8 ?_
  refine S_icmp_ge (pc := 470) (tgt := 486) dX12_init_470 rfl (fun _ => ?_) (fun c => by first | exact absurd (by decide) c | exact absurd c (by decide))
  exact S_vreturn dX12_init_486 rfl ⟨rfl, rfl⟩
