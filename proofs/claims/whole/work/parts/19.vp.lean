set_option maxHeartbeats 2000000 in
set_option maxRecDepth 4000 in
theorem VX11_countOf {l : Launch} {G : Gx} {d : Nat} {Q : Option Value → Hp → Prop} {sh : Sh} {fR : FRt} {A p : Nat} {f : FI} {g : FL} {a1 : Int32} (hs : StA sh fR A) (hp : fR A 5 = some p) (hn : fR (A + 40) 7 = some p) (hP : StPl sh fR p)
    (H : ((a1 = nI 0 → Q (some (.int (f p 1))) (sh, f, g, fR)) ∧ (a1 = nI 1 → Q (some (.int (f p 6))) (sh, f, g, fR)) ∧ (a1 = nI 2 → Cl l G (d + 1) 0 0 mX10_alive [.ref (A + 40)] (sh, f, g, fR) (qi sh fR fun x6 f4 g5 => Q (some (.int x6)) (sh, f4, g5, fR))) ∧ (a1 = nI 3 → Q (some (.int (f (A + 40) 8))) (sh, f, g, fR)) ∧ (a1 = nI 4 → Q (some (.int (f (A + 40) 9))) (sh, f, g, fR)) ∧ (a1 = nI 5 → Q (some (.int (f (A + 40) 10))) (sh, f, g, fR)) ∧ (a1 = nI 6 → Q (some (.int (f (A + 40) 11))) (sh, f, g, fR)) ∧ (a1 = nI 7 → Q (some (.int (f (A + 40 + 2) 4))) (sh, f, g, fR)) ∧ (a1 = nI 8 → Q (some (.int (f (A + 40 + 2) 5))) (sh, f, g, fR)) ∧ (a1 = nI 9 → Cl l G (d + 1) 0 0 mX10_flying [.ref (A + 40)] (sh, f, g, fR) (qi sh fR fun x16 f14 g15 => Q (some (.int x16)) (sh, f14, g15, fR))) ∧ (a1 = nI 10 → Q (some (.int (f (A + 40 + 14) 5))) (sh, f, g, fR)) ∧ (a1 = nI 11 → Cl l G (d + 1) 0 0 mX5_countFrom [.ref (A + 40 + 20), .int (f (A + 40) 10)] (sh, f, g, fR) (qi sh fR fun x21 f19 g20 => Q (some (.int x21)) (sh, f19, g20, fR))) ∧ (a1 = nI 12 → Q (some (.int (f (A + 40) 12))) (sh, f, g, fR)) ∧ (a1 = nI 13 → Q (some (.int (f (A + 40 + 23) 3))) (sh, f, g, fR)) ∧ (a1 = nI 14 → Q (some (.int (f A 14))) (sh, f, g, fR)) ∧ ((¬ a1 = nI 0 ∧ ¬ a1 = nI 1 ∧ ¬ a1 = nI 2 ∧ ¬ a1 = nI 3 ∧ ¬ a1 = nI 4 ∧ ¬ a1 = nI 5 ∧ ¬ a1 = nI 6 ∧ ¬ a1 = nI 7 ∧ ¬ a1 = nI 8 ∧ ¬ a1 = nI 9 ∧ ¬ a1 = nI 10 ∧ ¬ a1 = nI 11 ∧ ¬ a1 = nI 12 ∧ ¬ a1 = nI 13 ∧ ¬ a1 = nI 14) → Q (some (.int (f A 12))) (sh, f, g, fR)))) :
    Cl l G (d + 2) 0 0 mX11_countOf [.ref A, .int a1] (sh, f, g, fR) Q := by
  refine Cl.of (L0 := [some (.ref A), some (.int a1)]) miX11_countOf rfl rfl ?_
  refine S_iload_n (pc := 0) dX11_countOf_0 rfl rfl ?_
  by_cases hc1 : a1 = nI 0
  · replace H := H.1 hc1
    refine S_tsw (pc := 1) (tgt := 76) dX11_countOf_1 (Or.inr ⟨by rw [hc1]; decide, by rw [hc1]; decide, _, by rw [hc1]; rfl, rfl⟩) ?_
    refine S_aload_n (pc := 76) dX11_countOf_76 rfl rfl ?_
    refine S_getR (pc := 77) dX11_countOf_77 flX11_26 (sA_0 hs) rfl hp ?_
    refine S_get (pc := 80) (v := .int (f p 1)) dX11_countOf_80 flX11_110 (sL_0 hP) rfl ?_
    exact S_ireturn dX11_countOf_83 rfl H
  · by_cases hc2 : a1 = nI 1
    · replace H := H.2.1 hc2
      refine S_tsw (pc := 1) (tgt := 84) dX11_countOf_1 (Or.inr ⟨by rw [hc2]; decide, by rw [hc2]; decide, _, by rw [hc2]; rfl, rfl⟩) ?_
      refine S_aload_n (pc := 84) dX11_countOf_84 rfl rfl ?_
      refine S_getR (pc := 85) dX11_countOf_85 flX11_26 (sA_0 hs) rfl hp ?_
      refine S_get (pc := 88) (v := .int (f p 6)) dX11_countOf_88 flX11_113 (sL_0 hP) rfl ?_
      exact S_ireturn dX11_countOf_91 rfl H
    · by_cases hc3 : a1 = nI 2
      · replace H := H.2.2.1 hc3
        refine S_tsw (pc := 1) (tgt := 92) dX11_countOf_1 (Or.inr ⟨by rw [hc3]; decide, by rw [hc3]; decide, _, by rw [hc3]; rfl, rfl⟩) ?_
        refine S_aload_n (pc := 92) dX11_countOf_92 rfl rfl ?_
        refine S_getR (pc := 93) dX11_countOf_93 flX11_47 (sA_0 hs) rfl (rA_0_8 hs) ?_
        refine S_callV (As := []) (mc := 0) (ms := 0) (pc := 96) dX11_countOf_96 miX10_alive mvX10_alive mlX11_116 rfl (sW_0 hs.2.2.2.1) rfl rfl rfl (RmOK.of rfl) H ?_
        rintro _ _ ⟨x6, f4, g5, rfl, rfl, H⟩
        show WP _ _ _ _ _ _ _ 99 [some (.ref A), some (.int a1)] [.int x6] (sh, f4, g5, fR)
        exact S_ireturn dX11_countOf_99 rfl H
      · by_cases hc7 : a1 = nI 3
        · replace H := H.2.2.2.1 hc7
          refine S_tsw (pc := 1) (tgt := 100) dX11_countOf_1 (Or.inr ⟨by rw [hc7]; decide, by rw [hc7]; decide, _, by rw [hc7]; rfl, rfl⟩) ?_
          refine S_aload_n (pc := 100) dX11_countOf_100 rfl rfl ?_
          refine S_getR (pc := 101) dX11_countOf_101 flX11_47 (sA_0 hs) rfl (rA_0_8 hs) ?_
          refine S_get (pc := 104) (v := .int (f (A + 40) 8)) dX11_countOf_104 flX11_120 (sW_0 hs.2.2.2.1) rfl ?_
          exact S_ireturn dX11_countOf_107 rfl H
        · by_cases hc8 : a1 = nI 4
          · replace H := H.2.2.2.2.1 hc8
            refine S_tsw (pc := 1) (tgt := 108) dX11_countOf_1 (Or.inr ⟨by rw [hc8]; decide, by rw [hc8]; decide, _, by rw [hc8]; rfl, rfl⟩) ?_
            refine S_aload_n (pc := 108) dX11_countOf_108 rfl rfl ?_
            refine S_getR (pc := 109) dX11_countOf_109 flX11_47 (sA_0 hs) rfl (rA_0_8 hs) ?_
            refine S_get (pc := 112) (v := .int (f (A + 40) 9)) dX11_countOf_112 flX11_123 (sW_0 hs.2.2.2.1) rfl ?_
            exact S_ireturn dX11_countOf_115 rfl H
          · by_cases hc9 : a1 = nI 5
            · replace H := H.2.2.2.2.2.1 hc9
              refine S_tsw (pc := 1) (tgt := 116) dX11_countOf_1 (Or.inr ⟨by rw [hc9]; decide, by rw [hc9]; decide, _, by rw [hc9]; rfl, rfl⟩) ?_
              refine S_aload_n (pc := 116) dX11_countOf_116 rfl rfl ?_
              refine S_getR (pc := 117) dX11_countOf_117 flX11_47 (sA_0 hs) rfl (rA_0_8 hs) ?_
              refine S_get (pc := 120) (v := .int (f (A + 40) 10)) dX11_countOf_120 flX11_126 (sW_0 hs.2.2.2.1) rfl ?_
              exact S_ireturn dX11_countOf_123 rfl H
            · by_cases hc10 : a1 = nI 6
              · replace H := H.2.2.2.2.2.2.1 hc10
                refine S_tsw (pc := 1) (tgt := 124) dX11_countOf_1 (Or.inr ⟨by rw [hc10]; decide, by rw [hc10]; decide, _, by rw [hc10]; rfl, rfl⟩) ?_
                refine S_aload_n (pc := 124) dX11_countOf_124 rfl rfl ?_
                refine S_getR (pc := 125) dX11_countOf_125 flX11_47 (sA_0 hs) rfl (rA_0_8 hs) ?_
                refine S_get (pc := 128) (v := .int (f (A + 40) 11)) dX11_countOf_128 flX11_129 (sW_0 hs.2.2.2.1) rfl ?_
                exact S_ireturn dX11_countOf_131 rfl H
              · by_cases hc11 : a1 = nI 7
                · replace H := H.2.2.2.2.2.2.2.1 hc11
                  refine S_tsw (pc := 1) (tgt := 132) dX11_countOf_1 (Or.inr ⟨by rw [hc11]; decide, by rw [hc11]; decide, _, by rw [hc11]; rfl, rfl⟩) ?_
                  refine S_aload_n (pc := 132) dX11_countOf_132 rfl rfl ?_
                  refine S_getR (pc := 133) dX11_countOf_133 flX11_47 (sA_0 hs) rfl (rA_0_8 hs) ?_
                  refine S_getR (pc := 136) dX11_countOf_136 flX11_132 (sW_0 hs.2.2.2.1) rfl (rW_0_1 hs.2.2.2.1) ?_
                  refine S_get (pc := 139) (v := .int (f (A + 40 + 2) 4)) dX11_countOf_139 flX11_136 (sW_2 hs.2.2.2.1) rfl ?_
                  exact S_ireturn dX11_countOf_142 rfl H
                · by_cases hc12 : a1 = nI 8
                  · replace H := H.2.2.2.2.2.2.2.2.1 hc12
                    refine S_tsw (pc := 1) (tgt := 143) dX11_countOf_1 (Or.inr ⟨by rw [hc12]; decide, by rw [hc12]; decide, _, by rw [hc12]; rfl, rfl⟩) ?_
                    refine S_aload_n (pc := 143) dX11_countOf_143 rfl rfl ?_
                    refine S_getR (pc := 144) dX11_countOf_144 flX11_47 (sA_0 hs) rfl (rA_0_8 hs) ?_
                    refine S_getR (pc := 147) dX11_countOf_147 flX11_132 (sW_0 hs.2.2.2.1) rfl (rW_0_1 hs.2.2.2.1) ?_
                    refine S_get (pc := 150) (v := .int (f (A + 40 + 2) 5)) dX11_countOf_150 flX11_141 (sW_2 hs.2.2.2.1) rfl ?_
                    exact S_ireturn dX11_countOf_153 rfl H
                  · by_cases hc13 : a1 = nI 9
                    · replace H := H.2.2.2.2.2.2.2.2.2.1 hc13
                      refine S_tsw (pc := 1) (tgt := 154) dX11_countOf_1 (Or.inr ⟨by rw [hc13]; decide, by rw [hc13]; decide, _, by rw [hc13]; rfl, rfl⟩) ?_
                      refine S_aload_n (pc := 154) dX11_countOf_154 rfl rfl ?_
                      refine S_getR (pc := 155) dX11_countOf_155 flX11_47 (sA_0 hs) rfl (rA_0_8 hs) ?_
                      refine S_callV (As := []) (mc := 0) (ms := 0) (pc := 158) dX11_countOf_158 miX10_flying mvX10_flying mlX11_144 rfl (sW_0 hs.2.2.2.1) rfl rfl rfl (RmOK.of rfl) H ?_
                      rintro _ _ ⟨x16, f14, g15, rfl, rfl, H⟩
                      show WP _ _ _ _ _ _ _ 161 [some (.ref A), some (.int a1)] [.int x16] (sh, f14, g15, fR)
                      exact S_ireturn dX11_countOf_161 rfl H
                    · by_cases hc17 : a1 = nI 10
                      · replace H := H.2.2.2.2.2.2.2.2.2.2.1 hc17
                        refine S_tsw (pc := 1) (tgt := 162) dX11_countOf_1 (Or.inr ⟨by rw [hc17]; decide, by rw [hc17]; decide, _, by rw [hc17]; rfl, rfl⟩) ?_
                        refine S_aload_n (pc := 162) dX11_countOf_162 rfl rfl ?_
                        refine S_getR (pc := 163) dX11_countOf_163 flX11_47 (sA_0 hs) rfl (rA_0_8 hs) ?_
                        refine S_getR (pc := 166) dX11_countOf_166 flX11_147 (sW_0 hs.2.2.2.1) rfl (rW_0_3 hs.2.2.2.1) ?_
                        refine S_get (pc := 169) (v := .int (f (A + 40 + 14) 5)) dX11_countOf_169 flX11_151 (sW_14 hs.2.2.2.1) rfl ?_
                        exact S_ireturn dX11_countOf_172 rfl H
                      · by_cases hc18 : a1 = nI 11
                        · replace H := H.2.2.2.2.2.2.2.2.2.2.2.1 hc18
                          refine S_tsw (pc := 1) (tgt := 173) dX11_countOf_1 (Or.inr ⟨by rw [hc18]; decide, by rw [hc18]; decide, _, by rw [hc18]; rfl, rfl⟩) ?_
                          refine S_aload_n (pc := 173) dX11_countOf_173 rfl rfl ?_
                          refine S_getR (pc := 174) dX11_countOf_174 flX11_47 (sA_0 hs) rfl (rA_0_8 hs) ?_
                          refine S_getR (pc := 177) dX11_countOf_177 flX11_156 (sW_0 hs.2.2.2.1) rfl (rW_0_4 hs.2.2.2.1) ?_
                          refine S_aload_n (pc := 180) dX11_countOf_180 rfl rfl ?_
                          refine S_getR (pc := 181) dX11_countOf_181 flX11_47 (sA_0 hs) rfl (rA_0_8 hs) ?_
                          refine S_get (pc := 184) (v := .int (f (A + 40) 10)) dX11_countOf_184 flX11_126 (sW_0 hs.2.2.2.1) rfl ?_
                          refine S_callV (As := [.int (f (A + 40) 10)]) (mc := 0) (ms := 0) (pc := 187) dX11_countOf_187 miX5_countFrom mvX5_countFrom mlX11_160 rfl (sW_20 hs.2.2.2.1) rfl rfl rfl (RmOK.of rfl) H ?_
                          rintro _ _ ⟨x21, f19, g20, rfl, rfl, H⟩
                          show WP _ _ _ _ _ _ _ 190 [some (.ref A), some (.int a1)] [.int x21] (sh, f19, g20, fR)
                          exact S_ireturn dX11_countOf_190 rfl H
                        · by_cases hc22 : a1 = nI 12
                          · replace H := H.2.2.2.2.2.2.2.2.2.2.2.2.1 hc22
                            refine S_tsw (pc := 1) (tgt := 191) dX11_countOf_1 (Or.inr ⟨by rw [hc22]; decide, by rw [hc22]; decide, _, by rw [hc22]; rfl, rfl⟩) ?_
                            refine S_aload_n (pc := 191) dX11_countOf_191 rfl rfl ?_
                            refine S_getR (pc := 192) dX11_countOf_192 flX11_47 (sA_0 hs) rfl (rA_0_8 hs) ?_
                            refine S_get (pc := 195) (v := .int (f (A + 40) 12)) dX11_countOf_195 flX11_165 (sW_0 hs.2.2.2.1) rfl ?_
                            exact S_ireturn dX11_countOf_198 rfl H
                          · by_cases hc23 : a1 = nI 13
                            · replace H := H.2.2.2.2.2.2.2.2.2.2.2.2.2.1 hc23
                              refine S_tsw (pc := 1) (tgt := 199) dX11_countOf_1 (Or.inr ⟨by rw [hc23]; decide, by rw [hc23]; decide, _, by rw [hc23]; rfl, rfl⟩) ?_
                              refine S_aload_n (pc := 199) dX11_countOf_199 rfl rfl ?_
                              refine S_getR (pc := 200) dX11_countOf_200 flX11_47 (sA_0 hs) rfl (rA_0_8 hs) ?_
                              refine S_getR (pc := 203) dX11_countOf_203 flX11_168 (sW_0 hs.2.2.2.1) rfl (rW_0_5 hs.2.2.2.1) ?_
                              refine S_get (pc := 206) (v := .int (f (A + 40 + 23) 3)) dX11_countOf_206 flX11_172 (sW_23 hs.2.2.2.1) rfl ?_
                              exact S_ireturn dX11_countOf_209 rfl H
                            · by_cases hc24 : a1 = nI 14
                              · replace H := H.2.2.2.2.2.2.2.2.2.2.2.2.2.2.1 hc24
                                refine S_tsw (pc := 1) (tgt := 210) dX11_countOf_1 (Or.inr ⟨by rw [hc24]; decide, by rw [hc24]; decide, _, by rw [hc24]; rfl, rfl⟩) ?_
                                refine S_aload_n (pc := 210) dX11_countOf_210 rfl rfl ?_
                                refine S_get (pc := 211) (v := .int (f A 14)) dX11_countOf_211 flX11_92 (sA_0 hs) rfl ?_
                                exact S_ireturn dX11_countOf_214 rfl H
                              · replace H := H.2.2.2.2.2.2.2.2.2.2.2.2.2.2.2 ⟨hc1, hc2, hc3, hc7, hc8, hc9, hc10, hc11, hc12, hc13, hc17, hc18, hc22, hc23, hc24⟩
                                refine S_tsw (pc := 1) (tgt := 215) dX11_countOf_1 (Or.inl ⟨tsw_out (lo := 0) (hi := 14) (fun j h1 h2 => by rcases (show j = 0 ∨ j = 1 ∨ j = 2 ∨ j = 3 ∨ j = 4 ∨ j = 5 ∨ j = 6 ∨ j = 7 ∨ j = 8 ∨ j = 9 ∨ j = 10 ∨ j = 11 ∨ j = 12 ∨ j = 13 ∨ j = 14 by omega) with rfl | rfl | rfl | rfl | rfl | rfl | rfl | rfl | rfl | rfl | rfl | rfl | rfl | rfl | rfl <;> assumption), rfl⟩) ?_
                                refine S_aload_n (pc := 215) dX11_countOf_215 rfl rfl ?_
                                refine S_get (pc := 216) (v := .int (f A 12)) dX11_countOf_216 flX11_95 (sA_0 hs) rfl ?_
                                exact S_ireturn dX11_countOf_219 rfl H
set_option maxHeartbeats 2000000 in
set_option maxRecDepth 4000 in
theorem VX11_isPath {l : Launch} {G : Gx} {d : Nat} {Q : Option Value → Hp → Prop} {sh : Sh} {fR : FRt} {A p : Nat} {f : FI} {g : FL} {a1 : Int32} (hs : StA sh fR A) (hp : fR A 5 = some p) (hn : fR (A + 40) 7 = some p) (hP : StPl sh fR p)
    (H : (((f A 4) = 0 → Q (some (.int (nI 0))) (sh, f, g, fR)) ∧ (¬ (f A 4) = 0 → ((a1 < 0 → Q (some (.int (nI 0))) (sh, f, g, fR)) ∧ (¬ a1 < 0 → (((f p 6) ≤ a1 → Q (some (.int (nI 0))) (sh, f, g, fR)) ∧ (¬ (f p 6) ≤ a1 → Q (some (.int (nI 1))) (sh, f, g, fR)))))))) :
    Cl l G d 0 0 mX11_isPath [.ref A, .int a1] (sh, f, g, fR) Q := by
  refine Cl.of (L0 := [some (.ref A), some (.int a1)]) miX11_isPath rfl rfl ?_
  refine S_aload_n (pc := 0) dX11_isPath_0 rfl rfl ?_
  refine S_get (pc := 1) (v := .int (f A 4)) dX11_isPath_1 flX11_85 (sA_0 hs) rfl ?_
  refine S_if_eq (pc := 4) (tgt := 26) dX11_isPath_4 rfl (fun hc1 => ?_) (fun hc1 => ?_)
  · replace H := H.1 hc1
    refine S_iconst (pc := 26) dX11_isPath_26 ic0 ?_
    exact S_zreturn dX11_isPath_27 rfl (Or.inl rfl) H
  · replace H := H.2 hc1
    refine S_iload_n (pc := 7) dX11_isPath_7 rfl rfl ?_
    refine S_if_lt (pc := 8) (tgt := 26) dX11_isPath_8 rfl (fun hc2 => ?_) (fun hc2 => ?_)
    · replace H := H.1 hc2
      refine S_iconst (pc := 26) dX11_isPath_26 ic0 ?_
      exact S_zreturn dX11_isPath_27 rfl (Or.inl rfl) H
    · replace H := H.2 hc2
      refine S_iload_n (pc := 11) dX11_isPath_11 rfl rfl ?_
      refine S_aload_n (pc := 12) dX11_isPath_12 rfl rfl ?_
      refine S_getR (pc := 13) dX11_isPath_13 flX11_26 (sA_0 hs) rfl hp ?_
      refine S_get (pc := 16) (v := .int (f p 6)) dX11_isPath_16 flX11_113 (sL_0 hP) rfl ?_
      refine S_icmp_ge (pc := 19) (tgt := 26) dX11_isPath_19 rfl (fun hc3 => ?_) (fun hc3 => ?_)
      · replace H := H.1 hc3
        refine S_iconst (pc := 26) dX11_isPath_26 ic0 ?_
        exact S_zreturn dX11_isPath_27 rfl (Or.inl rfl) H
      · replace H := H.2 hc3
        refine S_iconst (pc := 22) dX11_isPath_22 ic1 ?_
        refine S_goto (pc := 23) (tgt := 27) dX11_isPath_23 rfl ?_
        exact S_zreturn dX11_isPath_27 rfl (Or.inr rfl) H
set_option maxHeartbeats 2000000 in
set_option maxRecDepth 4000 in
theorem VX11_letter {l : Launch} {G : Gx} {d : Nat} {Q : Option Value → Hp → Prop} {sh : Sh} {fR : FRt} {A p : Nat} {f : FI} {g : FL} {a1 : Int32} {a2 : Int32} (hs : StA sh fR A) (hp : fR A 5 = some p) (hn : fR (A + 40) 7 = some p) (hP : StPl sh fR p)
    (H : Cl l G d 0 0 mX11_isPath [.ref A, .int a1] (sh, f, g, fR) (qi sh fR fun x3 f1 g2 => ((x3 = 0 → Q (some (.int (-1))) (sh, f1, g2, fR)) ∧ (¬ x3 = 0 → ((a2 < 0 → Q (some (.int (-1))) (sh, f1, g2, fR)) ∧ (¬ a2 < 0 → ((a2 < (nI 6) → inb a1 4 ∧ Cl l G d 0 0 mX9_letterOf [.int (f1 (p + 1) a1.toNatClampNeg), .int a2] (sh, f1, g2, fR) (qi sh fR fun x10 f8 g9 => Q (some (.int x10)) (sh, f8, g9, fR))) ∧ (¬ a2 < (nI 6) → Q (some (.int (-1))) (sh, f1, g2, fR))))))))) :
    Cl l G (d + 1) 0 0 mX11_letter [.ref A, .int a1, .int a2] (sh, f, g, fR) Q := by
  refine Cl.of (L0 := [some (.ref A), some (.int a1), some (.int a2)]) miX11_letter rfl rfl ?_
  refine S_aload_n (pc := 0) dX11_letter_0 rfl rfl ?_
  refine S_iload_n (pc := 1) dX11_letter_1 rfl rfl ?_
  refine S_callV (As := [.int a1]) (mc := 0) (ms := 0) (pc := 2) dX11_letter_2 miX11_isPath mvX11_isPath mlX11_175 rfl (sA_0 hs) rfl rfl rfl (RmOK.of rfl) H ?_
  rintro _ _ ⟨x3, f1, g2, rfl, rfl, H⟩
  show WP _ _ _ _ _ _ _ 5 [some (.ref A), some (.int a1), some (.int a2)] [.int x3] (sh, f1, g2, fR)
  refine S_if_eq (pc := 5) (tgt := 18) dX11_letter_5 rfl (fun hc4 => ?_) (fun hc4 => ?_)
  · replace H := H.1 hc4
    refine S_iconst (pc := 18) dX11_letter_18 icm1 ?_
    exact S_ireturn dX11_letter_19 rfl H
  · replace H := H.2 hc4
    refine S_iload_n (pc := 8) dX11_letter_8 rfl rfl ?_
    refine S_if_lt (pc := 9) (tgt := 18) dX11_letter_9 rfl (fun hc5 => ?_) (fun hc5 => ?_)
    · replace H := H.1 hc5
      refine S_iconst (pc := 18) dX11_letter_18 icm1 ?_
      exact S_ireturn dX11_letter_19 rfl H
    · replace H := H.2 hc5
      refine S_iload_n (pc := 12) dX11_letter_12 rfl rfl ?_
      refine S_bipush (pc := 13) dX11_letter_13 bp6 ?_
      refine S_icmp_lt (pc := 15) (tgt := 20) dX11_letter_15 rfl (fun hc6 => ?_) (fun hc6 => ?_)
      · replace H := H.1 hc6
        refine S_aload_n (pc := 20) dX11_letter_20 rfl rfl ?_
        refine S_getR (pc := 21) dX11_letter_21 flX11_26 (sA_0 hs) rfl hp ?_
        refine S_getR (pc := 24) dX11_letter_24 flX11_179 (sL_0 hP) rfl (rL_0_7 hP) ?_
        refine S_iload_n (pc := 27) dX11_letter_27 rfl rfl ?_
        obtain ⟨hb7, H⟩ := H
        refine S_iald (pc := 28) dX11_letter_28 (sL_1 hP) hb7 ?_
        refine S_iload_n (pc := 29) dX11_letter_29 rfl rfl ?_
        refine S_callS (As := [.int (f1 (p + 1) a1.toNatClampNeg), .int a2]) (mc := 0) (ms := 0) (pc := 30) dX11_letter_30 miX9_letterOf mvX9_letterOf mlX11_182 rfl rfl (RmOK.of rfl) H ?_
        rintro _ _ ⟨x10, f8, g9, rfl, rfl, H⟩
        show WP _ _ _ _ _ _ _ 33 [some (.ref A), some (.int a1), some (.int a2)] [.int x10] (sh, f8, g9, fR)
        exact S_ireturn dX11_letter_33 rfl H
      · replace H := H.2 hc6
        refine S_iconst (pc := 18) dX11_letter_18 icm1 ?_
        exact S_ireturn dX11_letter_19 rfl H
set_option maxHeartbeats 2000000 in
set_option maxRecDepth 4000 in
theorem VX11_path {l : Launch} {G : Gx} {d : Nat} {Q : Option Value → Hp → Prop} {sh : Sh} {fR : FRt} {A p : Nat} {f : FI} {g : FL} {a1 : Int32} {a2 : Int32} (hs : StA sh fR A) (hp : fR A 5 = some p) (hn : fR (A + 40) 7 = some p) (hP : StPl sh fR p)
    (H : Cl l G (d + 3) 0 0 mX11_isPath [.ref A, .int a1] (sh, f, g, fR) (qi sh fR fun x3 f1 g2 => ((¬ x3 = 0 → inb a1 4 ∧ (∃ r6, fR (A + 40 + 1) a1.toNatClampNeg = some r6 ∧ sh[r6]? = some (8, 8) ∧ 0 < r6 ∧ ((a2 = nI 0 → Q (some (.int (f1 r6 0))) (sh, f1, g2, fR)) ∧ (a2 = nI 1 → (((f1 r6 1) = 0 → Q (some (.int (nI 0))) (sh, f1, g2, fR)) ∧ (¬ (f1 r6 1) = 0 → Q (some (.int (nI 1))) (sh, f1, g2, fR)))) ∧ (a2 = nI 2 → (((f1 r6 2) = 0 → Q (some (.int (nI 0))) (sh, f1, g2, fR)) ∧ (¬ (f1 r6 2) = 0 → Q (some (.int (nI 1))) (sh, f1, g2, fR)))) ∧ (a2 = nI 3 → Q (some (.int (f1 r6 3))) (sh, f1, g2, fR)) ∧ (a2 = nI 4 → Q (some (.int (f1 r6 4))) (sh, f1, g2, fR)) ∧ (a2 = nI 5 → Q (some (.int (f1 r6 5))) (sh, f1, g2, fR)) ∧ (a2 = nI 6 → Q (some (.int (f1 r6 6))) (sh, f1, g2, fR)) ∧ (a2 = nI 7 → (((f1 r6 7) = 0 → Q (some (.int (nI 0))) (sh, f1, g2, fR)) ∧ (¬ (f1 r6 7) = 0 → Q (some (.int (nI 1))) (sh, f1, g2, fR)))) ∧ (a2 = nI 8 → Cl l G (d + 3) 0 0 mX10_waitOn [.ref (A + 40), .int a1] (sh, f1, g2, fR) (qi sh fR fun x24 f22 g23 => Q (some (.int x24)) (sh, f22, g23, fR))) ∧ ((¬ a2 = nI 0 ∧ ¬ a2 = nI 1 ∧ ¬ a2 = nI 2 ∧ ¬ a2 = nI 3 ∧ ¬ a2 = nI 4 ∧ ¬ a2 = nI 5 ∧ ¬ a2 = nI 6 ∧ ¬ a2 = nI 7 ∧ ¬ a2 = nI 8) → Q (some (.int (-1))) (sh, f1, g2, fR))))) ∧ (x3 = 0 → Q (some (.int (-1))) (sh, f1, g2, fR))))) :
    Cl l G (d + 4) 0 0 mX11_path [.ref A, .int a1, .int a2] (sh, f, g, fR) Q := by
  refine Cl.of (L0 := [some (.ref A), some (.int a1), some (.int a2), none]) miX11_path rfl rfl ?_
  refine S_aload_n (pc := 0) dX11_path_0 rfl rfl ?_
  refine S_iload_n (pc := 1) dX11_path_1 rfl rfl ?_
  refine S_callV (As := [.int a1]) (mc := 0) (ms := 0) (pc := 2) dX11_path_2 miX11_isPath mvX11_isPath mlX11_175 rfl (sA_0 hs) rfl rfl rfl (RmOK.of rfl) H ?_
  rintro _ _ ⟨x3, f1, g2, rfl, rfl, H⟩
  show WP _ _ _ _ _ _ _ 5 [some (.ref A), some (.int a1), some (.int a2), none] [.int x3] (sh, f1, g2, fR)
  refine S_if_ne (pc := 5) (tgt := 10) dX11_path_5 rfl (fun hc4 => ?_) (fun hc4 => ?_)
  · replace H := H.1 hc4
    refine S_aload_n (pc := 10) dX11_path_10 rfl rfl ?_
    refine S_getR (pc := 11) dX11_path_11 flX11_47 (sA_0 hs) rfl (rA_0_8 hs) ?_
    refine S_getR (pc := 14) dX11_path_14 flX11_186 (sW_0 hs.2.2.2.1) rfl (rW_0_0 hs.2.2.2.1) ?_
    refine S_iload_n (pc := 17) dX11_path_17 rfl rfl ?_
    obtain ⟨hb5, H⟩ := H
    obtain ⟨r6, e7, s8, p9, H⟩ := H
    refine S_aald24 (pc := 18) dX11_path_18 (sW_1 hs.2.2.2.1) hb5 e7 ?_
    refine S_astore_n (pc := 19) (L' := [some (.ref A), some (.int a1), some (.int a2), some (.ref r6)]) dX11_path_19 rfl (by decide) rfl ?_
    refine S_iload_n (pc := 20) dX11_path_20 rfl rfl ?_
    by_cases hc10 : a2 = nI 0
    · replace H := H.1 hc10
      refine S_tsw (pc := 21) (tgt := 72) dX11_path_21 (Or.inr ⟨by rw [hc10]; decide, by rw [hc10]; decide, _, by rw [hc10]; rfl, rfl⟩) ?_
      refine S_aload_n (pc := 72) dX11_path_72 rfl rfl ?_
      refine S_get (pc := 73) (v := .int (f1 r6 0)) dX11_path_73 flX11_190 s8 rfl ?_
      exact S_ireturn dX11_path_76 rfl H
    · by_cases hc11 : a2 = nI 1
      · replace H := H.2.1 hc11
        refine S_tsw (pc := 21) (tgt := 77) dX11_path_21 (Or.inr ⟨by rw [hc11]; decide, by rw [hc11]; decide, _, by rw [hc11]; rfl, rfl⟩) ?_
        refine S_aload_n (pc := 77) dX11_path_77 rfl rfl ?_
        refine S_get (pc := 78) (v := .int (f1 r6 1)) dX11_path_78 flX11_195 s8 rfl ?_
        refine S_if_eq (pc := 81) (tgt := 88) dX11_path_81 rfl (fun hc12 => ?_) (fun hc12 => ?_)
        · replace H := H.1 hc12
          refine S_iconst (pc := 88) dX11_path_88 ic0 ?_
          exact S_ireturn dX11_path_89 rfl H
        · replace H := H.2 hc12
          refine S_iconst (pc := 84) dX11_path_84 ic1 ?_
          refine S_goto (pc := 85) (tgt := 89) dX11_path_85 rfl ?_
          exact S_ireturn dX11_path_89 rfl H
      · by_cases hc13 : a2 = nI 2
        · replace H := H.2.2.1 hc13
          refine S_tsw (pc := 21) (tgt := 90) dX11_path_21 (Or.inr ⟨by rw [hc13]; decide, by rw [hc13]; decide, _, by rw [hc13]; rfl, rfl⟩) ?_
          refine S_aload_n (pc := 90) dX11_path_90 rfl rfl ?_
          refine S_get (pc := 91) (v := .int (f1 r6 2)) dX11_path_91 flX11_198 s8 rfl ?_
          refine S_if_eq (pc := 94) (tgt := 101) dX11_path_94 rfl (fun hc14 => ?_) (fun hc14 => ?_)
          · replace H := H.1 hc14
            refine S_iconst (pc := 101) dX11_path_101 ic0 ?_
            exact S_ireturn dX11_path_102 rfl H
          · replace H := H.2 hc14
            refine S_iconst (pc := 97) dX11_path_97 ic1 ?_
            refine S_goto (pc := 98) (tgt := 102) dX11_path_98 rfl ?_
            exact S_ireturn dX11_path_102 rfl H
        · by_cases hc15 : a2 = nI 3
          · replace H := H.2.2.2.1 hc15
            refine S_tsw (pc := 21) (tgt := 103) dX11_path_21 (Or.inr ⟨by rw [hc15]; decide, by rw [hc15]; decide, _, by rw [hc15]; rfl, rfl⟩) ?_
            refine S_aload_n (pc := 103) dX11_path_103 rfl rfl ?_
            refine S_get (pc := 104) (v := .int (f1 r6 3)) dX11_path_104 flX11_201 s8 rfl ?_
            exact S_ireturn dX11_path_107 rfl H
          · by_cases hc16 : a2 = nI 4
            · replace H := H.2.2.2.2.1 hc16
              refine S_tsw (pc := 21) (tgt := 108) dX11_path_21 (Or.inr ⟨by rw [hc16]; decide, by rw [hc16]; decide, _, by rw [hc16]; rfl, rfl⟩) ?_
              refine S_aload_n (pc := 108) dX11_path_108 rfl rfl ?_
              refine S_get (pc := 109) (v := .int (f1 r6 4)) dX11_path_109 flX11_204 s8 rfl ?_
              exact S_ireturn dX11_path_112 rfl H
            · by_cases hc17 : a2 = nI 5
              · replace H := H.2.2.2.2.2.1 hc17
                refine S_tsw (pc := 21) (tgt := 113) dX11_path_21 (Or.inr ⟨by rw [hc17]; decide, by rw [hc17]; decide, _, by rw [hc17]; rfl, rfl⟩) ?_
                refine S_aload_n (pc := 113) dX11_path_113 rfl rfl ?_
                refine S_get (pc := 114) (v := .int (f1 r6 5)) dX11_path_114 flX11_207 s8 rfl ?_
                exact S_ireturn dX11_path_117 rfl H
              · by_cases hc18 : a2 = nI 6
                · replace H := H.2.2.2.2.2.2.1 hc18
                  refine S_tsw (pc := 21) (tgt := 118) dX11_path_21 (Or.inr ⟨by rw [hc18]; decide, by rw [hc18]; decide, _, by rw [hc18]; rfl, rfl⟩) ?_
                  refine S_aload_n (pc := 118) dX11_path_118 rfl rfl ?_
                  refine S_get (pc := 119) (v := .int (f1 r6 6)) dX11_path_119 flX11_209 s8 rfl ?_
                  exact S_ireturn dX11_path_122 rfl H
                · by_cases hc19 : a2 = nI 7
                  · replace H := H.2.2.2.2.2.2.2.1 hc19
                    refine S_tsw (pc := 21) (tgt := 123) dX11_path_21 (Or.inr ⟨by rw [hc19]; decide, by rw [hc19]; decide, _, by rw [hc19]; rfl, rfl⟩) ?_
                    refine S_aload_n (pc := 123) dX11_path_123 rfl rfl ?_
                    refine S_get (pc := 124) (v := .int (f1 r6 7)) dX11_path_124 flX11_210 s8 rfl ?_
                    refine S_if_eq (pc := 127) (tgt := 134) dX11_path_127 rfl (fun hc20 => ?_) (fun hc20 => ?_)
                    · replace H := H.1 hc20
                      refine S_iconst (pc := 134) dX11_path_134 ic0 ?_
                      exact S_ireturn dX11_path_135 rfl H
                    · replace H := H.2 hc20
                      refine S_iconst (pc := 130) dX11_path_130 ic1 ?_
                      refine S_goto (pc := 131) (tgt := 135) dX11_path_131 rfl ?_
                      exact S_ireturn dX11_path_135 rfl H
                  · by_cases hc21 : a2 = nI 8
                    · replace H := H.2.2.2.2.2.2.2.2.1 hc21
                      refine S_tsw (pc := 21) (tgt := 136) dX11_path_21 (Or.inr ⟨by rw [hc21]; decide, by rw [hc21]; decide, _, by rw [hc21]; rfl, rfl⟩) ?_
                      refine S_aload_n (pc := 136) dX11_path_136 rfl rfl ?_
                      refine S_getR (pc := 137) dX11_path_137 flX11_47 (sA_0 hs) rfl (rA_0_8 hs) ?_
                      refine S_iload_n (pc := 140) dX11_path_140 rfl rfl ?_
                      refine S_callV (As := [.int a1]) (mc := 0) (ms := 0) (pc := 141) dX11_path_141 miX10_waitOn mvX10_waitOn mlX11_213 rfl (sW_0 hs.2.2.2.1) rfl rfl rfl (RmOK.of rfl) H ?_
                      rintro _ _ ⟨x24, f22, g23, rfl, rfl, H⟩
                      show WP _ _ _ _ _ _ _ 144 [some (.ref A), some (.int a1), some (.int a2), some (.ref r6)] [.int x24] (sh, f22, g23, fR)
                      exact S_ireturn dX11_path_144 rfl H
                    · replace H := H.2.2.2.2.2.2.2.2.2 ⟨hc10, hc11, hc13, hc15, hc16, hc17, hc18, hc19, hc21⟩
                      refine S_tsw (pc := 21) (tgt := 145) dX11_path_21 (Or.inl ⟨tsw_out (lo := 0) (hi := 8) (fun j h1 h2 => by rcases (show j = 0 ∨ j = 1 ∨ j = 2 ∨ j = 3 ∨ j = 4 ∨ j = 5 ∨ j = 6 ∨ j = 7 ∨ j = 8 by omega) with rfl | rfl | rfl | rfl | rfl | rfl | rfl | rfl | rfl <;> assumption), rfl⟩) ?_
                      refine S_iconst (pc := 145) dX11_path_145 icm1 ?_
                      exact S_ireturn dX11_path_146 rfl H
  · replace H := H.2 hc4
    refine S_iconst (pc := 8) dX11_path_8 icm1 ?_
    exact S_ireturn dX11_path_9 rfl H
set_option maxHeartbeats 2000000 in
set_option maxRecDepth 4000 in
theorem VX11_segment {l : Launch} {G : Gx} {d : Nat} {Q : Option Value → Hp → Prop} {sh : Sh} {fR : FRt} {A p : Nat} {f : FI} {g : FL} {a1 : Int32} {a2 : Int32} (hs : StA sh fR A) (hp : fR A 5 = some p) (hn : fR (A + 40) 7 = some p) (hP : StPl sh fR p)
    (H : ((¬ (f A 4) = 0 → Cl l G d 0 0 mX2_flyingRow [.ref (A + 40 + 5), .int a1] (sh, f, g, fR) (qi sh fR fun x4 f2 g3 => ((¬ x4 = (-1) → ((a2 = nI 0 → inb x4 512 ∧ Q (some (.int (f2 (A + 40 + 6) x4.toNatClampNeg))) (sh, f2, g3, fR)) ∧ (a2 = nI 1 → inb x4 512 ∧ Q (some (.int (f2 (A + 40 + 7) x4.toNatClampNeg))) (sh, f2, g3, fR)) ∧ (a2 = nI 2 → inb x4 512 ∧ Q (some (.int (f2 (A + 40 + 8) x4.toNatClampNeg))) (sh, f2, g3, fR)) ∧ (a2 = nI 3 → inb x4 512 ∧ Q (some (.int (f2 (A + 40 + 9) x4.toNatClampNeg))) (sh, f2, g3, fR)) ∧ (a2 = nI 4 → inb x4 512 ∧ Q (some (.int (f2 (A + 40 + 10) x4.toNatClampNeg))) (sh, f2, g3, fR)) ∧ (a2 = nI 5 → inb x4 512 ∧ inb x4 512 ∧ Cl l G d 0 0 mX6_sumOf [.ref p, .int (f2 (A + 40 + 8) x4.toNatClampNeg), .int (f2 (A + 40 + 9) x4.toNatClampNeg)] (sh, f2, g3, fR) (qi sh fR fun x21 f19 g20 => Q (some (.int x21)) (sh, f19, g20, fR))) ∧ ((¬ a2 = nI 0 ∧ ¬ a2 = nI 1 ∧ ¬ a2 = nI 2 ∧ ¬ a2 = nI 3 ∧ ¬ a2 = nI 4 ∧ ¬ a2 = nI 5) → Q (some (.int (-1))) (sh, f2, g3, fR)))) ∧ (x4 = (-1) → Q (some (.int (-1))) (sh, f2, g3, fR))))) ∧ ((f A 4) = 0 → Q (some (.int (-1))) (sh, f, g, fR)))) :
    Cl l G (d + 1) 0 0 mX11_segment [.ref A, .int a1, .int a2] (sh, f, g, fR) Q := by
  refine Cl.of (L0 := [some (.ref A), some (.int a1), some (.int a2), none, none]) miX11_segment rfl rfl ?_
  refine S_aload_n (pc := 0) dX11_segment_0 rfl rfl ?_
  refine S_get (pc := 1) (v := .int (f A 4)) dX11_segment_1 flX11_85 (sA_0 hs) rfl ?_
  refine S_if_ne (pc := 4) (tgt := 9) dX11_segment_4 rfl (fun hc1 => ?_) (fun hc1 => ?_)
  · replace H := H.1 hc1
    refine S_aload_n (pc := 9) dX11_segment_9 rfl rfl ?_
    refine S_getR (pc := 10) dX11_segment_10 flX11_47 (sA_0 hs) rfl (rA_0_8 hs) ?_
    refine S_getR (pc := 13) dX11_segment_13 flX11_216 (sW_0 hs.2.2.2.1) rfl (rW_0_2 hs.2.2.2.1) ?_
    refine S_astore_n (pc := 16) (L' := [some (.ref A), some (.int a1), some (.int a2), some (.ref (A + 40 + 5)), none]) dX11_segment_16 rfl (by decide) rfl ?_
    refine S_aload_n (pc := 17) dX11_segment_17 rfl rfl ?_
    refine S_iload_n (pc := 18) dX11_segment_18 rfl rfl ?_
    refine S_callV (As := [.int a1]) (mc := 0) (ms := 0) (pc := 19) dX11_segment_19 miX2_flyingRow mvX2_flyingRow mlX11_220 rfl (sW_5 hs.2.2.2.1) rfl rfl rfl (RmOK.of rfl) H ?_
    rintro _ _ ⟨x4, f2, g3, rfl, rfl, H⟩
    show WP _ _ _ _ _ _ _ 22 [some (.ref A), some (.int a1), some (.int a2), some (.ref (A + 40 + 5)), none] [.int x4] (sh, f2, g3, fR)
    refine S_istore (pc := 22) (L' := [some (.ref A), some (.int a1), some (.int a2), some (.ref (A + 40 + 5)), some (.int x4)]) dX11_segment_22 (by decide) rfl ?_
    refine S_iload (pc := 24) dX11_segment_24 rfl ?_
    refine S_iconst (pc := 26) dX11_segment_26 icm1 ?_
    refine S_icmp_ne (pc := 27) (tgt := 32) dX11_segment_27 rfl (fun hc5 => ?_) (fun hc5 => ?_)
    · replace H := H.1 hc5
      refine S_iload_n (pc := 32) dX11_segment_32 rfl rfl ?_
      by_cases hc6 : a2 = nI 0
      · replace H := H.1 hc6
        refine S_tsw (pc := 33) (tgt := 72) dX11_segment_33 (Or.inr ⟨by rw [hc6]; decide, by rw [hc6]; decide, _, by rw [hc6]; rfl, rfl⟩) ?_
        refine S_aload_n (pc := 72) dX11_segment_72 rfl rfl ?_
        refine S_getR (pc := 73) dX11_segment_73 flX11_225 (sW_5 hs.2.2.2.1) rfl (rW_5_0 hs.2.2.2.1) ?_
        refine S_iload (pc := 76) dX11_segment_76 rfl ?_
        obtain ⟨hb7, H⟩ := H
        refine S_iald (pc := 78) dX11_segment_78 (sW_6 hs.2.2.2.1) hb7 ?_
        exact S_ireturn dX11_segment_79 rfl H
      · by_cases hc8 : a2 = nI 1
        · replace H := H.2.1 hc8
          refine S_tsw (pc := 33) (tgt := 80) dX11_segment_33 (Or.inr ⟨by rw [hc8]; decide, by rw [hc8]; decide, _, by rw [hc8]; rfl, rfl⟩) ?_
          refine S_aload_n (pc := 80) dX11_segment_80 rfl rfl ?_
          refine S_getR (pc := 81) dX11_segment_81 flX11_228 (sW_5 hs.2.2.2.1) rfl (rW_5_1 hs.2.2.2.1) ?_
          refine S_iload (pc := 84) dX11_segment_84 rfl ?_
          obtain ⟨hb9, H⟩ := H
          refine S_iald (pc := 86) dX11_segment_86 (sW_7 hs.2.2.2.1) hb9 ?_
          exact S_ireturn dX11_segment_87 rfl H
        · by_cases hc10 : a2 = nI 2
          · replace H := H.2.2.1 hc10
            refine S_tsw (pc := 33) (tgt := 88) dX11_segment_33 (Or.inr ⟨by rw [hc10]; decide, by rw [hc10]; decide, _, by rw [hc10]; rfl, rfl⟩) ?_
            refine S_aload_n (pc := 88) dX11_segment_88 rfl rfl ?_
            refine S_getR (pc := 89) dX11_segment_89 flX11_231 (sW_5 hs.2.2.2.1) rfl (rW_5_2 hs.2.2.2.1) ?_
            refine S_iload (pc := 92) dX11_segment_92 rfl ?_
            obtain ⟨hb11, H⟩ := H
            refine S_iald (pc := 94) dX11_segment_94 (sW_8 hs.2.2.2.1) hb11 ?_
            exact S_ireturn dX11_segment_95 rfl H
          · by_cases hc12 : a2 = nI 3
            · replace H := H.2.2.2.1 hc12
              refine S_tsw (pc := 33) (tgt := 96) dX11_segment_33 (Or.inr ⟨by rw [hc12]; decide, by rw [hc12]; decide, _, by rw [hc12]; rfl, rfl⟩) ?_
              refine S_aload_n (pc := 96) dX11_segment_96 rfl rfl ?_
              refine S_getR (pc := 97) dX11_segment_97 flX11_234 (sW_5 hs.2.2.2.1) rfl (rW_5_3 hs.2.2.2.1) ?_
              refine S_iload (pc := 100) dX11_segment_100 rfl ?_
              obtain ⟨hb13, H⟩ := H
              refine S_iald (pc := 102) dX11_segment_102 (sW_9 hs.2.2.2.1) hb13 ?_
              exact S_ireturn dX11_segment_103 rfl H
            · by_cases hc14 : a2 = nI 4
              · replace H := H.2.2.2.2.1 hc14
                refine S_tsw (pc := 33) (tgt := 104) dX11_segment_33 (Or.inr ⟨by rw [hc14]; decide, by rw [hc14]; decide, _, by rw [hc14]; rfl, rfl⟩) ?_
                refine S_aload_n (pc := 104) dX11_segment_104 rfl rfl ?_
                refine S_getR (pc := 105) dX11_segment_105 flX11_237 (sW_5 hs.2.2.2.1) rfl (rW_5_4 hs.2.2.2.1) ?_
                refine S_iload (pc := 108) dX11_segment_108 rfl ?_
                obtain ⟨hb15, H⟩ := H
                refine S_iald (pc := 110) dX11_segment_110 (sW_10 hs.2.2.2.1) hb15 ?_
                exact S_ireturn dX11_segment_111 rfl H
              · by_cases hc16 : a2 = nI 5
                · replace H := H.2.2.2.2.2.1 hc16
                  refine S_tsw (pc := 33) (tgt := 112) dX11_segment_33 (Or.inr ⟨by rw [hc16]; decide, by rw [hc16]; decide, _, by rw [hc16]; rfl, rfl⟩) ?_
                  refine S_aload_n (pc := 112) dX11_segment_112 rfl rfl ?_
                  refine S_getR (pc := 113) dX11_segment_113 flX11_26 (sA_0 hs) rfl hp ?_
                  refine S_aload_n (pc := 116) dX11_segment_116 rfl rfl ?_
                  refine S_getR (pc := 117) dX11_segment_117 flX11_231 (sW_5 hs.2.2.2.1) rfl (rW_5_2 hs.2.2.2.1) ?_
                  refine S_iload (pc := 120) dX11_segment_120 rfl ?_
                  obtain ⟨hb17, H⟩ := H
                  refine S_iald (pc := 122) dX11_segment_122 (sW_8 hs.2.2.2.1) hb17 ?_
                  refine S_aload_n (pc := 123) dX11_segment_123 rfl rfl ?_
                  refine S_getR (pc := 124) dX11_segment_124 flX11_234 (sW_5 hs.2.2.2.1) rfl (rW_5_3 hs.2.2.2.1) ?_
                  refine S_iload (pc := 127) dX11_segment_127 rfl ?_
                  obtain ⟨hb18, H⟩ := H
                  refine S_iald (pc := 129) dX11_segment_129 (sW_9 hs.2.2.2.1) hb18 ?_
                  refine S_callV (As := [.int (f2 (A + 40 + 8) x4.toNatClampNeg), .int (f2 (A + 40 + 9) x4.toNatClampNeg)]) (mc := 0) (ms := 0) (pc := 130) dX11_segment_130 miX6_sumOf mvX6_sumOf mlX11_240 rfl (sL_0 hP) rfl rfl rfl (RmOK.of rfl) H ?_
                  rintro _ _ ⟨x21, f19, g20, rfl, rfl, H⟩
                  show WP _ _ _ _ _ _ _ 133 [some (.ref A), some (.int a1), some (.int a2), some (.ref (A + 40 + 5)), some (.int x4)] [.int x21] (sh, f19, g20, fR)
                  exact S_ireturn dX11_segment_133 rfl H
                · replace H := H.2.2.2.2.2.2 ⟨hc6, hc8, hc10, hc12, hc14, hc16⟩
                  refine S_tsw (pc := 33) (tgt := 134) dX11_segment_33 (Or.inl ⟨tsw_out (lo := 0) (hi := 5) (fun j h1 h2 => by rcases (show j = 0 ∨ j = 1 ∨ j = 2 ∨ j = 3 ∨ j = 4 ∨ j = 5 by omega) with rfl | rfl | rfl | rfl | rfl | rfl <;> assumption), rfl⟩) ?_
                  refine S_iconst (pc := 134) dX11_segment_134 icm1 ?_
                  exact S_ireturn dX11_segment_135 rfl H
    · replace H := H.2 hc5
      refine S_iconst (pc := 30) dX11_segment_30 icm1 ?_
      exact S_ireturn dX11_segment_31 rfl H
  · replace H := H.2 hc1
    refine S_iconst (pc := 7) dX11_segment_7 icm1 ?_
    exact S_ireturn dX11_segment_8 rfl H
set_option maxHeartbeats 2000000 in
set_option maxRecDepth 4000 in
theorem VX11_octet {l : Launch} {G : Gx} {d : Nat} {Q : Option Value → Hp → Prop} {sh : Sh} {fR : FRt} {A p : Nat} {f : FI} {g : FL} {a1 : Int32} (hs : StA sh fR A) (hp : fR A 5 = some p) (hn : fR (A + 40) 7 = some p) (hP : StPl sh fR p)
    (H : (((f A 4) = 0 → Q (some (.int (-1))) (sh, f, g, fR)) ∧ (¬ (f A 4) = 0 → ((a1 < 0 → Q (some (.int (-1))) (sh, f, g, fR)) ∧ (¬ a1 < 0 → ((a1 < (f p 1) → (((f (A + 40 + 2) 5) ≤ a1 → inb a1 200 ∧ Q (some (.int (f (A + 40 + 3) a1.toNatClampNeg))) (sh, f, g, fR)) ∧ (¬ (f (A + 40 + 2) 5) ≤ a1 → Q (some (.int (nI 2))) (sh, f, g, fR)))) ∧ (¬ a1 < (f p 1) → Q (some (.int (-1))) (sh, f, g, fR)))))))) :
    Cl l G d 0 0 mX11_octet [.ref A, .int a1] (sh, f, g, fR) Q := by
  refine Cl.of (L0 := [some (.ref A), some (.int a1)]) miX11_octet rfl rfl ?_
  refine S_aload_n (pc := 0) dX11_octet_0 rfl rfl ?_
  refine S_get (pc := 1) (v := .int (f A 4)) dX11_octet_1 flX11_85 (sA_0 hs) rfl ?_
  refine S_if_eq (pc := 4) (tgt := 22) dX11_octet_4 rfl (fun hc1 => ?_) (fun hc1 => ?_)
  · replace H := H.1 hc1
    refine S_iconst (pc := 22) dX11_octet_22 icm1 ?_
    exact S_ireturn dX11_octet_23 rfl H
  · replace H := H.2 hc1
    refine S_iload_n (pc := 7) dX11_octet_7 rfl rfl ?_
    refine S_if_lt (pc := 8) (tgt := 22) dX11_octet_8 rfl (fun hc2 => ?_) (fun hc2 => ?_)
    · replace H := H.1 hc2
      refine S_iconst (pc := 22) dX11_octet_22 icm1 ?_
      exact S_ireturn dX11_octet_23 rfl H
    · replace H := H.2 hc2
      refine S_iload_n (pc := 11) dX11_octet_11 rfl rfl ?_
      refine S_aload_n (pc := 12) dX11_octet_12 rfl rfl ?_
      refine S_getR (pc := 13) dX11_octet_13 flX11_26 (sA_0 hs) rfl hp ?_
      refine S_get (pc := 16) (v := .int (f p 1)) dX11_octet_16 flX11_110 (sL_0 hP) rfl ?_
      refine S_icmp_lt (pc := 19) (tgt := 24) dX11_octet_19 rfl (fun hc3 => ?_) (fun hc3 => ?_)
      · replace H := H.1 hc3
        refine S_iload_n (pc := 24) dX11_octet_24 rfl rfl ?_
        refine S_aload_n (pc := 25) dX11_octet_25 rfl rfl ?_
        refine S_getR (pc := 26) dX11_octet_26 flX11_47 (sA_0 hs) rfl (rA_0_8 hs) ?_
        refine S_getR (pc := 29) dX11_octet_29 flX11_132 (sW_0 hs.2.2.2.1) rfl (rW_0_1 hs.2.2.2.1) ?_
        refine S_get (pc := 32) (v := .int (f (A + 40 + 2) 5)) dX11_octet_32 flX11_141 (sW_2 hs.2.2.2.1) rfl ?_
        refine S_icmp_ge (pc := 35) (tgt := 40) dX11_octet_35 rfl (fun hc4 => ?_) (fun hc4 => ?_)
        · replace H := H.1 hc4
          refine S_aload_n (pc := 40) dX11_octet_40 rfl rfl ?_
          refine S_getR (pc := 41) dX11_octet_41 flX11_47 (sA_0 hs) rfl (rA_0_8 hs) ?_
          refine S_getR (pc := 44) dX11_octet_44 flX11_132 (sW_0 hs.2.2.2.1) rfl (rW_0_1 hs.2.2.2.1) ?_
          refine S_getR (pc := 47) dX11_octet_47 flX11_243 (sW_2 hs.2.2.2.1) rfl (rW_2_0 hs.2.2.2.1) ?_
          refine S_iload_n (pc := 50) dX11_octet_50 rfl rfl ?_
          obtain ⟨hb5, H⟩ := H
          refine S_bald (pc := 51) dX11_octet_51 (sW_3 hs.2.2.2.1) hb5 ?_
          exact S_ireturn dX11_octet_52 rfl H
        · replace H := H.2 hc4
          refine S_iconst (pc := 38) dX11_octet_38 ic2 ?_
          exact S_ireturn dX11_octet_39 rfl H
      · replace H := H.2 hc3
        refine S_iconst (pc := 22) dX11_octet_22 icm1 ?_
        exact S_ireturn dX11_octet_23 rfl H
set_option maxHeartbeats 2000000 in
set_option maxRecDepth 4000 in
theorem VX11_refusals {l : Launch} {G : Gx} {d : Nat} {Q : Option Value → Hp → Prop} {sh : Sh} {fR : FRt} {A p : Nat} {f : FI} {g : FL} {a1 : Int32} (hs : StA sh fR A) (hp : fR A 5 = some p) (hn : fR (A + 40) 7 = some p) (hP : StPl sh fR p)
    (H : ((a1 < 0 → Q (some (.int (-1))) (sh, f, g, fR)) ∧ (¬ a1 < 0 → ((a1 ≤ (nI 3) → (((f A 4) = 0 → Q (some (.int (nI 0))) (sh, f, g, fR)) ∧ (¬ (f A 4) = 0 → inb a1 4 ∧ Q (some (.int (f (A + 40 + 4) a1.toNatClampNeg))) (sh, f, g, fR)))) ∧ (¬ a1 ≤ (nI 3) → Q (some (.int (-1))) (sh, f, g, fR)))))) :
    Cl l G d 0 0 mX11_refusals [.ref A, .int a1] (sh, f, g, fR) Q := by
  refine Cl.of (L0 := [some (.ref A), some (.int a1)]) miX11_refusals rfl rfl ?_
  refine S_iload_n (pc := 0) dX11_refusals_0 rfl rfl ?_
  refine S_if_lt (pc := 1) (tgt := 9) dX11_refusals_1 rfl (fun hc1 => ?_) (fun hc1 => ?_)
  · replace H := H.1 hc1
    refine S_iconst (pc := 9) dX11_refusals_9 icm1 ?_
    exact S_ireturn dX11_refusals_10 rfl H
  · replace H := H.2 hc1
    refine S_iload_n (pc := 4) dX11_refusals_4 rfl rfl ?_
    refine S_iconst (pc := 5) dX11_refusals_5 ic3 ?_
    refine S_icmp_le (pc := 6) (tgt := 11) dX11_refusals_6 rfl (fun hc2 => ?_) (fun hc2 => ?_)
    · replace H := H.1 hc2
      refine S_aload_n (pc := 11) dX11_refusals_11 rfl rfl ?_
      refine S_get (pc := 12) (v := .int (f A 4)) dX11_refusals_12 flX11_85 (sA_0 hs) rfl ?_
      refine S_if_eq (pc := 15) (tgt := 33) dX11_refusals_15 rfl (fun hc3 => ?_) (fun hc3 => ?_)
      · replace H := H.1 hc3
        refine S_iconst (pc := 33) dX11_refusals_33 ic0 ?_
        exact S_ireturn dX11_refusals_34 rfl H
      · replace H := H.2 hc3
        refine S_aload_n (pc := 18) dX11_refusals_18 rfl rfl ?_
        refine S_getR (pc := 19) dX11_refusals_19 flX11_47 (sA_0 hs) rfl (rA_0_8 hs) ?_
        refine S_getR (pc := 22) dX11_refusals_22 flX11_132 (sW_0 hs.2.2.2.1) rfl (rW_0_1 hs.2.2.2.1) ?_
        refine S_getR (pc := 25) dX11_refusals_25 flX11_247 (sW_2 hs.2.2.2.1) rfl (rW_2_1 hs.2.2.2.1) ?_
        refine S_iload_n (pc := 28) dX11_refusals_28 rfl rfl ?_
        obtain ⟨hb4, H⟩ := H
        refine S_iald (pc := 29) dX11_refusals_29 (sW_4 hs.2.2.2.1) hb4 ?_
        refine S_goto (pc := 30) (tgt := 34) dX11_refusals_30 rfl ?_
        exact S_ireturn dX11_refusals_34 rfl H
    · replace H := H.2 hc2
      refine S_iconst (pc := 9) dX11_refusals_9 icm1 ?_
      exact S_ireturn dX11_refusals_10 rfl H
abbrev LpX11_later_43 (l : Launch) (G : Gx) (d : Nat) (Q : Option Value → Hp → Prop) (sh : Sh) (fR : FRt) (A p : Nat) (f : FI) (g : FL) (a1 : Int32) (a2 : Int32) (a3 : Int32) : Prop := WP l G (Zq G 0 0 Q) mX11_later (rmd (d + 6) 0 0) 0 0 43 [some (.ref A), some (.int a1), some (.int a2), some (.int a3)] [] (sh, f, g, fR)
set_option maxHeartbeats 2000000 in
set_option maxRecDepth 4000 in
theorem VX11_later {l : Launch} {G : Gx} {d : Nat} {Q : Option Value → Hp → Prop} {sh : Sh} {fR : FRt} {A p : Nat} {f : FI} {g : FL} {a1 : Int32} {a2 : Int32} (hs : StA sh fR A) (hp : fR A 5 = some p) (hn : fR (A + 40) 7 = some p) (hP : StPl sh fR p)
    (H : ((a1 < 0 → Q (some (.int (-1))) (sh, f, g, fR)) ∧ (¬ a1 < 0 → (((nI 200) < a1 → Q (some (.int (-1))) (sh, f, g, fR)) ∧ (¬ (nI 200) < a1 → Cl l G (d + 5) 0 0 mX11_canGo [.ref A, .int a1] (sh, f, g, fR) (qi sh fR fun x5 f3 g4 => ((x5 = 0 → Q (some (.int (-1))) (sh, f3, g4, fR)) ∧ (¬ x5 = 0 → ((a2 < 0 → Q (some (.int (-1))) (sh, f3, g4, fR)) ∧ (¬ a2 < 0 → ((a2 ≤ (nI 4) → Cl l G (d + 5) 0 0 mX10_copyFrom [.ref (A + 72), .ref (A + 40)] (sh, f3, g4, fR) (qv sh (up2 fR (A + 72) 7 (some p)) fun f11 g12 => LpX11_later_43 l G d Q sh (up2 fR (A + 72) 7 (some p)) A p f11 g12 a1 a2 (nI 0))) ∧ (¬ a2 ≤ (nI 4) → Q (some (.int (-1))) (sh, f3, g4, fR))))))))))))) :
    Cl l G (d + 6) 0 0 mX11_later [.ref A, .int a1, .int a2] (sh, f, g, fR) Q := by
  refine Cl.of (L0 := [some (.ref A), some (.int a1), some (.int a2), none]) miX11_later rfl rfl ?_
  refine S_iload_n (pc := 0) dX11_later_0 rfl rfl ?_
  refine S_if_lt (pc := 1) (tgt := 28) dX11_later_1 rfl (fun hc1 => ?_) (fun hc1 => ?_)
  · replace H := H.1 hc1
    refine S_iconst (pc := 28) dX11_later_28 icm1 ?_
    exact S_ireturn dX11_later_29 rfl H
  · replace H := H.2 hc1
    refine S_iload_n (pc := 4) dX11_later_4 rfl rfl ?_
    refine S_sipush (pc := 5) dX11_later_5 sp200 ?_
    refine S_icmp_gt (pc := 8) (tgt := 28) dX11_later_8 rfl (fun hc2 => ?_) (fun hc2 => ?_)
    · replace H := H.1 hc2
      refine S_iconst (pc := 28) dX11_later_28 icm1 ?_
      exact S_ireturn dX11_later_29 rfl H
    · replace H := H.2 hc2
      refine S_aload_n (pc := 11) dX11_later_11 rfl rfl ?_
      refine S_iload_n (pc := 12) dX11_later_12 rfl rfl ?_
      refine S_callV (As := [.int a1]) (mc := 0) (ms := 0) (pc := 13) dX11_later_13 miX11_canGo mvX11_canGo mlX11_248 rfl (sA_0 hs) rfl rfl rfl (RmOK.of rfl) H ?_
      rintro _ _ ⟨x5, f3, g4, rfl, rfl, H⟩
      show WP _ _ _ _ _ _ _ 16 [some (.ref A), some (.int a1), some (.int a2), none] [.int x5] (sh, f3, g4, fR)
      refine S_if_eq (pc := 16) (tgt := 28) dX11_later_16 rfl (fun hc6 => ?_) (fun hc6 => ?_)
      · replace H := H.1 hc6
        refine S_iconst (pc := 28) dX11_later_28 icm1 ?_
        exact S_ireturn dX11_later_29 rfl H
      · replace H := H.2 hc6
        refine S_iload_n (pc := 19) dX11_later_19 rfl rfl ?_
        refine S_if_lt (pc := 20) (tgt := 28) dX11_later_20 rfl (fun hc7 => ?_) (fun hc7 => ?_)
        · replace H := H.1 hc7
          refine S_iconst (pc := 28) dX11_later_28 icm1 ?_
          exact S_ireturn dX11_later_29 rfl H
        · replace H := H.2 hc7
          refine S_iload_n (pc := 23) dX11_later_23 rfl rfl ?_
          refine S_iconst (pc := 24) dX11_later_24 ic4 ?_
          refine S_icmp_le (pc := 25) (tgt := 30) dX11_later_25 rfl (fun hc8 => ?_) (fun hc8 => ?_)
          · replace H := H.1 hc8
            refine S_aload_n (pc := 30) dX11_later_30 rfl rfl ?_
            refine S_getR (pc := 31) dX11_later_31 flX11_51 (sA_0 hs) rfl (rA_0_9 hs) ?_
            refine S_aload_n (pc := 34) dX11_later_34 rfl rfl ?_
            refine S_getR (pc := 35) dX11_later_35 flX11_47 (sA_0 hs) rfl (rA_0_8 hs) ?_
            refine S_callV (As := [.ref (A + 40)]) (mc := 0) (ms := 0) (pc := 38) dX11_later_38 miX10_copyFrom mvX10_copyFrom mlX11_251 rfl (sW_0 hs.2.2.2.2.1) rfl rfl rfl (RmOK.of rfl) H ?_
            rintro _ _ ⟨f11, g12, rfl, rfl, H⟩
            show WP _ _ _ _ _ _ _ 41 [some (.ref A), some (.int a1), some (.int a2), none] [] (sh, f11, g12, (up2 fR (A + 72) 7 (some p)))
            refine S_iconst (pc := 41) dX11_later_41 ic0 ?_
            refine S_istore_n (pc := 42) (L' := [some (.ref A), some (.int a1), some (.int a2), some (.int (nI 0))]) dX11_later_42 rfl (by decide) rfl ?_
            exact H
          · replace H := H.2 hc8
            refine S_iconst (pc := 28) dX11_later_28 icm1 ?_
            exact S_ireturn dX11_later_29 rfl H
set_option maxHeartbeats 2000000 in
set_option maxRecDepth 4000 in
theorem VX11_later_43 {l : Launch} {G : Gx} {d : Nat} {Q : Option Value → Hp → Prop} {sh : Sh} {fR : FRt} {A p : Nat} {f : FI} {g : FL} {a1 : Int32} {a2 : Int32} {a3 : Int32} (hs : StA sh fR A) (hp : fR A 5 = some p) (hn : fR (A + 40) 7 = some p) (hP : StPl sh fR p)
    (H : ((a1 ≤ a3 → ((a2 = nI 0 → Q (some (.int (f (A + 72) 9))) (sh, f, g, fR)) ∧ (a2 = nI 1 → Q (some (.int (f (A + 72) 10))) (sh, f, g, fR)) ∧ (a2 = nI 2 → Q (some (.int (f (A + 72 + 2) 5))) (sh, f, g, fR)) ∧ (a2 = nI 3 → Cl l G (d + 5) 0 0 mX10_flying [.ref (A + 72)] (sh, f, g, fR) (qi sh fR fun x20 f18 g19 => Q (some (.int x20)) (sh, f18, g19, fR))) ∧ ((¬ a2 = nI 0 ∧ ¬ a2 = nI 1 ∧ ¬ a2 = nI 2 ∧ ¬ a2 = nI 3) → Q (some (.int (f (A + 72) 12))) (sh, f, g, fR)))) ∧ (¬ a1 ≤ a3 → Cl l G (d + 5) 0 0 mX10_step [.ref (A + 72), .null] (sh, f, g, fR) (qv sh fR fun f21 g22 => LpX11_later_43 l G d Q sh fR A p f21 g22 a1 a2 (a3 + nI 1))))) :
    LpX11_later_43 l G d Q sh fR A p f g a1 a2 a3 := by
  refine S_iload_n (pc := 43) dX11_later_43 rfl rfl ?_
  refine S_iload_n (pc := 44) dX11_later_44 rfl rfl ?_
  refine S_icmp_ge (pc := 45) (tgt := 62) dX11_later_45 rfl (fun hc13 => ?_) (fun hc13 => ?_)
  · replace H := H.1 hc13
    refine S_iload_n (pc := 62) dX11_later_62 rfl rfl ?_
    by_cases hc14 : a2 = nI 0
    · replace H := H.1 hc14
      refine S_tsw (pc := 63) (tgt := 92) dX11_later_63 (Or.inr ⟨by rw [hc14]; decide, by rw [hc14]; decide, _, by rw [hc14]; rfl, rfl⟩) ?_
      refine S_aload_n (pc := 92) dX11_later_92 rfl rfl ?_
      refine S_getR (pc := 93) dX11_later_93 flX11_51 (sA_0 hs) rfl (rA_0_9 hs) ?_
      refine S_get (pc := 96) (v := .int (f (A + 72) 9)) dX11_later_96 flX11_123 (sW_0 hs.2.2.2.2.1) rfl ?_
      exact S_ireturn dX11_later_99 rfl H
    · by_cases hc15 : a2 = nI 1
      · replace H := H.2.1 hc15
        refine S_tsw (pc := 63) (tgt := 100) dX11_later_63 (Or.inr ⟨by rw [hc15]; decide, by rw [hc15]; decide, _, by rw [hc15]; rfl, rfl⟩) ?_
        refine S_aload_n (pc := 100) dX11_later_100 rfl rfl ?_
        refine S_getR (pc := 101) dX11_later_101 flX11_51 (sA_0 hs) rfl (rA_0_9 hs) ?_
        refine S_get (pc := 104) (v := .int (f (A + 72) 10)) dX11_later_104 flX11_126 (sW_0 hs.2.2.2.2.1) rfl ?_
        exact S_ireturn dX11_later_107 rfl H
      · by_cases hc16 : a2 = nI 2
        · replace H := H.2.2.1 hc16
          refine S_tsw (pc := 63) (tgt := 108) dX11_later_63 (Or.inr ⟨by rw [hc16]; decide, by rw [hc16]; decide, _, by rw [hc16]; rfl, rfl⟩) ?_
          refine S_aload_n (pc := 108) dX11_later_108 rfl rfl ?_
          refine S_getR (pc := 109) dX11_later_109 flX11_51 (sA_0 hs) rfl (rA_0_9 hs) ?_
          refine S_getR (pc := 112) dX11_later_112 flX11_132 (sW_0 hs.2.2.2.2.1) rfl (rW_0_1 hs.2.2.2.2.1) ?_
          refine S_get (pc := 115) (v := .int (f (A + 72 + 2) 5)) dX11_later_115 flX11_141 (sW_2 hs.2.2.2.2.1) rfl ?_
          exact S_ireturn dX11_later_118 rfl H
        · by_cases hc17 : a2 = nI 3
          · replace H := H.2.2.2.1 hc17
            refine S_tsw (pc := 63) (tgt := 119) dX11_later_63 (Or.inr ⟨by rw [hc17]; decide, by rw [hc17]; decide, _, by rw [hc17]; rfl, rfl⟩) ?_
            refine S_aload_n (pc := 119) dX11_later_119 rfl rfl ?_
            refine S_getR (pc := 120) dX11_later_120 flX11_51 (sA_0 hs) rfl (rA_0_9 hs) ?_
            refine S_callV (As := []) (mc := 0) (ms := 0) (pc := 123) dX11_later_123 miX10_flying mvX10_flying mlX11_144 rfl (sW_0 hs.2.2.2.2.1) rfl rfl rfl (RmOK.of rfl) H ?_
            rintro _ _ ⟨x20, f18, g19, rfl, rfl, H⟩
            show WP _ _ _ _ _ _ _ 126 [some (.ref A), some (.int a1), some (.int a2), some (.int a3)] [.int x20] (sh, f18, g19, fR)
            exact S_ireturn dX11_later_126 rfl H
          · replace H := H.2.2.2.2 ⟨hc14, hc15, hc16, hc17⟩
            refine S_tsw (pc := 63) (tgt := 127) dX11_later_63 (Or.inl ⟨tsw_out (lo := 0) (hi := 3) (fun j h1 h2 => by rcases (show j = 0 ∨ j = 1 ∨ j = 2 ∨ j = 3 by omega) with rfl | rfl | rfl | rfl <;> assumption), rfl⟩) ?_
            refine S_aload_n (pc := 127) dX11_later_127 rfl rfl ?_
            refine S_getR (pc := 128) dX11_later_128 flX11_51 (sA_0 hs) rfl (rA_0_9 hs) ?_
            refine S_get (pc := 131) (v := .int (f (A + 72) 12)) dX11_later_131 flX11_165 (sW_0 hs.2.2.2.2.1) rfl ?_
            exact S_ireturn dX11_later_134 rfl H
  · replace H := H.2 hc13
    refine S_aload_n (pc := 48) dX11_later_48 rfl rfl ?_
    refine S_getR (pc := 49) dX11_later_49 flX11_51 (sA_0 hs) rfl (rA_0_9 hs) ?_
    refine S_null (pc := 52) dX11_later_52 ?_
    refine S_callV (As := [.null]) (mc := 0) (ms := 0) (pc := 53) dX11_later_53 miX10_step mvX10_step mlX11_255 rfl (sW_0 hs.2.2.2.2.1) rfl rfl rfl (RmOK.of rfl) H ?_
    rintro _ _ ⟨f21, g22, rfl, rfl, H⟩
    show WP _ _ _ _ _ _ _ 56 [some (.ref A), some (.int a1), some (.int a2), some (.int a3)] [] (sh, f21, g22, fR)
    refine S_iinc (pc := 56) (v := nI 1) (L' := [some (.ref A), some (.int a1), some (.int a2), some (.int (a3 + nI 1))]) dX11_later_56 rfl ic1 rfl ?_
    refine S_goto (pc := 59) (tgt := 43) dX11_later_59 rfl ?_
    exact H
set_option maxHeartbeats 2000000 in
set_option maxRecDepth 4000 in
theorem VX11_canGo {l : Launch} {G : Gx} {d : Nat} {Q : Option Value → Hp → Prop} {sh : Sh} {fR : FRt} {A p : Nat} {f : FI} {g : FL} {a1 : Int32} (hs : StA sh fR A) (hp : fR A 5 = some p) (hn : fR (A + 40) 7 = some p) (hP : StPl sh fR p)
    (H : (((f A 4) = 0 → Q (some (.int (nI 0))) (sh, f, g, fR)) ∧ (¬ (f A 4) = 0 → (((nI 999) < ((f (A + 40) 8) + a1) → Q (some (.int (nI 0))) (sh, f, g, fR)) ∧ (¬ (nI 999) < ((f (A + 40) 8) + a1) → Q (some (.int (nI 1))) (sh, f, g, fR)))))) :
    Cl l G d 0 0 mX11_canGo [.ref A, .int a1] (sh, f, g, fR) Q := by
  refine Cl.of (L0 := [some (.ref A), some (.int a1)]) miX11_canGo rfl rfl ?_
  refine S_aload_n (pc := 0) dX11_canGo_0 rfl rfl ?_
  refine S_get (pc := 1) (v := .int (f A 4)) dX11_canGo_1 flX11_85 (sA_0 hs) rfl ?_
  refine S_if_eq (pc := 4) (tgt := 26) dX11_canGo_4 rfl (fun hc1 => ?_) (fun hc1 => ?_)
  · replace H := H.1 hc1
    refine S_iconst (pc := 26) dX11_canGo_26 ic0 ?_
    exact S_zreturn dX11_canGo_27 rfl (Or.inl rfl) H
  · replace H := H.2 hc1
    refine S_aload_n (pc := 7) dX11_canGo_7 rfl rfl ?_
    refine S_getR (pc := 8) dX11_canGo_8 flX11_47 (sA_0 hs) rfl (rA_0_8 hs) ?_
    refine S_get (pc := 11) (v := .int (f (A + 40) 8)) dX11_canGo_11 flX11_120 (sW_0 hs.2.2.2.1) rfl ?_
    refine S_iload_n (pc := 14) dX11_canGo_14 rfl rfl ?_
    refine S_iadd (pc := 15) dX11_canGo_15 ?_
    refine S_sipush (pc := 16) dX11_canGo_16 sp999 ?_
    refine S_icmp_gt (pc := 19) (tgt := 26) dX11_canGo_19 rfl (fun hc2 => ?_) (fun hc2 => ?_)
    · replace H := H.1 hc2
      refine S_iconst (pc := 26) dX11_canGo_26 ic0 ?_
      exact S_zreturn dX11_canGo_27 rfl (Or.inl rfl) H
    · replace H := H.2 hc2
      refine S_iconst (pc := 22) dX11_canGo_22 ic1 ?_
      refine S_goto (pc := 23) (tgt := 27) dX11_canGo_23 rfl ?_
      exact S_zreturn dX11_canGo_27 rfl (Or.inr rfl) H
set_option maxHeartbeats 2000000 in
set_option maxRecDepth 4000 in
theorem VX11_finish {l : Launch} {G : Gx} {d : Nat} {Q : Option Value → Hp → Prop} {sh : Sh} {fR : FRt} {A p : Nat} {f : FI} {g : FL}  (hs : StA sh fR A) (hp : fR A 5 = some p) (hn : fR (A + 40) 7 = some p) (hP : StPl sh fR p)
    (H : ((¬ (f A 4) = 0 → Cl l G (d + 6) 0 0 mX10_copyFrom [.ref (A + 72), .ref (A + 40)] (sh, f, g, fR) (qv sh (up2 fR (A + 72) 7 (some p)) fun f4 g5 => Cl l G (d + 6) 0 0 mX11_ticksToFinish [.ref A, .int (nI 200)] (sh, f4, g5, (up2 fR (A + 72) 7 (some p))) (qi sh (up2 fR (A + 72) 7 (some p)) fun x8 f6 g7 => Q (some (.int x8)) (sh, f6, g7, (up2 fR (A + 72) 7 (some p)))))) ∧ ((f A 4) = 0 → Q (some (.int (-1))) (sh, f, g, fR)))) :
    Cl l G (d + 7) 0 0 mX11_finish [.ref A] (sh, f, g, fR) Q := by
  refine Cl.of (L0 := [some (.ref A)]) miX11_finish rfl rfl ?_
  refine S_aload_n (pc := 0) dX11_finish_0 rfl rfl ?_
  refine S_get (pc := 1) (v := .int (f A 4)) dX11_finish_1 flX11_85 (sA_0 hs) rfl ?_
  refine S_if_ne (pc := 4) (tgt := 9) dX11_finish_4 rfl (fun hc1 => ?_) (fun hc1 => ?_)
  · replace H := H.1 hc1
    refine S_aload_n (pc := 9) dX11_finish_9 rfl rfl ?_
    refine S_getR (pc := 10) dX11_finish_10 flX11_51 (sA_0 hs) rfl (rA_0_9 hs) ?_
    refine S_aload_n (pc := 13) dX11_finish_13 rfl rfl ?_
    refine S_getR (pc := 14) dX11_finish_14 flX11_47 (sA_0 hs) rfl (rA_0_8 hs) ?_
    refine S_callV (As := [.ref (A + 40)]) (mc := 0) (ms := 0) (pc := 17) dX11_finish_17 miX10_copyFrom mvX10_copyFrom mlX11_251 rfl (sW_0 hs.2.2.2.2.1) rfl rfl rfl (RmOK.of rfl) H ?_
    rintro _ _ ⟨f4, g5, rfl, rfl, H⟩
    show WP _ _ _ _ _ _ _ 20 [some (.ref A)] [] (sh, f4, g5, (up2 fR (A + 72) 7 (some p)))
    refine S_aload_n (pc := 20) dX11_finish_20 rfl rfl ?_
    refine S_sipush (pc := 21) dX11_finish_21 sp200 ?_
    refine S_callV (As := [.int (nI 200)]) (mc := 0) (ms := 0) (pc := 24) dX11_finish_24 miX11_ticksToFinish mvX11_ticksToFinish mlX11_259 rfl (sA_0 hs) rfl rfl rfl (RmOK.of rfl) H ?_
    rintro _ _ ⟨x8, f6, g7, rfl, rfl, H⟩
    show WP _ _ _ _ _ _ _ 27 [some (.ref A)] [.int x8] (sh, f6, g7, (up2 fR (A + 72) 7 (some p)))
    exact S_ireturn dX11_finish_27 rfl H
  · replace H := H.2 hc1
    refine S_iconst (pc := 7) dX11_finish_7 icm1 ?_
    exact S_ireturn dX11_finish_8 rfl H
abbrev LpX11_ticksToFinish_2 (l : Launch) (G : Gx) (d : Nat) (Q : Option Value → Hp → Prop) (sh : Sh) (fR : FRt) (A p : Nat) (f : FI) (g : FL) (a1 : Int32) (a2 : Int32) : Prop := WP l G (Zq G 0 0 Q) mX11_ticksToFinish (rmd (d + 6) 0 0) 0 0 2 [some (.ref A), some (.int a1), some (.int a2)] [] (sh, f, g, fR)
set_option maxHeartbeats 2000000 in
set_option maxRecDepth 4000 in
theorem VX11_ticksToFinish {l : Launch} {G : Gx} {d : Nat} {Q : Option Value → Hp → Prop} {sh : Sh} {fR : FRt} {A p : Nat} {f : FI} {g : FL} {a1 : Int32} (hs : StA sh fR A) (hp : fR A 5 = some p) (hn : fR (A + 40) 7 = some p) (hP : StPl sh fR p)
    (H : LpX11_ticksToFinish_2 l G d Q sh fR A p f g a1 (nI 0)) :
    Cl l G (d + 6) 0 0 mX11_ticksToFinish [.ref A, .int a1] (sh, f, g, fR) Q := by
  refine Cl.of (L0 := [some (.ref A), some (.int a1), none]) miX11_ticksToFinish rfl rfl ?_
  refine S_iconst (pc := 0) dX11_ticksToFinish_0 ic0 ?_
  refine S_istore_n (pc := 1) (L' := [some (.ref A), some (.int a1), some (.int (nI 0))]) dX11_ticksToFinish_1 rfl (by decide) rfl ?_
  exact H
set_option maxHeartbeats 2000000 in
set_option maxRecDepth 4000 in
theorem VX11_ticksToFinish_2 {l : Launch} {G : Gx} {d : Nat} {Q : Option Value → Hp → Prop} {sh : Sh} {fR : FRt} {A p : Nat} {f : FI} {g : FL} {a1 : Int32} {a2 : Int32} (hs : StA sh fR A) (hp : fR A 5 = some p) (hn : fR (A + 40) 7 = some p) (hP : StPl sh fR p)
    (H : ((a1 < a2 → Q (some (.int (-1))) (sh, f, g, fR)) ∧ (¬ a1 < a2 → Cl l G (d + 5) 0 0 mX10_isFinished [.ref (A + 72)] (sh, f, g, fR) (qi sh fR fun x4 f2 g3 => ((x4 = 0 → ((a2 = a1 → Q (some (.int (-1))) (sh, f2, g3, fR)) ∧ (¬ a2 = a1 → (((f2 (A + 72) 8) < (nI 999) → Cl l G (d + 5) 0 0 mX10_step [.ref (A + 72), .null] (sh, f2, g3, fR) (qv sh fR fun f8 g9 => LpX11_ticksToFinish_2 l G d Q sh fR A p f8 g9 a1 (a2 + nI 1))) ∧ (¬ (f2 (A + 72) 8) < (nI 999) → Q (some (.int (-1))) (sh, f2, g3, fR)))))) ∧ (¬ x4 = 0 → Q (some (.int a2)) (sh, f2, g3, fR))))))) :
    LpX11_ticksToFinish_2 l G d Q sh fR A p f g a1 a2 := by
  refine S_iload_n (pc := 2) dX11_ticksToFinish_2 rfl rfl ?_
  refine S_iload_n (pc := 3) dX11_ticksToFinish_3 rfl rfl ?_
  refine S_icmp_gt (pc := 4) (tgt := 53) dX11_ticksToFinish_4 rfl (fun hc1 => ?_) (fun hc1 => ?_)
  · replace H := H.1 hc1
    refine S_iconst (pc := 53) dX11_ticksToFinish_53 icm1 ?_
    exact S_ireturn dX11_ticksToFinish_54 rfl H
  · replace H := H.2 hc1
    refine S_aload_n (pc := 7) dX11_ticksToFinish_7 rfl rfl ?_
    refine S_getR (pc := 8) dX11_ticksToFinish_8 flX11_51 (sA_0 hs) rfl (rA_0_9 hs) ?_
    refine S_callV (As := []) (mc := 0) (ms := 0) (pc := 11) dX11_ticksToFinish_11 miX10_isFinished mvX10_isFinished mlX11_262 rfl (sW_0 hs.2.2.2.2.1) rfl rfl rfl (RmOK.of rfl) H ?_
    rintro _ _ ⟨x4, f2, g3, rfl, rfl, H⟩
    show WP _ _ _ _ _ _ _ 14 [some (.ref A), some (.int a1), some (.int a2)] [.int x4] (sh, f2, g3, fR)
    refine S_if_eq (pc := 14) (tgt := 19) dX11_ticksToFinish_14 rfl (fun hc5 => ?_) (fun hc5 => ?_)
    · replace H := H.1 hc5
      refine S_iload_n (pc := 19) dX11_ticksToFinish_19 rfl rfl ?_
      refine S_iload_n (pc := 20) dX11_ticksToFinish_20 rfl rfl ?_
      refine S_icmp_eq (pc := 21) (tgt := 37) dX11_ticksToFinish_21 rfl (fun hc6 => ?_) (fun hc6 => ?_)
      · replace H := H.1 hc6
        refine S_iconst (pc := 37) dX11_ticksToFinish_37 icm1 ?_
        exact S_ireturn dX11_ticksToFinish_38 rfl H
      · replace H := H.2 hc6
        refine S_aload_n (pc := 24) dX11_ticksToFinish_24 rfl rfl ?_
        refine S_getR (pc := 25) dX11_ticksToFinish_25 flX11_51 (sA_0 hs) rfl (rA_0_9 hs) ?_
        refine S_get (pc := 28) (v := .int (f2 (A + 72) 8)) dX11_ticksToFinish_28 flX11_120 (sW_0 hs.2.2.2.2.1) rfl ?_
        refine S_sipush (pc := 31) dX11_ticksToFinish_31 sp999 ?_
        refine S_icmp_lt (pc := 34) (tgt := 39) dX11_ticksToFinish_34 rfl (fun hc7 => ?_) (fun hc7 => ?_)
        · replace H := H.1 hc7
          refine S_aload_n (pc := 39) dX11_ticksToFinish_39 rfl rfl ?_
          refine S_getR (pc := 40) dX11_ticksToFinish_40 flX11_51 (sA_0 hs) rfl (rA_0_9 hs) ?_
          refine S_null (pc := 43) dX11_ticksToFinish_43 ?_
          refine S_callV (As := [.null]) (mc := 0) (ms := 0) (pc := 44) dX11_ticksToFinish_44 miX10_step mvX10_step mlX11_255 rfl (sW_0 hs.2.2.2.2.1) rfl rfl rfl (RmOK.of rfl) H ?_
          rintro _ _ ⟨f8, g9, rfl, rfl, H⟩
          show WP _ _ _ _ _ _ _ 47 [some (.ref A), some (.int a1), some (.int a2)] [] (sh, f8, g9, fR)
          refine S_iinc (pc := 47) (v := nI 1) (L' := [some (.ref A), some (.int a1), some (.int (a2 + nI 1))]) dX11_ticksToFinish_47 rfl ic1 rfl ?_
          refine S_goto (pc := 50) (tgt := 2) dX11_ticksToFinish_50 rfl ?_
          exact H
        · replace H := H.2 hc7
          refine S_iconst (pc := 37) dX11_ticksToFinish_37 icm1 ?_
          exact S_ireturn dX11_ticksToFinish_38 rfl H
    · replace H := H.2 hc5
      refine S_iload_n (pc := 17) dX11_ticksToFinish_17 rfl rfl ?_
      exact S_ireturn dX11_ticksToFinish_18 rfl H
set_option maxHeartbeats 2000000 in
set_option maxRecDepth 4000 in
theorem VX11_without {l : Launch} {G : Gx} {d : Nat} {Q : Option Value → Hp → Prop} {sh : Sh} {fR : FRt} {A p : Nat} {f : FI} {g : FL} {a1 : Int32} (hs : StA sh fR A) (hp : fR A 5 = some p) (hn : fR (A + 40) 7 = some p) (hP : StPl sh fR p)
    (H : Cl l G (d + 6) 0 0 mX11_isPath [.ref A, .int a1] (sh, f, g, fR) (qi sh fR fun x3 f1 g2 => ((¬ x3 = 0 → Cl l G (d + 6) 0 0 mX10_copyFrom [.ref (A + 72), .ref (A + 40)] (sh, f1, g2, fR) (qv sh (up2 fR (A + 72) 7 (some p)) fun f7 g8 => Cl l G (d + 6) 0 0 mX10_bury [.ref (A + 72), .int a1] (sh, f7, g8, (up2 fR (A + 72) 7 (some p))) (qv sh (up2 fR (A + 72) 7 (some p)) fun f9 g10 => Cl l G (d + 6) 0 0 mX11_ticksToFinish [.ref A, .int (nI 200)] (sh, f9, g10, (up2 fR (A + 72) 7 (some p))) (qi sh (up2 fR (A + 72) 7 (some p)) fun x13 f11 g12 => Q (some (.int x13)) (sh, f11, g12, (up2 fR (A + 72) 7 (some p))))))) ∧ (x3 = 0 → Q (some (.int (-1))) (sh, f1, g2, fR))))) :
    Cl l G (d + 7) 0 0 mX11_without [.ref A, .int a1] (sh, f, g, fR) Q := by
  refine Cl.of (L0 := [some (.ref A), some (.int a1)]) miX11_without rfl rfl ?_
  refine S_aload_n (pc := 0) dX11_without_0 rfl rfl ?_
  refine S_iload_n (pc := 1) dX11_without_1 rfl rfl ?_
  refine S_callV (As := [.int a1]) (mc := 0) (ms := 0) (pc := 2) dX11_without_2 miX11_isPath mvX11_isPath mlX11_175 rfl (sA_0 hs) rfl rfl rfl (RmOK.of rfl) H ?_
  rintro _ _ ⟨x3, f1, g2, rfl, rfl, H⟩
  show WP _ _ _ _ _ _ _ 5 [some (.ref A), some (.int a1)] [.int x3] (sh, f1, g2, fR)
  refine S_if_ne (pc := 5) (tgt := 10) dX11_without_5 rfl (fun hc4 => ?_) (fun hc4 => ?_)
  · replace H := H.1 hc4
    refine S_aload_n (pc := 10) dX11_without_10 rfl rfl ?_
    refine S_getR (pc := 11) dX11_without_11 flX11_51 (sA_0 hs) rfl (rA_0_9 hs) ?_
    refine S_aload_n (pc := 14) dX11_without_14 rfl rfl ?_
    refine S_getR (pc := 15) dX11_without_15 flX11_47 (sA_0 hs) rfl (rA_0_8 hs) ?_
    refine S_callV (As := [.ref (A + 40)]) (mc := 0) (ms := 0) (pc := 18) dX11_without_18 miX10_copyFrom mvX10_copyFrom mlX11_251 rfl (sW_0 hs.2.2.2.2.1) rfl rfl rfl (RmOK.of rfl) H ?_
    rintro _ _ ⟨f7, g8, rfl, rfl, H⟩
    show WP _ _ _ _ _ _ _ 21 [some (.ref A), some (.int a1)] [] (sh, f7, g8, (up2 fR (A + 72) 7 (some p)))
    refine S_aload_n (pc := 21) dX11_without_21 rfl rfl ?_
    refine S_getR (pc := 22) dX11_without_22 flX11_51 (sA_0 hs) rfl ((up2_ne (by simp)).trans (rA_0_9 hs)) ?_
    refine S_iload_n (pc := 25) dX11_without_25 rfl rfl ?_
    refine S_callV (As := [.int a1]) (mc := 0) (ms := 0) (pc := 26) dX11_without_26 miX10_bury mvX10_bury mlX11_266 rfl (sW_0 hs.2.2.2.2.1) rfl rfl rfl (RmOK.of rfl) H ?_
    rintro _ _ ⟨f9, g10, rfl, rfl, H⟩
    show WP _ _ _ _ _ _ _ 29 [some (.ref A), some (.int a1)] [] (sh, f9, g10, (up2 fR (A + 72) 7 (some p)))
    refine S_aload_n (pc := 29) dX11_without_29 rfl rfl ?_
    refine S_sipush (pc := 30) dX11_without_30 sp200 ?_
    refine S_callV (As := [.int (nI 200)]) (mc := 0) (ms := 0) (pc := 33) dX11_without_33 miX11_ticksToFinish mvX11_ticksToFinish mlX11_259 rfl (sA_0 hs) rfl rfl rfl (RmOK.of rfl) H ?_
    rintro _ _ ⟨x13, f11, g12, rfl, rfl, H⟩
    show WP _ _ _ _ _ _ _ 36 [some (.ref A), some (.int a1)] [.int x13] (sh, f11, g12, (up2 fR (A + 72) 7 (some p)))
    exact S_ireturn dX11_without_36 rfl H
  · replace H := H.2 hc4
    refine S_iconst (pc := 8) dX11_without_8 icm1 ?_
    exact S_ireturn dX11_without_9 rfl H
abbrev LpX11_alone_23 (l : Launch) (G : Gx) (d : Nat) (Q : Option Value → Hp → Prop) (sh : Sh) (fR : FRt) (A p : Nat) (f : FI) (g : FL) (a1 : Int32) (a2 : Int32) : Prop := WP l G (Zq G 0 0 Q) mX11_alone (rmd (d + 7) 0 0) 0 0 23 [some (.ref A), some (.int a1), some (.int a2)] [] (sh, f, g, fR)
abbrev LpX11_alone_47 (l : Launch) (G : Gx) (d : Nat) (Q : Option Value → Hp → Prop) (sh : Sh) (fR : FRt) (A p : Nat) (f : FI) (g : FL) (a1 : Int32) (a2 : Int32) : Prop := WP l G (Zq G 0 0 Q) mX11_alone (rmd (d + 7) 0 0) 0 0 47 [some (.ref A), some (.int a1), some (.int a2)] [] (sh, f, g, fR)
set_option maxHeartbeats 2000000 in
set_option maxRecDepth 4000 in
theorem VX11_alone {l : Launch} {G : Gx} {d : Nat} {Q : Option Value → Hp → Prop} {sh : Sh} {fR : FRt} {A p : Nat} {f : FI} {g : FL} {a1 : Int32} (hs : StA sh fR A) (hp : fR A 5 = some p) (hn : fR (A + 40) 7 = some p) (hP : StPl sh fR p)
    (H : Cl l G (d + 6) 0 0 mX11_isPath [.ref A, .int a1] (sh, f, g, fR) (qi sh fR fun x3 f1 g2 => ((¬ x3 = 0 → Cl l G (d + 6) 0 0 mX10_copyFrom [.ref (A + 72), .ref (A + 40)] (sh, f1, g2, fR) (qv sh (up2 fR (A + 72) 7 (some p)) fun f7 g8 => LpX11_alone_23 l G d Q sh (up2 fR (A + 72) 7 (some p)) A p f7 g8 a1 (nI 0))) ∧ (x3 = 0 → Q (some (.int (-1))) (sh, f1, g2, fR))))) :
    Cl l G (d + 7) 0 0 mX11_alone [.ref A, .int a1] (sh, f, g, fR) Q := by
  refine Cl.of (L0 := [some (.ref A), some (.int a1), none]) miX11_alone rfl rfl ?_
  refine S_aload_n (pc := 0) dX11_alone_0 rfl rfl ?_
  refine S_iload_n (pc := 1) dX11_alone_1 rfl rfl ?_
  refine S_callV (As := [.int a1]) (mc := 0) (ms := 0) (pc := 2) dX11_alone_2 miX11_isPath mvX11_isPath mlX11_175 rfl (sA_0 hs) rfl rfl rfl (RmOK.of rfl) H ?_
  rintro _ _ ⟨x3, f1, g2, rfl, rfl, H⟩
  show WP _ _ _ _ _ _ _ 5 [some (.ref A), some (.int a1), none] [.int x3] (sh, f1, g2, fR)
  refine S_if_ne (pc := 5) (tgt := 10) dX11_alone_5 rfl (fun hc4 => ?_) (fun hc4 => ?_)
  · replace H := H.1 hc4
    refine S_aload_n (pc := 10) dX11_alone_10 rfl rfl ?_
    refine S_getR (pc := 11) dX11_alone_11 flX11_51 (sA_0 hs) rfl (rA_0_9 hs) ?_
    refine S_aload_n (pc := 14) dX11_alone_14 rfl rfl ?_
    refine S_getR (pc := 15) dX11_alone_15 flX11_47 (sA_0 hs) rfl (rA_0_8 hs) ?_
    refine S_callV (As := [.ref (A + 40)]) (mc := 0) (ms := 0) (pc := 18) dX11_alone_18 miX10_copyFrom mvX10_copyFrom mlX11_251 rfl (sW_0 hs.2.2.2.2.1) rfl rfl rfl (RmOK.of rfl) H ?_
    rintro _ _ ⟨f7, g8, rfl, rfl, H⟩
    show WP _ _ _ _ _ _ _ 21 [some (.ref A), some (.int a1), none] [] (sh, f7, g8, (up2 fR (A + 72) 7 (some p)))
    refine S_iconst (pc := 21) dX11_alone_21 ic0 ?_
    refine S_istore_n (pc := 22) (L' := [some (.ref A), some (.int a1), some (.int (nI 0))]) dX11_alone_22 rfl (by decide) rfl ?_
    exact H
  · replace H := H.2 hc4
    refine S_iconst (pc := 8) dX11_alone_8 icm1 ?_
    exact S_ireturn dX11_alone_9 rfl H
set_option maxHeartbeats 2000000 in
set_option maxRecDepth 4000 in
theorem VX11_alone_23 {l : Launch} {G : Gx} {d : Nat} {Q : Option Value → Hp → Prop} {sh : Sh} {fR : FRt} {A p : Nat} {f : FI} {g : FL} {a1 : Int32} {a2 : Int32} (hs : StA sh fR A) (hp : fR A 5 = some p) (hn : fR (A + 40) 7 = some p) (hP : StPl sh fR p)
    (H : (((f p 6) ≤ a2 → Cl l G (d + 6) 0 0 mX11_ticksToFinish [.ref A, .int (nI 200)] (sh, f, g, fR) (qi sh fR fun x12 f10 g11 => Q (some (.int x12)) (sh, f10, g11, fR))) ∧ (¬ (f p 6) ≤ a2 → ((a2 = a1 → LpX11_alone_47 l G d Q sh fR A p f g a1 a2) ∧ (¬ a2 = a1 → Cl l G (d + 6) 0 0 mX10_bury [.ref (A + 72), .int a2] (sh, f, g, fR) (qv sh fR fun f14 g15 => LpX11_alone_47 l G d Q sh fR A p f14 g15 a1 a2)))))) :
    LpX11_alone_23 l G d Q sh fR A p f g a1 a2 := by
  refine S_iload_n (pc := 23) dX11_alone_23 rfl rfl ?_
  refine S_aload_n (pc := 24) dX11_alone_24 rfl rfl ?_
  refine S_getR (pc := 25) dX11_alone_25 flX11_26 (sA_0 hs) rfl hp ?_
  refine S_get (pc := 28) (v := .int (f p 6)) dX11_alone_28 flX11_113 (sL_0 hP) rfl ?_
  refine S_icmp_ge (pc := 31) (tgt := 53) dX11_alone_31 rfl (fun hc9 => ?_) (fun hc9 => ?_)
  · replace H := H.1 hc9
    refine S_aload_n (pc := 53) dX11_alone_53 rfl rfl ?_
    refine S_sipush (pc := 54) dX11_alone_54 sp200 ?_
    refine S_callV (As := [.int (nI 200)]) (mc := 0) (ms := 0) (pc := 57) dX11_alone_57 miX11_ticksToFinish mvX11_ticksToFinish mlX11_259 rfl (sA_0 hs) rfl rfl rfl (RmOK.of rfl) H ?_
    rintro _ _ ⟨x12, f10, g11, rfl, rfl, H⟩
    show WP _ _ _ _ _ _ _ 60 [some (.ref A), some (.int a1), some (.int a2)] [.int x12] (sh, f10, g11, fR)
    exact S_ireturn dX11_alone_60 rfl H
  · replace H := H.2 hc9
    refine S_iload_n (pc := 34) dX11_alone_34 rfl rfl ?_
    refine S_iload_n (pc := 35) dX11_alone_35 rfl rfl ?_
    refine S_icmp_eq (pc := 36) (tgt := 47) dX11_alone_36 rfl (fun hc13 => ?_) (fun hc13 => ?_)
    · replace H := H.1 hc13
      exact H
    · replace H := H.2 hc13
      refine S_aload_n (pc := 39) dX11_alone_39 rfl rfl ?_
      refine S_getR (pc := 40) dX11_alone_40 flX11_51 (sA_0 hs) rfl (rA_0_9 hs) ?_
      refine S_iload_n (pc := 43) dX11_alone_43 rfl rfl ?_
      refine S_callV (As := [.int a2]) (mc := 0) (ms := 0) (pc := 44) dX11_alone_44 miX10_bury mvX10_bury mlX11_266 rfl (sW_0 hs.2.2.2.2.1) rfl rfl rfl (RmOK.of rfl) H ?_
      rintro _ _ ⟨f14, g15, rfl, rfl, H⟩
      show WP _ _ _ _ _ _ _ 47 [some (.ref A), some (.int a1), some (.int a2)] [] (sh, f14, g15, fR)
      exact H
set_option maxHeartbeats 2000000 in
set_option maxRecDepth 4000 in
theorem VX11_alone_47 {l : Launch} {G : Gx} {d : Nat} {Q : Option Value → Hp → Prop} {sh : Sh} {fR : FRt} {A p : Nat} {f : FI} {g : FL} {a1 : Int32} {a2 : Int32} (hs : StA sh fR A) (hp : fR A 5 = some p) (hn : fR (A + 40) 7 = some p) (hP : StPl sh fR p)
    (H : LpX11_alone_23 l G d Q sh fR A p f g a1 (a2 + nI 1)) :
    LpX11_alone_47 l G d Q sh fR A p f g a1 a2 := by
  refine S_iinc (pc := 47) (v := nI 1) (L' := [some (.ref A), some (.int a1), some (.int (a2 + nI 1))]) dX11_alone_47 rfl ic1 rfl ?_
  refine S_goto (pc := 50) (tgt := 23) dX11_alone_50 rfl ?_
  exact H
abbrev LpX11_window_30 (l : Launch) (G : Gx) (d : Nat) (Q : Option Value → Hp → Prop) (sh : Sh) (fR : FRt) (A p : Nat) (f : FI) (g : FL) (a1 : Int32) (a2 : Int32) : Prop := WP l G (Zq G 0 0 Q) mX11_window (rmd (d + 7) 0 0) 0 0 30 [some (.ref A), some (.int a1), some (.int a2)] [] (sh, f, g, fR)
set_option maxHeartbeats 2000000 in
set_option maxRecDepth 4000 in
theorem VX11_window {l : Launch} {G : Gx} {d : Nat} {Q : Option Value → Hp → Prop} {sh : Sh} {fR : FRt} {A p : Nat} {f : FI} {g : FL} {a1 : Int32} (hs : StA sh fR A) (hp : fR A 5 = some p) (hn : fR (A + 40) 7 = some p) (hP : StPl sh fR p)
    (H : ((a1 < (nI 1) → Q (some (.int (-1))) (sh, f, g, fR)) ∧ (¬ a1 < (nI 1) → (((nI 200) < a1 → Q (some (.int (-1))) (sh, f, g, fR)) ∧ (¬ (nI 200) < a1 → Cl l G (d + 6) 0 0 mX11_canGo [.ref A, .int a1] (sh, f, g, fR) (qi sh fR fun x5 f3 g4 => ((¬ x5 = 0 → (∀ w7 : Int32, w7 = f3 p 2 → LpX11_window_30 l G d Q sh fR A p f3 g4 a1 w7)) ∧ (x5 = 0 → Q (some (.int (-1))) (sh, f3, g4, fR))))))))) :
    Cl l G (d + 7) 0 0 mX11_window [.ref A, .int a1] (sh, f, g, fR) Q := by
  refine Cl.of (L0 := [some (.ref A), some (.int a1), none]) miX11_window rfl rfl ?_
  refine S_iload_n (pc := 0) dX11_window_0 rfl rfl ?_
  refine S_iconst (pc := 1) dX11_window_1 ic1 ?_
  refine S_icmp_lt (pc := 2) (tgt := 20) dX11_window_2 rfl (fun hc1 => ?_) (fun hc1 => ?_)
  · replace H := H.1 hc1
    refine S_iconst (pc := 20) dX11_window_20 icm1 ?_
    exact S_ireturn dX11_window_21 rfl H
  · replace H := H.2 hc1
    refine S_iload_n (pc := 5) dX11_window_5 rfl rfl ?_
    refine S_sipush (pc := 6) dX11_window_6 sp200 ?_
    refine S_icmp_gt (pc := 9) (tgt := 20) dX11_window_9 rfl (fun hc2 => ?_) (fun hc2 => ?_)
    · replace H := H.1 hc2
      refine S_iconst (pc := 20) dX11_window_20 icm1 ?_
      exact S_ireturn dX11_window_21 rfl H
    · replace H := H.2 hc2
      refine S_aload_n (pc := 12) dX11_window_12 rfl rfl ?_
      refine S_iload_n (pc := 13) dX11_window_13 rfl rfl ?_
      refine S_callV (As := [.int a1]) (mc := 0) (ms := 0) (pc := 14) dX11_window_14 miX11_canGo mvX11_canGo mlX11_248 rfl (sA_0 hs) rfl rfl rfl (RmOK.of rfl) H ?_
      rintro _ _ ⟨x5, f3, g4, rfl, rfl, H⟩
      show WP _ _ _ _ _ _ _ 17 [some (.ref A), some (.int a1), none] [.int x5] (sh, f3, g4, fR)
      refine S_if_ne (pc := 17) (tgt := 22) dX11_window_17 rfl (fun hc6 => ?_) (fun hc6 => ?_)
      · replace H := H.1 hc6
        refine S_aload_n (pc := 22) dX11_window_22 rfl rfl ?_
        refine S_getR (pc := 23) dX11_window_23 flX11_26 (sA_0 hs) rfl hp ?_
        refine S_get (pc := 26) (v := .int (f3 p 2)) dX11_window_26 flX11_269 (sL_0 hP) rfl ?_
        refine S_namei (fun w7 e8 => ?_)
        replace H := H w7 e8
        refine S_istore_n (pc := 29) (L' := [some (.ref A), some (.int a1), some (.int w7)]) dX11_window_29 rfl (by decide) rfl ?_
        exact H
      · replace H := H.2 hc6
        refine S_iconst (pc := 20) dX11_window_20 icm1 ?_
        exact S_ireturn dX11_window_21 rfl H
set_option maxHeartbeats 2000000 in
set_option maxRecDepth 4000 in
theorem VX11_window_30 {l : Launch} {G : Gx} {d : Nat} {Q : Option Value → Hp → Prop} {sh : Sh} {fR : FRt} {A p : Nat} {f : FI} {g : FL} {a1 : Int32} {a2 : Int32} (hs : StA sh fR A) (hp : fR A 5 = some p) (hn : fR (A + 40) 7 = some p) (hP : StPl sh fR p)
    (H : (((nI 99) < a2 → Q (some (.int (-1))) (sh, f, g, fR)) ∧ (¬ (nI 99) < a2 → Cl l G (d + 6) 0 0 mX10_copyFrom [.ref (A + 72), .ref (A + 40)] (sh, f, g, fR) (qv sh (up2 fR (A + 72) 7 (some p)) fun f12 g13 => Cl l G (d + 6) 0 0 mX11_ticksToFinish [.ref A, .int a1] (sh, (up2 f12 (A + 72 + 2) 3 a2), g13, (up2 fR (A + 72) 7 (some p))) (qi sh (up2 fR (A + 72) 7 (some p)) fun x16 f14 g15 => ((x16 = (-1) → LpX11_window_30 l G d Q sh (up2 fR (A + 72) 7 (some p)) A p f14 g15 a1 (a2 + nI 1)) ∧ (¬ x16 = (-1) → Q (some (.int a2)) (sh, f14, g15, (up2 fR (A + 72) 7 (some p)))))))))) :
    LpX11_window_30 l G d Q sh fR A p f g a1 a2 := by
  refine S_iload_n (pc := 30) dX11_window_30 rfl rfl ?_
  refine S_bipush (pc := 31) dX11_window_31 bp99 ?_
  refine S_icmp_gt (pc := 33) (tgt := 75) dX11_window_33 rfl (fun hc9 => ?_) (fun hc9 => ?_)
  · replace H := H.1 hc9
    refine S_iconst (pc := 75) dX11_window_75 icm1 ?_
    exact S_ireturn dX11_window_76 rfl H
  · replace H := H.2 hc9
    refine S_aload_n (pc := 36) dX11_window_36 rfl rfl ?_
    refine S_getR (pc := 37) dX11_window_37 flX11_51 (sA_0 hs) rfl (rA_0_9 hs) ?_
    refine S_aload_n (pc := 40) dX11_window_40 rfl rfl ?_
    refine S_getR (pc := 41) dX11_window_41 flX11_47 (sA_0 hs) rfl (rA_0_8 hs) ?_
    refine S_callV (As := [.ref (A + 40)]) (mc := 0) (ms := 0) (pc := 44) dX11_window_44 miX10_copyFrom mvX10_copyFrom mlX11_251 rfl (sW_0 hs.2.2.2.2.1) rfl rfl rfl (RmOK.of rfl) H ?_
    rintro _ _ ⟨f12, g13, rfl, rfl, H⟩
    show WP _ _ _ _ _ _ _ 47 [some (.ref A), some (.int a1), some (.int a2)] [] (sh, f12, g13, (up2 fR (A + 72) 7 (some p)))
    refine S_aload_n (pc := 47) dX11_window_47 rfl rfl ?_
    refine S_getR (pc := 48) dX11_window_48 flX11_51 (sA_0 hs) rfl ((up2_ne (by simp)).trans (rA_0_9 hs)) ?_
    refine S_getR (pc := 51) dX11_window_51 flX11_132 (sW_0 hs.2.2.2.2.1) rfl ((up2_ne (by simp)).trans (rW_0_1 hs.2.2.2.2.1)) ?_
    refine S_iload_n (pc := 54) dX11_window_54 rfl rfl ?_
    refine S_putI (pc := 55) dX11_window_55 flX11_272 (sW_2 hs.2.2.2.2.1) (Nat.succ_pos _) (nf_7_3) rfl rfl (fun _ => rfl) ?_
    refine S_aload_n (pc := 58) dX11_window_58 rfl rfl ?_
    refine S_iload_n (pc := 59) dX11_window_59 rfl rfl ?_
    refine S_callV (As := [.int a1]) (mc := 0) (ms := 0) (pc := 60) dX11_window_60 miX11_ticksToFinish mvX11_ticksToFinish mlX11_259 rfl (sA_0 hs) rfl rfl rfl (RmOK.of rfl) H ?_
    rintro _ _ ⟨x16, f14, g15, rfl, rfl, H⟩
    show WP _ _ _ _ _ _ _ 63 [some (.ref A), some (.int a1), some (.int a2)] [.int x16] (sh, f14, g15, (up2 fR (A + 72) 7 (some p)))
    refine S_iconst (pc := 63) dX11_window_63 icm1 ?_
    refine S_icmp_eq (pc := 64) (tgt := 69) dX11_window_64 rfl (fun hc17 => ?_) (fun hc17 => ?_)
    · replace H := H.1 hc17
      refine S_iinc (pc := 69) (v := nI 1) (L' := [some (.ref A), some (.int a1), some (.int (a2 + nI 1))]) dX11_window_69 rfl ic1 rfl ?_
      refine S_goto (pc := 72) (tgt := 30) dX11_window_72 rfl ?_
      exact H
    · replace H := H.2 hc17
      refine S_iload_n (pc := 67) dX11_window_67 rfl rfl ?_
      exact S_ireturn dX11_window_68 rfl H
set_option maxHeartbeats 2000000 in
set_option maxRecDepth 4000 in
theorem VX11_odds {l : Launch} {G : Gx} {d : Nat} {Q : Option Value → Hp → Prop} {sh : Sh} {fR : FRt} {A p : Nat} {f : FI} {g : FL} {a1 : Int32} (hs : StA sh fR A) (hp : fR A 5 = some p) (hn : fR (A + 40) 7 = some p) (hP : StPl sh fR p)
    (H : ((a1 < 0 → Q (some (.int (-1))) (sh, f, g, fR)) ∧ (¬ a1 < 0 → (((nI 1) < a1 → Q (some (.int (-1))) (sh, f, g, fR)) ∧ (¬ (nI 1) < a1 → Cl l G (d + 5) 0 0 mX11_canGo [.ref A, .int (nI 1)] (sh, f, g, fR) (qi sh fR fun x5 f3 g4 => ((¬ x5 = 0 → Cl l G (d + 5) 0 0 mX10_copyFrom [.ref (A + 72), .ref (A + 40)] (sh, f3, g4, fR) (qv sh (up2 fR (A + 72) 7 (some p)) fun f9 g10 => Cl l G (d + 5) 0 0 mX10_step [.ref (A + 72), .null] (sh, f9, g10, (up2 fR (A + 72) 7 (some p))) (qv sh (up2 fR (A + 72) 7 (some p)) fun f11 g12 => ((¬ (f11 (A + 72) 13) = 0 → ((¬ a1 = (nI 1) → (((f11 (A + 72) 15) = 0 → Q (some (.int ((nI 100) - (f11 p 5)))) (sh, f11, g12, (up2 fR (A + 72) 7 (some p)))) ∧ (¬ (f11 (A + 72) 15) = 0 → Q (some (.int (nI 0))) (sh, f11, g12, (up2 fR (A + 72) 7 (some p)))))) ∧ (a1 = (nI 1) → Q (some (.int (nI 100))) (sh, f11, g12, (up2 fR (A + 72) 7 (some p)))))) ∧ ((f11 (A + 72) 13) = 0 → Q (some (.int (-1))) (sh, f11, g12, (up2 fR (A + 72) 7 (some p)))))))) ∧ (x5 = 0 → Q (some (.int (-1))) (sh, f3, g4, fR))))))))) :
    Cl l G (d + 6) 0 0 mX11_odds [.ref A, .int a1] (sh, f, g, fR) Q := by
  refine Cl.of (L0 := [some (.ref A), some (.int a1)]) miX11_odds rfl rfl ?_
  refine S_iload_n (pc := 0) dX11_odds_0 rfl rfl ?_
  refine S_if_lt (pc := 1) (tgt := 17) dX11_odds_1 rfl (fun hc1 => ?_) (fun hc1 => ?_)
  · replace H := H.1 hc1
    refine S_iconst (pc := 17) dX11_odds_17 icm1 ?_
    exact S_ireturn dX11_odds_18 rfl H
  · replace H := H.2 hc1
    refine S_iload_n (pc := 4) dX11_odds_4 rfl rfl ?_
    refine S_iconst (pc := 5) dX11_odds_5 ic1 ?_
    refine S_icmp_gt (pc := 6) (tgt := 17) dX11_odds_6 rfl (fun hc2 => ?_) (fun hc2 => ?_)
    · replace H := H.1 hc2
      refine S_iconst (pc := 17) dX11_odds_17 icm1 ?_
      exact S_ireturn dX11_odds_18 rfl H
    · replace H := H.2 hc2
      refine S_aload_n (pc := 9) dX11_odds_9 rfl rfl ?_
      refine S_iconst (pc := 10) dX11_odds_10 ic1 ?_
      refine S_callV (As := [.int (nI 1)]) (mc := 0) (ms := 0) (pc := 11) dX11_odds_11 miX11_canGo mvX11_canGo mlX11_248 rfl (sA_0 hs) rfl rfl rfl (RmOK.of rfl) H ?_
      rintro _ _ ⟨x5, f3, g4, rfl, rfl, H⟩
      show WP _ _ _ _ _ _ _ 14 [some (.ref A), some (.int a1)] [.int x5] (sh, f3, g4, fR)
      refine S_if_ne (pc := 14) (tgt := 19) dX11_odds_14 rfl (fun hc6 => ?_) (fun hc6 => ?_)
      · replace H := H.1 hc6
        refine S_aload_n (pc := 19) dX11_odds_19 rfl rfl ?_
        refine S_getR (pc := 20) dX11_odds_20 flX11_51 (sA_0 hs) rfl (rA_0_9 hs) ?_
        refine S_aload_n (pc := 23) dX11_odds_23 rfl rfl ?_
        refine S_getR (pc := 24) dX11_odds_24 flX11_47 (sA_0 hs) rfl (rA_0_8 hs) ?_
        refine S_callV (As := [.ref (A + 40)]) (mc := 0) (ms := 0) (pc := 27) dX11_odds_27 miX10_copyFrom mvX10_copyFrom mlX11_251 rfl (sW_0 hs.2.2.2.2.1) rfl rfl rfl (RmOK.of rfl) H ?_
        rintro _ _ ⟨f9, g10, rfl, rfl, H⟩
        show WP _ _ _ _ _ _ _ 30 [some (.ref A), some (.int a1)] [] (sh, f9, g10, (up2 fR (A + 72) 7 (some p)))
        refine S_aload_n (pc := 30) dX11_odds_30 rfl rfl ?_
        refine S_getR (pc := 31) dX11_odds_31 flX11_51 (sA_0 hs) rfl ((up2_ne (by simp)).trans (rA_0_9 hs)) ?_
        refine S_null (pc := 34) dX11_odds_34 ?_
        refine S_callV (As := [.null]) (mc := 0) (ms := 0) (pc := 35) dX11_odds_35 miX10_step mvX10_step mlX11_255 rfl (sW_0 hs.2.2.2.2.1) rfl rfl rfl (RmOK.of rfl) H ?_
        rintro _ _ ⟨f11, g12, rfl, rfl, H⟩
        show WP _ _ _ _ _ _ _ 38 [some (.ref A), some (.int a1)] [] (sh, f11, g12, (up2 fR (A + 72) 7 (some p)))
        refine S_aload_n (pc := 38) dX11_odds_38 rfl rfl ?_
        refine S_getR (pc := 39) dX11_odds_39 flX11_51 (sA_0 hs) rfl ((up2_ne (by simp)).trans (rA_0_9 hs)) ?_
        refine S_get (pc := 42) (v := .int (f11 (A + 72) 13)) dX11_odds_42 flX11_275 (sW_0 hs.2.2.2.2.1) rfl ?_
        refine S_if_ne (pc := 45) (tgt := 50) dX11_odds_45 rfl (fun hc13 => ?_) (fun hc13 => ?_)
        · replace H := H.1 hc13
          refine S_iload_n (pc := 50) dX11_odds_50 rfl rfl ?_
          refine S_iconst (pc := 51) dX11_odds_51 ic1 ?_
          refine S_icmp_ne (pc := 52) (tgt := 58) dX11_odds_52 rfl (fun hc14 => ?_) (fun hc14 => ?_)
          · replace H := H.1 hc14
            refine S_aload_n (pc := 58) dX11_odds_58 rfl rfl ?_
            refine S_getR (pc := 59) dX11_odds_59 flX11_51 (sA_0 hs) rfl ((up2_ne (by simp)).trans (rA_0_9 hs)) ?_
            refine S_get (pc := 62) (v := .int (f11 (A + 72) 15)) dX11_odds_62 flX11_278 (sW_0 hs.2.2.2.2.1) rfl ?_
            refine S_if_eq (pc := 65) (tgt := 72) dX11_odds_65 rfl (fun hc15 => ?_) (fun hc15 => ?_)
            · replace H := H.1 hc15
              refine S_bipush (pc := 72) dX11_odds_72 bp100 ?_
              refine S_aload_n (pc := 74) dX11_odds_74 rfl rfl ?_
              refine S_getR (pc := 75) dX11_odds_75 flX11_26 (sA_0 hs) rfl ((up2_ne (by simp)).trans hp) ?_
              refine S_get (pc := 78) (v := .int (f11 p 5)) dX11_odds_78 flX11_281 (sL_0 hP) rfl ?_
              refine S_isub (pc := 81) dX11_odds_81 ?_
              exact S_ireturn dX11_odds_82 rfl H
            · replace H := H.2 hc15
              refine S_iconst (pc := 68) dX11_odds_68 ic0 ?_
              refine S_goto (pc := 69) (tgt := 82) dX11_odds_69 rfl ?_
              exact S_ireturn dX11_odds_82 rfl H
          · replace H := H.2 hc14
            refine S_bipush (pc := 55) dX11_odds_55 bp100 ?_
            exact S_ireturn dX11_odds_57 rfl H
        · replace H := H.2 hc13
          refine S_iconst (pc := 48) dX11_odds_48 icm1 ?_
          exact S_ireturn dX11_odds_49 rfl H
      · replace H := H.2 hc6
        refine S_iconst (pc := 17) dX11_odds_17 icm1 ?_
        exact S_ireturn dX11_odds_18 rfl H
set_option maxHeartbeats 2000000 in
set_option maxRecDepth 4000 in
theorem VX11_meet {l : Launch} {G : Gx} {d : Nat} {Q : Option Value → Hp → Prop} {sh : Sh} {fR : FRt} {A p : Nat} {f : FI} {g : FL}  (hs : StA sh fR A) (hp : fR A 5 = some p) (hn : fR (A + 40) 7 = some p) (hP : StPl sh fR p)
    (H : (∀ w1 : Int32, w1 = f A 1 → (((f A 4) = 0 → Q (some (.int (-1))) (sh, (up2 (up2 f A 1 (nI 0)) (A + 2) 5 ((f (A + 2) 5) + (nI 1))), g, fR)) ∧ (¬ (f A 4) = 0 → Cl l G d 0 0 mX11_isMet [.ref A, .int w1] (sh, (up2 f A 1 (nI 0)), g, fR) (qi sh fR fun x6 f4 g5 => ((¬ x6 = 0 → acOK (nI 0) (nI 0) w1 1600 48 ∧ Q (some (.int (w1 / (nI 3)))) (sh, (up2 (cpy f4 (A + 1) (A + 105) 0 0 w1.toNatClampNeg) A 14 (w1 / (nI 3))), g5, fR)) ∧ (x6 = 0 → Q (some (.int (-1))) (sh, (up2 f4 (A + 2) 5 ((f4 (A + 2) 5) + (nI 1))), g5, fR)))))))) :
    Cl l G (d + 1) 0 0 mX11_meet [.ref A] (sh, f, g, fR) Q := by
  refine Cl.of (L0 := [some (.ref A), none]) miX11_meet rfl rfl ?_
  refine S_aload_n (pc := 0) dX11_meet_0 rfl rfl ?_
  refine S_get (pc := 1) (v := .int (f A 1)) dX11_meet_1 flX11_66 (sA_0 hs) rfl ?_
  refine S_namei (fun w1 e2 => ?_)
  replace H := H w1 e2
  refine S_istore_n (pc := 4) (L' := [some (.ref A), some (.int w1)]) dX11_meet_4 rfl (by decide) rfl ?_
  refine S_aload_n (pc := 5) dX11_meet_5 rfl rfl ?_
  refine S_iconst (pc := 6) dX11_meet_6 ic0 ?_
  refine S_putI (pc := 7) dX11_meet_7 flX11_66 (sA_0 hs) hs.2.2.1 (nf_11_1) rfl rfl (fun _ => rfl) ?_
  refine S_aload_n (pc := 10) dX11_meet_10 rfl rfl ?_
  refine S_get (pc := 11) (v := .int ((up2 f A 1 (nI 0)) A 4)) dX11_meet_11 flX11_85 (sA_0 hs) rfl ?_
  refine S_eqi (x := f A 4) ((up2_k (by decide)).trans rfl) ?_
  refine S_if_eq (pc := 14) (tgt := 25) dX11_meet_14 rfl (fun hc3 => ?_) (fun hc3 => ?_)
  · replace H := H.1 hc3
    refine S_aload_n (pc := 25) dX11_meet_25 rfl rfl ?_
    refine S_iconst (pc := 26) dX11_meet_26 ic5 ?_
    refine S_callV (As := [.int (nI 5)]) (mc := 0) (ms := 0) (pc := 27) dX11_meet_27 miX11_refuse mvX11_refuse mlX11_70 rfl (sA_0 hs) rfl rfl rfl (RmOK.of rfl) (Q := fun r h => WP _ _ _ _ _ _ _ 30 [some (.ref A), some (.int w1)] (r.toList ++ []) h) (Cl.of miX11_refuse rfl rfl ?_) (fun _ _ q => q)
    refine S_aload_n (pc := 0) dX11_refuse_0 rfl rfl ?_
    refine S_getR (pc := 1) dX11_refuse_1 flX11_13 (sA_0 hs) rfl (rA_0_2 hs) ?_
    refine S_iload_n (pc := 4) dX11_refuse_4 rfl rfl ?_
    refine S_dup2 (pc := 5) dX11_refuse_5 rfl rfl ?_
    refine S_iald (pc := 6) dX11_refuse_6 (sA_2 hs) (vp_in_nI (by decide) (by decide)) ?_
    show WP _ _ _ _ _ _ _ 7 _ (.int ((up2 f A 1 (nI 0)) (A + 2) 5) :: _) _
    refine S_eqi (x := f (A + 2) 5) ((up2_r (by omega)).trans rfl) ?_
    refine S_iconst (pc := 7) dX11_refuse_7 ic1 ?_
    refine S_iadd (pc := 8) dX11_refuse_8 ?_
    refine S_iast (pc := 9) dX11_refuse_9 (sA_2 hs) (Nat.succ_pos _) (vp_in_nI (by decide) (by decide)) ?_
    show WP _ _ _ _ _ _ _ 10 _ _ (sh, (up2 (up2 f A 1 (nI 0)) (A + 2) 5 ((f (A + 2) 5) + (nI 1))), g, fR)
    refine S_iconst (pc := 10) dX11_refuse_10 icm1 ?_
    refine S_ireturn dX11_refuse_11 rfl ?_
    show WP _ _ _ _ _ _ _ 30 [some (.ref A), some (.int w1)] [.int (-1)] (sh, (up2 (up2 f A 1 (nI 0)) (A + 2) 5 ((f (A + 2) 5) + (nI 1))), g, fR)
    exact S_ireturn dX11_meet_30 rfl H
  · replace H := H.2 hc3
    refine S_aload_n (pc := 17) dX11_meet_17 rfl rfl ?_
    refine S_iload_n (pc := 18) dX11_meet_18 rfl rfl ?_
    refine S_callV (As := [.int w1]) (mc := 0) (ms := 0) (pc := 19) dX11_meet_19 miX11_isMet mvX11_isMet mlX11_284 rfl (sA_0 hs) rfl rfl rfl (RmOK.of rfl) H ?_
    rintro _ _ ⟨x6, f4, g5, rfl, rfl, H⟩
    show WP _ _ _ _ _ _ _ 22 [some (.ref A), some (.int w1)] [.int x6] (sh, f4, g5, fR)
    refine S_if_ne (pc := 22) (tgt := 31) dX11_meet_22 rfl (fun hc7 => ?_) (fun hc7 => ?_)
    · replace H := H.1 hc7
      refine S_aload_n (pc := 31) dX11_meet_31 rfl rfl ?_
      refine S_getR (pc := 32) dX11_meet_32 flX11_9 (sA_0 hs) rfl (rA_0_0 hs) ?_
      refine S_iconst (pc := 35) dX11_meet_35 ic0 ?_
      refine S_aload_n (pc := 36) dX11_meet_36 rfl rfl ?_
      refine S_getR (pc := 37) dX11_meet_37 flX11_58 (sA_0 hs) rfl (rA_0_13 hs) ?_
      refine S_iconst (pc := 40) dX11_meet_40 ic0 ?_
      refine S_iload_n (pc := 41) dX11_meet_41 rfl rfl ?_
      obtain ⟨hb8, H⟩ := H
      refine S_acpy (pc := 42) dX11_meet_42 mlX11_287 (sA_1 hs) (sA_105 hs) (Or.inl rfl) (Nat.succ_pos _) hb8 acR ?_
      show WP _ _ _ _ _ _ _ 45 _ _ (sh, (cpy f4 (A + 1) (A + 105) 0 0 w1.toNatClampNeg), g5, fR)
      refine S_aload_n (pc := 45) dX11_meet_45 rfl rfl ?_
      refine S_iload_n (pc := 46) dX11_meet_46 rfl rfl ?_
      refine S_iconst (pc := 47) dX11_meet_47 ic3 ?_
      refine S_idiv (pc := 48) dX11_meet_48 (by decide) ?_
      refine S_putI (pc := 49) dX11_meet_49 flX11_92 (sA_0 hs) hs.2.2.1 (nf_11_14) rfl rfl (fun _ => rfl) ?_
      refine S_aload_n (pc := 52) dX11_meet_52 rfl rfl ?_
      refine S_get (pc := 53) (v := .int ((up2 (cpy f4 (A + 1) (A + 105) 0 0 w1.toNatClampNeg) A 14 (w1 / (nI 3))) A 14)) dX11_meet_53 flX11_92 (sA_0 hs) rfl ?_
      refine S_eqi (x := w1 / (nI 3)) up2_eq ?_
      exact S_ireturn dX11_meet_56 rfl H
    · replace H := H.2 hc7
      refine S_aload_n (pc := 25) dX11_meet_25 rfl rfl ?_
      refine S_iconst (pc := 26) dX11_meet_26 ic5 ?_
      refine S_callV (As := [.int (nI 5)]) (mc := 0) (ms := 0) (pc := 27) dX11_meet_27 miX11_refuse mvX11_refuse mlX11_70 rfl (sA_0 hs) rfl rfl rfl (RmOK.of rfl) (Q := fun r h => WP _ _ _ _ _ _ _ 30 [some (.ref A), some (.int w1)] (r.toList ++ []) h) (Cl.of miX11_refuse rfl rfl ?_) (fun _ _ q => q)
      refine S_aload_n (pc := 0) dX11_refuse_0 rfl rfl ?_
      refine S_getR (pc := 1) dX11_refuse_1 flX11_13 (sA_0 hs) rfl (rA_0_2 hs) ?_
      refine S_iload_n (pc := 4) dX11_refuse_4 rfl rfl ?_
      refine S_dup2 (pc := 5) dX11_refuse_5 rfl rfl ?_
      refine S_iald (pc := 6) dX11_refuse_6 (sA_2 hs) (vp_in_nI (by decide) (by decide)) ?_
      show WP _ _ _ _ _ _ _ 7 _ (.int (f4 (A + 2) 5) :: _) _
      refine S_iconst (pc := 7) dX11_refuse_7 ic1 ?_
      refine S_iadd (pc := 8) dX11_refuse_8 ?_
      refine S_iast (pc := 9) dX11_refuse_9 (sA_2 hs) (Nat.succ_pos _) (vp_in_nI (by decide) (by decide)) ?_
      show WP _ _ _ _ _ _ _ 10 _ _ (sh, (up2 f4 (A + 2) 5 ((f4 (A + 2) 5) + (nI 1))), g5, fR)
      refine S_iconst (pc := 10) dX11_refuse_10 icm1 ?_
      refine S_ireturn dX11_refuse_11 rfl ?_
      show WP _ _ _ _ _ _ _ 30 [some (.ref A), some (.int w1)] [.int (-1)] (sh, (up2 f4 (A + 2) 5 ((f4 (A + 2) 5) + (nI 1))), g5, fR)
      exact S_ireturn dX11_meet_30 rfl H
abbrev LpX11_isMet_20 (l : Launch) (G : Gx) (d : Nat) (Q : Option Value → Hp → Prop) (sh : Sh) (fR : FRt) (A p : Nat) (f : FI) (g : FL) (a1 : Int32) (a2 : Int32) : Prop := WP l G (Zq G 0 0 Q) mX11_isMet (rmd d 0 0) 0 0 20 [some (.ref A), some (.int a1), some (.int a2)] [] (sh, f, g, fR)
set_option maxHeartbeats 2000000 in
set_option maxRecDepth 4000 in
theorem VX11_isMet {l : Launch} {G : Gx} {d : Nat} {Q : Option Value → Hp → Prop} {sh : Sh} {fR : FRt} {A p : Nat} {f : FI} {g : FL} {a1 : Int32} (hs : StA sh fR A) (hp : fR A 5 = some p) (hn : fR (A + 40) 7 = some p) (hP : StPl sh fR p)
    (H : ((a1 = 0 → Q (some (.int (nI 0))) (sh, f, g, fR)) ∧ (¬ a1 = 0 → (((nI 48) < a1 → Q (some (.int (nI 0))) (sh, f, g, fR)) ∧ (¬ (nI 48) < a1 → (((a1 - a1 / (nI 3) * (nI 3)) = 0 → LpX11_isMet_20 l G d Q sh fR A p f g a1 (nI 0)) ∧ (¬ (a1 - a1 / (nI 3) * (nI 3)) = 0 → Q (some (.int (nI 0))) (sh, f, g, fR)))))))) :
    Cl l G d 0 0 mX11_isMet [.ref A, .int a1] (sh, f, g, fR) Q := by
  refine Cl.of (L0 := [some (.ref A), some (.int a1), none]) miX11_isMet rfl rfl ?_
  refine S_iload_n (pc := 0) dX11_isMet_0 rfl rfl ?_
  refine S_if_eq (pc := 1) (tgt := 16) dX11_isMet_1 rfl (fun hc1 => ?_) (fun hc1 => ?_)
  · replace H := H.1 hc1
    refine S_iconst (pc := 16) dX11_isMet_16 ic0 ?_
    exact S_zreturn dX11_isMet_17 rfl (Or.inl rfl) H
  · replace H := H.2 hc1
    refine S_iload_n (pc := 4) dX11_isMet_4 rfl rfl ?_
    refine S_bipush (pc := 5) dX11_isMet_5 bp48 ?_
    refine S_icmp_gt (pc := 7) (tgt := 16) dX11_isMet_7 rfl (fun hc2 => ?_) (fun hc2 => ?_)
    · replace H := H.1 hc2
      refine S_iconst (pc := 16) dX11_isMet_16 ic0 ?_
      exact S_zreturn dX11_isMet_17 rfl (Or.inl rfl) H
    · replace H := H.2 hc2
      refine S_iload_n (pc := 10) dX11_isMet_10 rfl rfl ?_
      refine S_iconst (pc := 11) dX11_isMet_11 ic3 ?_
      refine S_irem (pc := 12) dX11_isMet_12 (by decide) ?_
      refine S_if_eq (pc := 13) (tgt := 18) dX11_isMet_13 rfl (fun hc3 => ?_) (fun hc3 => ?_)
      · replace H := H.1 hc3
        refine S_iconst (pc := 18) dX11_isMet_18 ic0 ?_
        refine S_istore_n (pc := 19) (L' := [some (.ref A), some (.int a1), some (.int (nI 0))]) dX11_isMet_19 rfl (by decide) rfl ?_
        exact H
      · replace H := H.2 hc3
        refine S_iconst (pc := 16) dX11_isMet_16 ic0 ?_
        exact S_zreturn dX11_isMet_17 rfl (Or.inl rfl) H
set_option maxHeartbeats 2000000 in
set_option maxRecDepth 4000 in
theorem VX11_isMet_20 {l : Launch} {G : Gx} {d : Nat} {Q : Option Value → Hp → Prop} {sh : Sh} {fR : FRt} {A p : Nat} {f : FI} {g : FL} {a1 : Int32} {a2 : Int32} (hs : StA sh fR A) (hp : fR A 5 = some p) (hn : fR (A + 40) 7 = some p) (hP : StPl sh fR p)
    (H : ((a1 ≤ a2 → Q (some (.int (nI 1))) (sh, f, g, fR)) ∧ (¬ a1 ≤ a2 → inb a2 1600 ∧ (((nI 60) < (f (A + 1) a2.toNatClampNeg) → Q (some (.int (nI 0))) (sh, f, g, fR)) ∧ (¬ (nI 60) < (f (A + 1) a2.toNatClampNeg) → inb (a2 + (nI 1)) 1600 ∧ (((nI 1) < (f (A + 1) (a2 + (nI 1)).toNatClampNeg) → Q (some (.int (nI 0))) (sh, f, g, fR)) ∧ (¬ (nI 1) < (f (A + 1) (a2 + (nI 1)).toNatClampNeg) → inb (a2 + (nI 2)) 1600 ∧ (((f (A + 1) (a2 + (nI 2)).toNatClampNeg) ≤ (nI 200) → LpX11_isMet_20 l G d Q sh fR A p f g a1 (a2 + nI 3)) ∧ (¬ (f (A + 1) (a2 + (nI 2)).toNatClampNeg) ≤ (nI 200) → Q (some (.int (nI 0))) (sh, f, g, fR)))))))))) :
    LpX11_isMet_20 l G d Q sh fR A p f g a1 a2 := by
  refine S_iload_n (pc := 20) dX11_isMet_20 rfl rfl ?_
  refine S_iload_n (pc := 21) dX11_isMet_21 rfl rfl ?_
  refine S_icmp_ge (pc := 22) (tgt := 70) dX11_isMet_22 rfl (fun hc4 => ?_) (fun hc4 => ?_)
  · replace H := H.1 hc4
    refine S_iconst (pc := 70) dX11_isMet_70 ic1 ?_
    exact S_zreturn dX11_isMet_71 rfl (Or.inr rfl) H
  · replace H := H.2 hc4
    refine S_aload_n (pc := 25) dX11_isMet_25 rfl rfl ?_
    refine S_getR (pc := 26) dX11_isMet_26 flX11_9 (sA_0 hs) rfl (rA_0_0 hs) ?_
    refine S_iload_n (pc := 29) dX11_isMet_29 rfl rfl ?_
    obtain ⟨hb5, H⟩ := H
    refine S_iald (pc := 30) dX11_isMet_30 (sA_1 hs) hb5 ?_
    refine S_bipush (pc := 31) dX11_isMet_31 bp60 ?_
    refine S_icmp_gt (pc := 33) (tgt := 62) dX11_isMet_33 rfl (fun hc6 => ?_) (fun hc6 => ?_)
    · replace H := H.1 hc6
      refine S_iconst (pc := 62) dX11_isMet_62 ic0 ?_
      exact S_zreturn dX11_isMet_63 rfl (Or.inl rfl) H
    · replace H := H.2 hc6
      refine S_aload_n (pc := 36) dX11_isMet_36 rfl rfl ?_
      refine S_getR (pc := 37) dX11_isMet_37 flX11_9 (sA_0 hs) rfl (rA_0_0 hs) ?_
      refine S_iload_n (pc := 40) dX11_isMet_40 rfl rfl ?_
      refine S_iconst (pc := 41) dX11_isMet_41 ic1 ?_
      refine S_iadd (pc := 42) dX11_isMet_42 ?_
      obtain ⟨hb7, H⟩ := H
      refine S_iald (pc := 43) dX11_isMet_43 (sA_1 hs) hb7 ?_
      refine S_iconst (pc := 44) dX11_isMet_44 ic1 ?_
      refine S_icmp_gt (pc := 45) (tgt := 62) dX11_isMet_45 rfl (fun hc8 => ?_) (fun hc8 => ?_)
      · replace H := H.1 hc8
        refine S_iconst (pc := 62) dX11_isMet_62 ic0 ?_
        exact S_zreturn dX11_isMet_63 rfl (Or.inl rfl) H
      · replace H := H.2 hc8
        refine S_aload_n (pc := 48) dX11_isMet_48 rfl rfl ?_
        refine S_getR (pc := 49) dX11_isMet_49 flX11_9 (sA_0 hs) rfl (rA_0_0 hs) ?_
        refine S_iload_n (pc := 52) dX11_isMet_52 rfl rfl ?_
        refine S_iconst (pc := 53) dX11_isMet_53 ic2 ?_
        refine S_iadd (pc := 54) dX11_isMet_54 ?_
        obtain ⟨hb9, H⟩ := H
        refine S_iald (pc := 55) dX11_isMet_55 (sA_1 hs) hb9 ?_
        refine S_sipush (pc := 56) dX11_isMet_56 sp200 ?_
        refine S_icmp_le (pc := 59) (tgt := 64) dX11_isMet_59 rfl (fun hc10 => ?_) (fun hc10 => ?_)
        · replace H := H.1 hc10
          refine S_iinc (pc := 64) (v := nI 3) (L' := [some (.ref A), some (.int a1), some (.int (a2 + nI 3))]) dX11_isMet_64 rfl ic3 rfl ?_
          refine S_goto (pc := 67) (tgt := 20) dX11_isMet_67 rfl ?_
          exact H
        · replace H := H.2 hc10
          refine S_iconst (pc := 62) dX11_isMet_62 ic0 ?_
          exact S_zreturn dX11_isMet_63 rfl (Or.inl rfl) H
set_option maxHeartbeats 2000000 in
set_option maxRecDepth 4000 in
theorem VX11_delays {l : Launch} {G : Gx} {d : Nat} {Q : Option Value → Hp → Prop} {sh : Sh} {fR : FRt} {A p : Nat} {f : FI} {g : FL} {a1 : Int32} (hs : StA sh fR A) (hp : fR A 5 = some p) (hn : fR (A + 40) 7 = some p) (hP : StPl sh fR p)
    (H : Cl l G (d + 6) 0 0 mX11_isPath [.ref A, .int a1] (sh, f, g, fR) (qi sh fR fun x3 f1 g2 => ((¬ x3 = 0 → Cl l G (d + 6) 0 0 mX11_lastMetTick [.ref A] (sh, f1, g2, fR) (qi sh fR fun x7 f5 g6 => Cl l G (d + 6) 0 0 mX11_ticksComing [.ref A, .int x7] (sh, f5, g6, fR) (qi sh fR fun x10 f8 g9 => Cl l G (d + 6) 0 0 mX11_foresee [.ref A, .int a1, .int x10] (sh, f8, g9, fR) (qv sh fR fun f11 g12 => Cl l G (d + 6) 0 0 mX11_delaysLeft [.ref A, .int x10] (sh, f11, g12, fR) (qi sh fR fun x15 f13 g14 => Q (some (.int x15)) (sh, f13, g14, fR)))))) ∧ (x3 = 0 → Q (some (.int (-1))) (sh, f1, g2, fR))))) :
    Cl l G (d + 7) 0 0 mX11_delays [.ref A, .int a1] (sh, f, g, fR) Q := by
  refine Cl.of (L0 := [some (.ref A), some (.int a1), none]) miX11_delays rfl rfl ?_
  refine S_aload_n (pc := 0) dX11_delays_0 rfl rfl ?_
  refine S_iload_n (pc := 1) dX11_delays_1 rfl rfl ?_
  refine S_callV (As := [.int a1]) (mc := 0) (ms := 0) (pc := 2) dX11_delays_2 miX11_isPath mvX11_isPath mlX11_175 rfl (sA_0 hs) rfl rfl rfl (RmOK.of rfl) H ?_
  rintro _ _ ⟨x3, f1, g2, rfl, rfl, H⟩
  show WP _ _ _ _ _ _ _ 5 [some (.ref A), some (.int a1), none] [.int x3] (sh, f1, g2, fR)
  refine S_if_ne (pc := 5) (tgt := 10) dX11_delays_5 rfl (fun hc4 => ?_) (fun hc4 => ?_)
  · replace H := H.1 hc4
    refine S_aload_n (pc := 10) dX11_delays_10 rfl rfl ?_
    refine S_aload_n (pc := 11) dX11_delays_11 rfl rfl ?_
    refine S_callV (As := []) (mc := 0) (ms := 0) (pc := 12) dX11_delays_12 miX11_lastMetTick mvX11_lastMetTick mlX11_293 rfl (sA_0 hs) rfl rfl rfl (RmOK.of rfl) H ?_
    rintro _ _ ⟨x7, f5, g6, rfl, rfl, H⟩
    show WP _ _ _ _ _ _ _ 15 [some (.ref A), some (.int a1), none] [.int x7, .ref A] (sh, f5, g6, fR)
    refine S_callV (As := [.int x7]) (mc := 0) (ms := 0) (pc := 15) dX11_delays_15 miX11_ticksComing mvX11_ticksComing mlX11_296 rfl (sA_0 hs) rfl rfl rfl (RmOK.of rfl) H ?_
    rintro _ _ ⟨x10, f8, g9, rfl, rfl, H⟩
    show WP _ _ _ _ _ _ _ 18 [some (.ref A), some (.int a1), none] [.int x10] (sh, f8, g9, fR)
    refine S_istore_n (pc := 18) (L' := [some (.ref A), some (.int a1), some (.int x10)]) dX11_delays_18 rfl (by decide) rfl ?_
    refine S_aload_n (pc := 19) dX11_delays_19 rfl rfl ?_
    refine S_iload_n (pc := 20) dX11_delays_20 rfl rfl ?_
    refine S_iload_n (pc := 21) dX11_delays_21 rfl rfl ?_
    refine S_callV (As := [.int a1, .int x10]) (mc := 0) (ms := 0) (pc := 22) dX11_delays_22 miX11_foresee mvX11_foresee mlX11_299 rfl (sA_0 hs) rfl rfl rfl (RmOK.of rfl) H ?_
    rintro _ _ ⟨f11, g12, rfl, rfl, H⟩
    show WP _ _ _ _ _ _ _ 25 [some (.ref A), some (.int a1), some (.int x10)] [] (sh, f11, g12, fR)
    refine S_aload_n (pc := 25) dX11_delays_25 rfl rfl ?_
    refine S_iload_n (pc := 26) dX11_delays_26 rfl rfl ?_
    refine S_callV (As := [.int x10]) (mc := 0) (ms := 0) (pc := 27) dX11_delays_27 miX11_delaysLeft mvX11_delaysLeft mlX11_303 rfl (sA_0 hs) rfl rfl rfl (RmOK.of rfl) H ?_
    rintro _ _ ⟨x15, f13, g14, rfl, rfl, H⟩
    show WP _ _ _ _ _ _ _ 30 [some (.ref A), some (.int a1), some (.int x10)] [.int x15] (sh, f13, g14, fR)
    exact S_ireturn dX11_delays_30 rfl H
  · replace H := H.2 hc4
    refine S_iconst (pc := 8) dX11_delays_8 icm1 ?_
    exact S_ireturn dX11_delays_9 rfl H
set_option maxHeartbeats 2000000 in
set_option maxRecDepth 4000 in
theorem VX11_ticksComing {l : Launch} {G : Gx} {d : Nat} {Q : Option Value → Hp → Prop} {sh : Sh} {fR : FRt} {A p : Nat} {f : FI} {g : FL} {a1 : Int32} (hs : StA sh fR A) (hp : fR A 5 = some p) (hn : fR (A + 40) 7 = some p) (hP : StPl sh fR p)
    (H : Cl l G d 0 0 mJ_min [.int a1, .int ((nI 999) - (f (A + 40) 8))] (sh, f, g, fR) (qi sh fR fun x3 f1 g2 => Q (some (.int x3)) (sh, f1, g2, fR))) :
    Cl l G (d + 1) 0 0 mX11_ticksComing [.ref A, .int a1] (sh, f, g, fR) Q := by
  refine Cl.of (L0 := [some (.ref A), some (.int a1)]) miX11_ticksComing rfl rfl ?_
  refine S_iload_n (pc := 0) dX11_ticksComing_0 rfl rfl ?_
  refine S_sipush (pc := 1) dX11_ticksComing_1 sp999 ?_
  refine S_aload_n (pc := 4) dX11_ticksComing_4 rfl rfl ?_
  refine S_getR (pc := 5) dX11_ticksComing_5 flX11_47 (sA_0 hs) rfl (rA_0_8 hs) ?_
  refine S_get (pc := 8) (v := .int (f (A + 40) 8)) dX11_ticksComing_8 flX11_120 (sW_0 hs.2.2.2.1) rfl ?_
  refine S_isub (pc := 11) dX11_ticksComing_11 ?_
  refine S_callSJ (As := [.int a1, .int ((nI 999) - (f (A + 40) 8))]) (mc := 0) (ms := 0) (pc := 12) dX11_ticksComing_12 miJ_min mvJ_min mlX11_306 rfl rfl (RmOK.of rfl) H ?_
  rintro _ _ ⟨x3, f1, g2, rfl, rfl, H⟩
  show WP _ _ _ _ _ _ _ 15 [some (.ref A), some (.int a1)] [.int x3] (sh, f1, g2, fR)
  exact S_ireturn dX11_ticksComing_15 rfl H
abbrev LpX11_lastMetTick_4 (l : Launch) (G : Gx) (d : Nat) (Q : Option Value → Hp → Prop) (sh : Sh) (fR : FRt) (A p : Nat) (f : FI) (g : FL) (a1 : Int32) (a2 : Int32) : Prop := WP l G (Zq G 0 0 Q) mX11_lastMetTick (rmd (d + 1) 0 0) 0 0 4 [some (.ref A), some (.int a1), some (.int a2)] [] (sh, f, g, fR)
set_option maxHeartbeats 2000000 in
set_option maxRecDepth 4000 in
theorem VX11_lastMetTick {l : Launch} {G : Gx} {d : Nat} {Q : Option Value → Hp → Prop} {sh : Sh} {fR : FRt} {A p : Nat} {f : FI} {g : FL}  (hs : StA sh fR A) (hp : fR A 5 = some p) (hn : fR (A + 40) 7 = some p) (hP : StPl sh fR p)
    (H : LpX11_lastMetTick_4 l G d Q sh fR A p f g (nI 0) (nI 0)) :
    Cl l G (d + 1) 0 0 mX11_lastMetTick [.ref A] (sh, f, g, fR) Q := by
  refine Cl.of (L0 := [some (.ref A), none, none]) miX11_lastMetTick rfl rfl ?_
  refine S_iconst (pc := 0) dX11_lastMetTick_0 ic0 ?_
  refine S_istore_n (pc := 1) (L' := [some (.ref A), some (.int (nI 0)), none]) dX11_lastMetTick_1 rfl (by decide) rfl ?_
  refine S_iconst (pc := 2) dX11_lastMetTick_2 ic0 ?_
  refine S_istore_n (pc := 3) (L' := [some (.ref A), some (.int (nI 0)), some (.int (nI 0))]) dX11_lastMetTick_3 rfl (by decide) rfl ?_
  exact H
set_option maxHeartbeats 2000000 in
set_option maxRecDepth 4000 in
theorem VX11_lastMetTick_4 {l : Launch} {G : Gx} {d : Nat} {Q : Option Value → Hp → Prop} {sh : Sh} {fR : FRt} {A p : Nat} {f : FI} {g : FL} {a1 : Int32} {a2 : Int32} (hs : StA sh fR A) (hp : fR A 5 = some p) (hn : fR (A + 40) 7 = some p) (hP : StPl sh fR p)
    (H : (((f A 14) ≤ a2 → Q (some (.int a1)) (sh, f, g, fR)) ∧ (¬ (f A 14) ≤ a2 → inb ((nI 3) * a2) 48 ∧ Cl l G d 0 0 mJ_max [.int a1, .int (f (A + 105) ((nI 3) * a2).toNatClampNeg)] (sh, f, g, fR) (qi sh fR fun x5 f3 g4 => LpX11_lastMetTick_4 l G d Q sh fR A p f3 g4 x5 (a2 + nI 1))))) :
    LpX11_lastMetTick_4 l G d Q sh fR A p f g a1 a2 := by
  refine S_iload_n (pc := 4) dX11_lastMetTick_4 rfl rfl ?_
  refine S_aload_n (pc := 5) dX11_lastMetTick_5 rfl rfl ?_
  refine S_get (pc := 6) (v := .int (f A 14)) dX11_lastMetTick_6 flX11_92 (sA_0 hs) rfl ?_
  refine S_icmp_ge (pc := 9) (tgt := 31) dX11_lastMetTick_9 rfl (fun hc1 => ?_) (fun hc1 => ?_)
  · replace H := H.1 hc1
    refine S_iload_n (pc := 31) dX11_lastMetTick_31 rfl rfl ?_
    exact S_ireturn dX11_lastMetTick_32 rfl H
  · replace H := H.2 hc1
    refine S_iload_n (pc := 12) dX11_lastMetTick_12 rfl rfl ?_
    refine S_aload_n (pc := 13) dX11_lastMetTick_13 rfl rfl ?_
    refine S_getR (pc := 14) dX11_lastMetTick_14 flX11_58 (sA_0 hs) rfl (rA_0_13 hs) ?_
    refine S_iconst (pc := 17) dX11_lastMetTick_17 ic3 ?_
    refine S_iload_n (pc := 18) dX11_lastMetTick_18 rfl rfl ?_
    refine S_imul (pc := 19) dX11_lastMetTick_19 ?_
    obtain ⟨hb2, H⟩ := H
    refine S_iald (pc := 20) dX11_lastMetTick_20 (sA_105 hs) hb2 ?_
    refine S_callSJ (As := [.int a1, .int (f (A + 105) ((nI 3) * a2).toNatClampNeg)]) (mc := 0) (ms := 0) (pc := 21) dX11_lastMetTick_21 miJ_max mvJ_max mlX11_311 rfl rfl (RmOK.of rfl) H ?_
    rintro _ _ ⟨x5, f3, g4, rfl, rfl, H⟩
    show WP _ _ _ _ _ _ _ 24 [some (.ref A), some (.int a1), some (.int a2)] [.int x5] (sh, f3, g4, fR)
    refine S_istore_n (pc := 24) (L' := [some (.ref A), some (.int x5), some (.int a2)]) dX11_lastMetTick_24 rfl (by decide) rfl ?_
    refine S_iinc (pc := 25) (v := nI 1) (L' := [some (.ref A), some (.int x5), some (.int (a2 + nI 1))]) dX11_lastMetTick_25 rfl ic1 rfl ?_
    refine S_goto (pc := 28) (tgt := 4) dX11_lastMetTick_28 rfl ?_
    exact H
abbrev LpX11_foresee_2 (l : Launch) (G : Gx) (d : Nat) (Q : Option Value → Hp → Prop) (sh : Sh) (fR : FRt) (A p : Nat) (f : FI) (g : FL) (a1 : Int32) (a2 : Int32) (a3 : Int32) : Prop := WP l G (Zq G 0 0 Q) mX11_foresee (rmd (d + 6) 0 0) 0 0 2 [some (.ref A), some (.int a1), some (.int a2), some (.int a3), none, none] [] (sh, f, g, fR)
abbrev LpX11_foresee_43 (l : Launch) (G : Gx) (d : Nat) (Q : Option Value → Hp → Prop) (sh : Sh) (fR : FRt) (A p : Nat) (f : FI) (g : FL) (a1 : Int32) (a2 : Int32) (a3 : Int32) (r4 : Nat) (a5 : Int32) : Prop := WP l G (Zq G 0 0 Q) mX11_foresee (rmd (d + 6) 0 0) 0 0 43 [some (.ref A), some (.int a1), some (.int a2), some (.int a3), some (.ref r4), some (.int a5)] [] (sh, f, g, fR)
abbrev LpX11_foresee_108 (l : Launch) (G : Gx) (d : Nat) (Q : Option Value → Hp → Prop) (sh : Sh) (fR : FRt) (A p : Nat) (f : FI) (g : FL) (a1 : Int32) (a2 : Int32) (a3 : Int32) : Prop := WP l G (Zq G 0 0 Q) mX11_foresee (rmd (d + 6) 0 0) 0 0 108 [some (.ref A), some (.int a1), some (.int a2), some (.int a3), none, none] [] (sh, f, g, fR)
abbrev LpX11_foresee_69 (l : Launch) (G : Gx) (d : Nat) (Q : Option Value → Hp → Prop) (sh : Sh) (fR : FRt) (A p : Nat) (f : FI) (g : FL) (a1 : Int32) (a2 : Int32) (a3 : Int32) (r4 : Nat) (a5 : Int32) : Prop := WP l G (Zq G 0 0 Q) mX11_foresee (rmd (d + 6) 0 0) 0 0 69 [some (.ref A), some (.int a1), some (.int a2), some (.int a3), some (.ref r4), some (.int a5)] [] (sh, f, g, fR)
set_option maxHeartbeats 2000000 in
set_option maxRecDepth 4000 in
theorem VX11_foresee {l : Launch} {G : Gx} {d : Nat} {Q : Option Value → Hp → Prop} {sh : Sh} {fR : FRt} {A p : Nat} {f : FI} {g : FL} {a1 : Int32} {a2 : Int32} (hs : StA sh fR A) (hp : fR A 5 = some p) (hn : fR (A + 40) 7 = some p) (hP : StPl sh fR p)
    (H : LpX11_foresee_2 l G d Q sh fR A p f g a1 a2 (nI 1)) :
    Cl l G (d + 6) 0 0 mX11_foresee [.ref A, .int a1, .int a2] (sh, f, g, fR) Q := by
  refine Cl.of (L0 := [some (.ref A), some (.int a1), some (.int a2), none, none, none]) miX11_foresee rfl rfl ?_
  refine S_iconst (pc := 0) dX11_foresee_0 ic1 ?_
  refine S_istore_n (pc := 1) (L' := [some (.ref A), some (.int a1), some (.int a2), some (.int (nI 1)), none, none]) dX11_foresee_1 rfl (by decide) rfl ?_
  exact H
set_option maxHeartbeats 2000000 in
set_option maxRecDepth 4000 in
theorem VX11_foresee_2 {l : Launch} {G : Gx} {d : Nat} {Q : Option Value → Hp → Prop} {sh : Sh} {fR : FRt} {A p : Nat} {f : FI} {g : FL} {a1 : Int32} {a2 : Int32} {a3 : Int32} (hs : StA sh fR A) (hp : fR A 5 = some p) (hn : fR (A + 40) 7 = some p) (hP : StPl sh fR p)
    (H : (((nI 9) < a3 → Q none (sh, f, g, fR)) ∧ (¬ (nI 9) < a3 → inb a3 10 ∧ (∃ r3, fR (A + 106) a3.toNatClampNeg = some r3 ∧ sh[r3]? = some (20, 122) ∧ 0 < r3 ∧ Cl l G (d + 5) 0 0 mX10_copyFrom [.ref (A + 72), .ref (A + 40)] (sh, f, g, fR) (qv sh (up2 fR (A + 72) 7 (some p)) fun f9 g10 => inb a1 4 ∧ (∃ r12, (up2 fR (A + 72) 7 (some p)) (A + 72 + 1) a1.toNatClampNeg = some r12 ∧ sh[r12]? = some (8, 8) ∧ 0 < r12 ∧ LpX11_foresee_43 l G d Q sh (up2 fR (A + 72) 7 (some p)) A p (up2 f9 r12 0 a3) g10 a1 a2 a3 r3 (nI 0))))))) :
    LpX11_foresee_2 l G d Q sh fR A p f g a1 a2 a3 := by
  refine S_iload_n (pc := 2) dX11_foresee_2 rfl rfl ?_
  refine S_bipush (pc := 3) dX11_foresee_3 bp9 ?_
  refine S_icmp_gt (pc := 5) (tgt := 114) dX11_foresee_5 rfl (fun hc1 => ?_) (fun hc1 => ?_)
  · replace H := H.1 hc1
    exact S_vreturn dX11_foresee_114 rfl H
  · replace H := H.2 hc1
    refine S_aload_n (pc := 8) dX11_foresee_8 rfl rfl ?_
    refine S_getR (pc := 9) dX11_foresee_9 flX11_63 (sA_0 hs) rfl (rA_0_15 hs) ?_
    refine S_iload_n (pc := 12) dX11_foresee_12 rfl rfl ?_
    obtain ⟨hb2, H⟩ := H
    obtain ⟨r3, e4, s5, p6, H⟩ := H
    refine S_aald26 (pc := 13) dX11_foresee_13 (sA_106 hs) hb2 e4 ?_
    refine S_astore (pc := 14) (L' := [some (.ref A), some (.int a1), some (.int a2), some (.int a3), some (.ref r3), none]) dX11_foresee_14 (by decide) rfl ?_
    refine S_aload_n (pc := 16) dX11_foresee_16 rfl rfl ?_
    refine S_getR (pc := 17) dX11_foresee_17 flX11_51 (sA_0 hs) rfl (rA_0_9 hs) ?_
    refine S_aload_n (pc := 20) dX11_foresee_20 rfl rfl ?_
    refine S_getR (pc := 21) dX11_foresee_21 flX11_47 (sA_0 hs) rfl (rA_0_8 hs) ?_
    refine S_callV (As := [.ref (A + 40)]) (mc := 0) (ms := 0) (pc := 24) dX11_foresee_24 miX10_copyFrom mvX10_copyFrom mlX11_251 rfl (sW_0 hs.2.2.2.2.1) rfl rfl rfl (RmOK.of rfl) H ?_
    rintro _ _ ⟨f9, g10, rfl, rfl, H⟩
    show WP _ _ _ _ _ _ _ 27 [some (.ref A), some (.int a1), some (.int a2), some (.int a3), some (.ref r3), none] [] (sh, f9, g10, (up2 fR (A + 72) 7 (some p)))
    refine S_aload_n (pc := 27) dX11_foresee_27 rfl rfl ?_
    refine S_getR (pc := 28) dX11_foresee_28 flX11_51 (sA_0 hs) rfl ((up2_ne (by simp)).trans (rA_0_9 hs)) ?_
    refine S_getR (pc := 31) dX11_foresee_31 flX11_186 (sW_0 hs.2.2.2.2.1) rfl ((up2_ne (by simp)).trans (rW_0_0 hs.2.2.2.2.1)) ?_
    refine S_iload_n (pc := 34) dX11_foresee_34 rfl rfl ?_
    obtain ⟨hb11, H⟩ := H
    obtain ⟨r12, e13, s14, p15, H⟩ := H
    refine S_aald24 (pc := 35) dX11_foresee_35 (sW_1 hs.2.2.2.2.1) hb11 e13 ?_
    refine S_iload_n (pc := 36) dX11_foresee_36 rfl rfl ?_
    refine S_putI (pc := 37) dX11_foresee_37 flX11_190 s14 p15 (nf_8_0) rfl rfl (fun _ => rfl) ?_
    refine S_iconst (pc := 40) dX11_foresee_40 ic0 ?_
    refine S_istore (pc := 41) (L' := [some (.ref A), some (.int a1), some (.int a2), some (.int a3), some (.ref r3), some (.int (nI 0))]) dX11_foresee_41 (by decide) rfl ?_
    exact H
set_option maxHeartbeats 2000000 in
set_option maxRecDepth 4000 in
theorem VX11_foresee_43 {l : Launch} {G : Gx} {d : Nat} {Q : Option Value → Hp → Prop} {sh : Sh} {fR : FRt} {A p : Nat} {f : FI} {g : FL} {a1 : Int32} {a2 : Int32} {a3 : Int32} {r4 : Nat} {a5 : Int32} (hs : StA sh fR A) (hp : fR A 5 = some p) (hn : fR (A + 40) 7 = some p) (hP : StPl sh fR p) (hr4 : sh[r4]? = some (20, 122) ∧ 0 < r4)
    (H : ((a2 < a5 → LpX11_foresee_108 l G d Q sh fR A p f g a1 a2 a3) ∧ (¬ a2 < a5 → (((nI 60) < a5 → LpX11_foresee_108 l G d Q sh fR A p f g a1 a2 a3) ∧ (¬ (nI 60) < a5 → ((a5 ≤ 0 → LpX11_foresee_69 l G d Q sh fR A p f g a1 a2 a3 r4 a5) ∧ (¬ a5 ≤ 0 → Cl l G (d + 5) 0 0 mX10_step [.ref (A + 72), .null] (sh, f, g, fR) (qv sh fR fun f19 g20 => LpX11_foresee_69 l G d Q sh fR A p f19 g20 a1 a2 a3 r4 a5)))))))) :
    LpX11_foresee_43 l G d Q sh fR A p f g a1 a2 a3 r4 a5 := by
  refine S_iload (pc := 43) dX11_foresee_43 rfl ?_
  refine S_iload_n (pc := 45) dX11_foresee_45 rfl rfl ?_
  refine S_icmp_gt (pc := 46) (tgt := 108) dX11_foresee_46 rfl (fun hc16 => ?_) (fun hc16 => ?_)
  · replace H := H.1 hc16
    exact S_weak (L' := [some (.ref A), some (.int a1), some (.int a2), some (.int a3), none, none]) (ls_e (ls_e (ls_e (ls_e (ls_n (ls_n ls_0)))))) H
  · replace H := H.2 hc16
    refine S_iload (pc := 49) dX11_foresee_49 rfl ?_
    refine S_bipush (pc := 51) dX11_foresee_51 bp60 ?_
    refine S_icmp_gt (pc := 53) (tgt := 108) dX11_foresee_53 rfl (fun hc17 => ?_) (fun hc17 => ?_)
    · replace H := H.1 hc17
      exact S_weak (L' := [some (.ref A), some (.int a1), some (.int a2), some (.int a3), none, none]) (ls_e (ls_e (ls_e (ls_e (ls_n (ls_n ls_0)))))) H
    · replace H := H.2 hc17
      refine S_iload (pc := 56) dX11_foresee_56 rfl ?_
      refine S_if_le (pc := 58) (tgt := 69) dX11_foresee_58 rfl (fun hc18 => ?_) (fun hc18 => ?_)
      · replace H := H.1 hc18
        exact H
      · replace H := H.2 hc18
        refine S_aload_n (pc := 61) dX11_foresee_61 rfl rfl ?_
        refine S_getR (pc := 62) dX11_foresee_62 flX11_51 (sA_0 hs) rfl (rA_0_9 hs) ?_
        refine S_null (pc := 65) dX11_foresee_65 ?_
        refine S_callV (As := [.null]) (mc := 0) (ms := 0) (pc := 66) dX11_foresee_66 miX10_step mvX10_step mlX11_255 rfl (sW_0 hs.2.2.2.2.1) rfl rfl rfl (RmOK.of rfl) H ?_
        rintro _ _ ⟨f19, g20, rfl, rfl, H⟩
        show WP _ _ _ _ _ _ _ 69 [some (.ref A), some (.int a1), some (.int a2), some (.int a3), some (.ref r4), some (.int a5)] [] (sh, f19, g20, fR)
        exact H
set_option maxHeartbeats 2000000 in
set_option maxRecDepth 4000 in
theorem VX11_foresee_108 {l : Launch} {G : Gx} {d : Nat} {Q : Option Value → Hp → Prop} {sh : Sh} {fR : FRt} {A p : Nat} {f : FI} {g : FL} {a1 : Int32} {a2 : Int32} {a3 : Int32} (hs : StA sh fR A) (hp : fR A 5 = some p) (hn : fR (A + 40) 7 = some p) (hP : StPl sh fR p)
    (H : LpX11_foresee_2 l G d Q sh fR A p f g a1 a2 (a3 + nI 1)) :
    LpX11_foresee_108 l G d Q sh fR A p f g a1 a2 a3 := by
  refine S_iinc (pc := 108) (v := nI 1) (L' := [some (.ref A), some (.int a1), some (.int a2), some (.int (a3 + nI 1)), none, none]) dX11_foresee_108 rfl ic1 rfl ?_
  refine S_goto (pc := 111) (tgt := 2) dX11_foresee_111 rfl ?_
  exact H
set_option maxHeartbeats 2000000 in
set_option maxRecDepth 4000 in
theorem VX11_foresee_69 {l : Launch} {G : Gx} {d : Nat} {Q : Option Value → Hp → Prop} {sh : Sh} {fR : FRt} {A p : Nat} {f : FI} {g : FL} {a1 : Int32} {a2 : Int32} {a3 : Int32} {r4 : Nat} {a5 : Int32} (hs : StA sh fR A) (hp : fR A 5 = some p) (hn : fR (A + 40) 7 = some p) (hP : StPl sh fR p) (hr4 : sh[r4]? = some (20, 122) ∧ 0 < r4)
    (H : inb ((nI 2) * a5) 122 ∧ inb (((nI 2) * a5) + (nI 1)) 122 ∧ LpX11_foresee_43 l G d Q sh fR A p (up2 (up2 f r4 ((nI 2) * a5).toNatClampNeg (f (A + 72) 10)) r4 (((nI 2) * a5) + (nI 1)).toNatClampNeg (f (A + 72 + 2) 5)) g a1 a2 a3 r4 (a5 + nI 1)) :
    LpX11_foresee_69 l G d Q sh fR A p f g a1 a2 a3 r4 a5 := by
  refine S_aload (pc := 69) dX11_foresee_69 rfl ?_
  refine S_iconst (pc := 71) dX11_foresee_71 ic2 ?_
  refine S_iload (pc := 72) dX11_foresee_72 rfl ?_
  refine S_imul (pc := 74) dX11_foresee_74 ?_
  refine S_aload_n (pc := 75) dX11_foresee_75 rfl rfl ?_
  refine S_getR (pc := 76) dX11_foresee_76 flX11_51 (sA_0 hs) rfl (rA_0_9 hs) ?_
  refine S_get (pc := 79) (v := .int (f (A + 72) 10)) dX11_foresee_79 flX11_126 (sW_0 hs.2.2.2.2.1) rfl ?_
  obtain ⟨hb21, H⟩ := H
  refine S_iast (pc := 82) dX11_foresee_82 hr4.1 hr4.2 hb21 ?_
  refine S_aload (pc := 83) dX11_foresee_83 rfl ?_
  refine S_iconst (pc := 85) dX11_foresee_85 ic2 ?_
  refine S_iload (pc := 86) dX11_foresee_86 rfl ?_
  refine S_imul (pc := 88) dX11_foresee_88 ?_
  refine S_iconst (pc := 89) dX11_foresee_89 ic1 ?_
  refine S_iadd (pc := 90) dX11_foresee_90 ?_
  refine S_aload_n (pc := 91) dX11_foresee_91 rfl rfl ?_
  refine S_getR (pc := 92) dX11_foresee_92 flX11_51 (sA_0 hs) rfl (rA_0_9 hs) ?_
  refine S_getR (pc := 95) dX11_foresee_95 flX11_132 (sW_0 hs.2.2.2.2.1) rfl (rW_0_1 hs.2.2.2.2.1) ?_
  refine S_get (pc := 98) (v := .int ((up2 f r4 ((nI 2) * a5).toNatClampNeg (f (A + 72) 10)) (A + 72 + 2) 5)) dX11_foresee_98 flX11_141 (sW_2 hs.2.2.2.2.1) rfl ?_
  refine S_eqi (x := f (A + 72 + 2) 5) ((up2_r (ne_sh (sW_2 hs.2.2.2.2.1) hr4.1 (by decide))).trans rfl) ?_
  obtain ⟨hb22, H⟩ := H
  refine S_iast (pc := 101) dX11_foresee_101 hr4.1 hr4.2 hb22 ?_
  refine S_iinc (pc := 102) (v := nI 1) (L' := [some (.ref A), some (.int a1), some (.int a2), some (.int a3), some (.ref r4), some (.int (a5 + nI 1))]) dX11_foresee_102 rfl ic1 rfl ?_
  refine S_goto (pc := 105) (tgt := 43) dX11_foresee_105 rfl ?_
  exact H
abbrev LpX11_delaysLeft_4 (l : Launch) (G : Gx) (d : Nat) (Q : Option Value → Hp → Prop) (sh : Sh) (fR : FRt) (A p : Nat) (f : FI) (g : FL) (a1 : Int32) (a2 : Int32) (a3 : Int32) : Prop := WP l G (Zq G 0 0 Q) mX11_delaysLeft (rmd (d + 1) 0 0) 0 0 4 [some (.ref A), some (.int a1), some (.int a2), some (.int a3)] [] (sh, f, g, fR)
abbrev LpX11_delaysLeft_30 (l : Launch) (G : Gx) (d : Nat) (Q : Option Value → Hp → Prop) (sh : Sh) (fR : FRt) (A p : Nat) (f : FI) (g : FL) (a1 : Int32) (a2 : Int32) (a3 : Int32) : Prop := WP l G (Zq G 0 0 Q) mX11_delaysLeft (rmd (d + 1) 0 0) 0 0 30 [some (.ref A), some (.int a1), some (.int a2), some (.int a3)] [] (sh, f, g, fR)
set_option maxHeartbeats 2000000 in
set_option maxRecDepth 4000 in
theorem VX11_delaysLeft {l : Launch} {G : Gx} {d : Nat} {Q : Option Value → Hp → Prop} {sh : Sh} {fR : FRt} {A p : Nat} {f : FI} {g : FL} {a1 : Int32} (hs : StA sh fR A) (hp : fR A 5 = some p) (hn : fR (A + 40) 7 = some p) (hP : StPl sh fR p)
    (H : LpX11_delaysLeft_4 l G d Q sh fR A p f g a1 (nI 0) (nI 1)) :
    Cl l G (d + 1) 0 0 mX11_delaysLeft [.ref A, .int a1] (sh, f, g, fR) Q := by
  refine Cl.of (L0 := [some (.ref A), some (.int a1), none, none]) miX11_delaysLeft rfl rfl ?_
  refine S_iconst (pc := 0) dX11_delaysLeft_0 ic0 ?_
  refine S_istore_n (pc := 1) (L' := [some (.ref A), some (.int a1), some (.int (nI 0)), none]) dX11_delaysLeft_1 rfl (by decide) rfl ?_
  refine S_iconst (pc := 2) dX11_delaysLeft_2 ic1 ?_
  refine S_istore_n (pc := 3) (L' := [some (.ref A), some (.int a1), some (.int (nI 0)), some (.int (nI 1))]) dX11_delaysLeft_3 rfl (by decide) rfl ?_
  exact H
set_option maxHeartbeats 2000000 in
set_option maxRecDepth 4000 in
theorem VX11_delaysLeft_4 {l : Launch} {G : Gx} {d : Nat} {Q : Option Value → Hp → Prop} {sh : Sh} {fR : FRt} {A p : Nat} {f : FI} {g : FL} {a1 : Int32} {a2 : Int32} {a3 : Int32} (hs : StA sh fR A) (hp : fR A 5 = some p) (hn : fR (A + 40) 7 = some p) (hP : StPl sh fR p)
    (H : (((nI 9) < a3 → Q (some (.int a2)) (sh, f, g, fR)) ∧ (¬ (nI 9) < a3 → inb a3 10 ∧ (∃ r3, fR (A + 106) a3.toNatClampNeg = some r3 ∧ sh[r3]? = some (20, 122) ∧ 0 < r3 ∧ Cl l G d 0 0 mX11_fitsMet [.ref A, .ref r3, .int a1] (sh, f, g, fR) (qi sh fR fun x9 f7 g8 => ((x9 = 0 → LpX11_delaysLeft_30 l G d Q sh fR A p f7 g8 a1 a2 a3) ∧ (¬ x9 = 0 → (∀ w11 : Int32, w11 = a2 ||| ((nI 1) <<< (a3 &&& 31)) → LpX11_delaysLeft_30 l G d Q sh fR A p f7 g8 a1 w11 a3)))))))) :
    LpX11_delaysLeft_4 l G d Q sh fR A p f g a1 a2 a3 := by
  refine S_iload_n (pc := 4) dX11_delaysLeft_4 rfl rfl ?_
  refine S_bipush (pc := 5) dX11_delaysLeft_5 bp9 ?_
  refine S_icmp_gt (pc := 7) (tgt := 36) dX11_delaysLeft_7 rfl (fun hc1 => ?_) (fun hc1 => ?_)
  · replace H := H.1 hc1
    refine S_iload_n (pc := 36) dX11_delaysLeft_36 rfl rfl ?_
    exact S_ireturn dX11_delaysLeft_37 rfl H
  · replace H := H.2 hc1
    refine S_aload_n (pc := 10) dX11_delaysLeft_10 rfl rfl ?_
    refine S_aload_n (pc := 11) dX11_delaysLeft_11 rfl rfl ?_
    refine S_getR (pc := 12) dX11_delaysLeft_12 flX11_63 (sA_0 hs) rfl (rA_0_15 hs) ?_
    refine S_iload_n (pc := 15) dX11_delaysLeft_15 rfl rfl ?_
    obtain ⟨hb2, H⟩ := H
    obtain ⟨r3, e4, s5, p6, H⟩ := H
    refine S_aald26 (pc := 16) dX11_delaysLeft_16 (sA_106 hs) hb2 e4 ?_
    refine S_iload_n (pc := 17) dX11_delaysLeft_17 rfl rfl ?_
    refine S_callV (As := [.ref r3, .int a1]) (mc := 0) (ms := 0) (pc := 18) dX11_delaysLeft_18 miX11_fitsMet mvX11_fitsMet mlX11_314 rfl (sA_0 hs) rfl rfl rfl (RmOK.of rfl) H ?_
    rintro _ _ ⟨x9, f7, g8, rfl, rfl, H⟩
    show WP _ _ _ _ _ _ _ 21 [some (.ref A), some (.int a1), some (.int a2), some (.int a3)] [.int x9] (sh, f7, g8, fR)
    refine S_if_eq (pc := 21) (tgt := 30) dX11_delaysLeft_21 rfl (fun hc10 => ?_) (fun hc10 => ?_)
    · replace H := H.1 hc10
      exact H
    · replace H := H.2 hc10
      refine S_iload_n (pc := 24) dX11_delaysLeft_24 rfl rfl ?_
      refine S_iconst (pc := 25) dX11_delaysLeft_25 ic1 ?_
      refine S_iload_n (pc := 26) dX11_delaysLeft_26 rfl rfl ?_
      refine S_ishl (pc := 27) dX11_delaysLeft_27 ?_
      refine S_ior (pc := 28) dX11_delaysLeft_28 ?_
      refine S_namei (fun w11 e12 => ?_)
      replace H := H w11 e12
      refine S_istore_n (pc := 29) (L' := [some (.ref A), some (.int a1), some (.int w11), some (.int a3)]) dX11_delaysLeft_29 rfl (by decide) rfl ?_
      exact H
set_option maxHeartbeats 2000000 in
set_option maxRecDepth 4000 in
theorem VX11_delaysLeft_30 {l : Launch} {G : Gx} {d : Nat} {Q : Option Value → Hp → Prop} {sh : Sh} {fR : FRt} {A p : Nat} {f : FI} {g : FL} {a1 : Int32} {a2 : Int32} {a3 : Int32} (hs : StA sh fR A) (hp : fR A 5 = some p) (hn : fR (A + 40) 7 = some p) (hP : StPl sh fR p)
    (H : LpX11_delaysLeft_4 l G d Q sh fR A p f g a1 a2 (a3 + nI 1)) :
    LpX11_delaysLeft_30 l G d Q sh fR A p f g a1 a2 a3 := by
  refine S_iinc (pc := 30) (v := nI 1) (L' := [some (.ref A), some (.int a1), some (.int a2), some (.int (a3 + nI 1))]) dX11_delaysLeft_30 rfl ic1 rfl ?_
  refine S_goto (pc := 33) (tgt := 4) dX11_delaysLeft_33 rfl ?_
  exact H
abbrev LpX11_fitsMet_2 (l : Launch) (G : Gx) (d : Nat) (Q : Option Value → Hp → Prop) (sh : Sh) (fR : FRt) (A p e : Nat) (f : FI) (g : FL) (a2 : Int32) (a3 : Int32) : Prop := WP l G (Zq G 0 0 Q) mX11_fitsMet (rmd d 0 0) 0 0 2 [some (.ref A), some (.ref e), some (.int a2), some (.int a3)] [] (sh, f, g, fR)
set_option maxHeartbeats 2000000 in
set_option maxRecDepth 4000 in
theorem VX11_fitsMet {l : Launch} {G : Gx} {d : Nat} {Q : Option Value → Hp → Prop} {sh : Sh} {fR : FRt} {A p e : Nat} {f : FI} {g : FL} {a2 : Int32} (hs : StA sh fR A) (hp : fR A 5 = some p) (hn : fR (A + 40) 7 = some p) (hP : StPl sh fR p) (he : sh[e]? = some (20, 122))
    (H : LpX11_fitsMet_2 l G d Q sh fR A p e f g a2 (nI 0)) :
    Cl l G d 0 0 mX11_fitsMet [.ref A, .ref e, .int a2] (sh, f, g, fR) Q := by
  refine Cl.of (L0 := [some (.ref A), some (.ref e), some (.int a2), none]) miX11_fitsMet rfl rfl ?_
  refine S_iconst (pc := 0) dX11_fitsMet_0 ic0 ?_
  refine S_istore_n (pc := 1) (L' := [some (.ref A), some (.ref e), some (.int a2), some (.int (nI 0))]) dX11_fitsMet_1 rfl (by decide) rfl ?_
  exact H
set_option maxHeartbeats 2000000 in
set_option maxRecDepth 4000 in
theorem VX11_fitsMet_2 {l : Launch} {G : Gx} {d : Nat} {Q : Option Value → Hp → Prop} {sh : Sh} {fR : FRt} {A p e : Nat} {f : FI} {g : FL} {a2 : Int32} {a3 : Int32} (hs : StA sh fR A) (hp : fR A 5 = some p) (hn : fR (A + 40) 7 = some p) (hP : StPl sh fR p) (he : sh[e]? = some (20, 122))
    (H : ((((nI 3) * (f A 14)) ≤ a3 → Q (some (.int (nI 1))) (sh, f, g, fR)) ∧ (¬ ((nI 3) * (f A 14)) ≤ a3 → inb a3 48 ∧ ((a2 < (f (A + 105) a3.toNatClampNeg) → Q (some (.int (nI 0))) (sh, f, g, fR)) ∧ (¬ a2 < (f (A + 105) a3.toNatClampNeg) → inb a3 48 ∧ inb (a3 + (nI 1)) 48 ∧ inb (((nI 2) * (f (A + 105) a3.toNatClampNeg)) + (f (A + 105) (a3 + (nI 1)).toNatClampNeg)) 122 ∧ inb (a3 + (nI 2)) 48 ∧ (((f e (((nI 2) * (f (A + 105) a3.toNatClampNeg)) + (f (A + 105) (a3 + (nI 1)).toNatClampNeg)).toNatClampNeg) = (f (A + 105) (a3 + (nI 2)).toNatClampNeg) → LpX11_fitsMet_2 l G d Q sh fR A p e f g a2 (a3 + nI 3)) ∧ (¬ (f e (((nI 2) * (f (A + 105) a3.toNatClampNeg)) + (f (A + 105) (a3 + (nI 1)).toNatClampNeg)).toNatClampNeg) = (f (A + 105) (a3 + (nI 2)).toNatClampNeg) → Q (some (.int (nI 0))) (sh, f, g, fR)))))))) :
    LpX11_fitsMet_2 l G d Q sh fR A p e f g a2 a3 := by
  refine S_iload_n (pc := 2) dX11_fitsMet_2 rfl rfl ?_
  refine S_iconst (pc := 3) dX11_fitsMet_3 ic3 ?_
  refine S_aload_n (pc := 4) dX11_fitsMet_4 rfl rfl ?_
  refine S_get (pc := 5) (v := .int (f A 14)) dX11_fitsMet_5 flX11_92 (sA_0 hs) rfl ?_
  refine S_imul (pc := 8) dX11_fitsMet_8 ?_
  refine S_icmp_ge (pc := 9) (tgt := 60) dX11_fitsMet_9 rfl (fun hc1 => ?_) (fun hc1 => ?_)
  · replace H := H.1 hc1
    refine S_iconst (pc := 60) dX11_fitsMet_60 ic1 ?_
    exact S_zreturn dX11_fitsMet_61 rfl (Or.inr rfl) H
  · replace H := H.2 hc1
    refine S_aload_n (pc := 12) dX11_fitsMet_12 rfl rfl ?_
    refine S_getR (pc := 13) dX11_fitsMet_13 flX11_58 (sA_0 hs) rfl (rA_0_13 hs) ?_
    refine S_iload_n (pc := 16) dX11_fitsMet_16 rfl rfl ?_
    obtain ⟨hb2, H⟩ := H
    refine S_iald (pc := 17) dX11_fitsMet_17 (sA_105 hs) hb2 ?_
    refine S_iload_n (pc := 18) dX11_fitsMet_18 rfl rfl ?_
    refine S_icmp_gt (pc := 19) (tgt := 52) dX11_fitsMet_19 rfl (fun hc3 => ?_) (fun hc3 => ?_)
    · replace H := H.1 hc3
      refine S_iconst (pc := 52) dX11_fitsMet_52 ic0 ?_
      exact S_zreturn dX11_fitsMet_53 rfl (Or.inl rfl) H
    · replace H := H.2 hc3
      refine S_aload_n (pc := 22) dX11_fitsMet_22 rfl rfl ?_
      refine S_iconst (pc := 23) dX11_fitsMet_23 ic2 ?_
      refine S_aload_n (pc := 24) dX11_fitsMet_24 rfl rfl ?_
      refine S_getR (pc := 25) dX11_fitsMet_25 flX11_58 (sA_0 hs) rfl (rA_0_13 hs) ?_
      refine S_iload_n (pc := 28) dX11_fitsMet_28 rfl rfl ?_
      obtain ⟨hb4, H⟩ := H
      refine S_iald (pc := 29) dX11_fitsMet_29 (sA_105 hs) hb4 ?_
      refine S_imul (pc := 30) dX11_fitsMet_30 ?_
      refine S_aload_n (pc := 31) dX11_fitsMet_31 rfl rfl ?_
      refine S_getR (pc := 32) dX11_fitsMet_32 flX11_58 (sA_0 hs) rfl (rA_0_13 hs) ?_
      refine S_iload_n (pc := 35) dX11_fitsMet_35 rfl rfl ?_
      refine S_iconst (pc := 36) dX11_fitsMet_36 ic1 ?_
      refine S_iadd (pc := 37) dX11_fitsMet_37 ?_
      obtain ⟨hb5, H⟩ := H
      refine S_iald (pc := 38) dX11_fitsMet_38 (sA_105 hs) hb5 ?_
      refine S_iadd (pc := 39) dX11_fitsMet_39 ?_
      obtain ⟨hb6, H⟩ := H
      refine S_iald (pc := 40) dX11_fitsMet_40 he hb6 ?_
      refine S_aload_n (pc := 41) dX11_fitsMet_41 rfl rfl ?_
      refine S_getR (pc := 42) dX11_fitsMet_42 flX11_58 (sA_0 hs) rfl (rA_0_13 hs) ?_
      refine S_iload_n (pc := 45) dX11_fitsMet_45 rfl rfl ?_
      refine S_iconst (pc := 46) dX11_fitsMet_46 ic2 ?_
      refine S_iadd (pc := 47) dX11_fitsMet_47 ?_
      obtain ⟨hb7, H⟩ := H
      refine S_iald (pc := 48) dX11_fitsMet_48 (sA_105 hs) hb7 ?_
      refine S_icmp_eq (pc := 49) (tgt := 54) dX11_fitsMet_49 rfl (fun hc8 => ?_) (fun hc8 => ?_)
      · replace H := H.1 hc8
        refine S_iinc (pc := 54) (v := nI 3) (L' := [some (.ref A), some (.ref e), some (.int a2), some (.int (a3 + nI 3))]) dX11_fitsMet_54 rfl ic3 rfl ?_
        refine S_goto (pc := 57) (tgt := 2) dX11_fitsMet_57 rfl ?_
        exact H
      · replace H := H.2 hc8
        refine S_iconst (pc := 52) dX11_fitsMet_52 ic0 ?_
        exact S_zreturn dX11_fitsMet_53 rfl (Or.inl rfl) H
abbrev LpX11_tells_75 (l : Launch) (G : Gx) (d : Nat) (Q : Option Value → Hp → Prop) (sh : Sh) (fR : FRt) (A p : Nat) (f : FI) (g : FL) (a2 : Int32) (a3 : Int32) (a4 : Int32) (a5 : Int32) (a6 : Int32) (a7 : Int32) : Prop := WP l G (Zq G 0 0 Q) mX11_tells (rmd (d + 7) 0 0) 0 0 75 [some (.ref A), none, some (.int a2), some (.int a3), some (.int a4), some (.int a5), some (.int a6), some (.int a7), none] [] (sh, f, g, fR)
abbrev LpX11_tells_110 (l : Launch) (G : Gx) (d : Nat) (Q : Option Value → Hp → Prop) (sh : Sh) (fR : FRt) (A p : Nat) (f : FI) (g : FL) (a2 : Int32) (a3 : Int32) (a4 : Int32) (a5 : Int32) (a6 : Int32) (a7 : Int32) : Prop := WP l G (Zq G 0 0 Q) mX11_tells (rmd (d + 7) 0 0) 0 0 110 [some (.ref A), none, some (.int a2), some (.int a3), some (.int a4), some (.int a5), some (.int a6), some (.int a7), none] [] (sh, f, g, fR)
set_option maxHeartbeats 2000000 in
set_option maxRecDepth 4000 in
theorem VX11_tells {l : Launch} {G : Gx} {d : Nat} {Q : Option Value → Hp → Prop} {sh : Sh} {fR : FRt} {A p : Nat} {f : FI} {g : FL} {a1 : Int32} {a2 : Int32} (hs : StA sh fR A) (hp : fR A 5 = some p) (hn : fR (A + 40) 7 = some p) (hP : StPl sh fR p)
    (H : Cl l G (d + 6) 0 0 mX11_isPath [.ref A, .int a1] (sh, f, g, fR) (qi sh fR fun x3 f1 g2 => ((x3 = 0 → Q (some (.int (-1))) (sh, f1, g2, fR)) ∧ (¬ x3 = 0 → ((a2 < 0 → Q (some (.int (-1))) (sh, f1, g2, fR)) ∧ (¬ a2 < 0 → (((nI 2) < a2 → Q (some (.int (-1))) (sh, f1, g2, fR)) ∧ (¬ (nI 2) < a2 → (((f1 (A + 40) 8) < (nI 999) → Cl l G (d + 6) 0 0 mX11_ticksComing [.ref A, .int (nI 60)] (sh, f1, g2, fR) (qi sh fR fun x10 f8 g9 => Cl l G (d + 6) 0 0 mX11_foresee [.ref A, .int a1, .int x10] (sh, f8, g9, fR) (qv sh fR fun f11 g12 => Cl l G (d + 6) 0 0 mX11_delaysLeft [.ref A, .int x10] (sh, f11, g12, fR) (qi sh fR fun x15 f13 g14 => ((¬ x15 = 0 → Cl l G (d + 6) 0 0 mX11_mostAlike [.ref A, .int x15, .int (nI 2)] (sh, f13, g14, fR) (qi sh fR fun x19 f17 g18 => LpX11_tells_75 l G d Q sh fR A p f17 g18 a2 x10 x15 (nI 2) x19 (nI 3))) ∧ (x15 = 0 → Q (some (.int (-1))) (sh, f13, g14, fR))))))) ∧ (¬ (f1 (A + 40) 8) < (nI 999) → Q (some (.int (-1))) (sh, f1, g2, fR))))))))))) :
    Cl l G (d + 7) 0 0 mX11_tells [.ref A, .int a1, .int a2] (sh, f, g, fR) Q := by
  refine Cl.of (L0 := [some (.ref A), some (.int a1), some (.int a2), none, none, none, none, none, none]) miX11_tells rfl rfl ?_
  refine S_aload_n (pc := 0) dX11_tells_0 rfl rfl ?_
  refine S_iload_n (pc := 1) dX11_tells_1 rfl rfl ?_
  refine S_callV (As := [.int a1]) (mc := 0) (ms := 0) (pc := 2) dX11_tells_2 miX11_isPath mvX11_isPath mlX11_175 rfl (sA_0 hs) rfl rfl rfl (RmOK.of rfl) H ?_
  rintro _ _ ⟨x3, f1, g2, rfl, rfl, H⟩
  show WP _ _ _ _ _ _ _ 5 [some (.ref A), some (.int a1), some (.int a2), none, none, none, none, none, none] [.int x3] (sh, f1, g2, fR)
  refine S_if_eq (pc := 5) (tgt := 30) dX11_tells_5 rfl (fun hc4 => ?_) (fun hc4 => ?_)
  · replace H := H.1 hc4
    refine S_iconst (pc := 30) dX11_tells_30 icm1 ?_
    exact S_ireturn dX11_tells_31 rfl H
  · replace H := H.2 hc4
    refine S_iload_n (pc := 8) dX11_tells_8 rfl rfl ?_
    refine S_if_lt (pc := 9) (tgt := 30) dX11_tells_9 rfl (fun hc5 => ?_) (fun hc5 => ?_)
    · replace H := H.1 hc5
      refine S_iconst (pc := 30) dX11_tells_30 icm1 ?_
      exact S_ireturn dX11_tells_31 rfl H
    · replace H := H.2 hc5
      refine S_iload_n (pc := 12) dX11_tells_12 rfl rfl ?_
      refine S_iconst (pc := 13) dX11_tells_13 ic2 ?_
      refine S_icmp_gt (pc := 14) (tgt := 30) dX11_tells_14 rfl (fun hc6 => ?_) (fun hc6 => ?_)
      · replace H := H.1 hc6
        refine S_iconst (pc := 30) dX11_tells_30 icm1 ?_
        exact S_ireturn dX11_tells_31 rfl H
      · replace H := H.2 hc6
        refine S_aload_n (pc := 17) dX11_tells_17 rfl rfl ?_
        refine S_getR (pc := 18) dX11_tells_18 flX11_47 (sA_0 hs) rfl (rA_0_8 hs) ?_
        refine S_get (pc := 21) (v := .int (f1 (A + 40) 8)) dX11_tells_21 flX11_120 (sW_0 hs.2.2.2.1) rfl ?_
        refine S_sipush (pc := 24) dX11_tells_24 sp999 ?_
        refine S_icmp_lt (pc := 27) (tgt := 32) dX11_tells_27 rfl (fun hc7 => ?_) (fun hc7 => ?_)
        · replace H := H.1 hc7
          refine S_aload_n (pc := 32) dX11_tells_32 rfl rfl ?_
          refine S_bipush (pc := 33) dX11_tells_33 bp60 ?_
          refine S_callV (As := [.int (nI 60)]) (mc := 0) (ms := 0) (pc := 35) dX11_tells_35 miX11_ticksComing mvX11_ticksComing mlX11_296 rfl (sA_0 hs) rfl rfl rfl (RmOK.of rfl) H ?_
          rintro _ _ ⟨x10, f8, g9, rfl, rfl, H⟩
          show WP _ _ _ _ _ _ _ 38 [some (.ref A), some (.int a1), some (.int a2), none, none, none, none, none, none] [.int x10] (sh, f8, g9, fR)
          refine S_istore_n (pc := 38) (L' := [some (.ref A), some (.int a1), some (.int a2), some (.int x10), none, none, none, none, none]) dX11_tells_38 rfl (by decide) rfl ?_
          refine S_aload_n (pc := 39) dX11_tells_39 rfl rfl ?_
          refine S_iload_n (pc := 40) dX11_tells_40 rfl rfl ?_
          refine S_iload_n (pc := 41) dX11_tells_41 rfl rfl ?_
          refine S_callV (As := [.int a1, .int x10]) (mc := 0) (ms := 0) (pc := 42) dX11_tells_42 miX11_foresee mvX11_foresee mlX11_299 rfl (sA_0 hs) rfl rfl rfl (RmOK.of rfl) H ?_
          rintro _ _ ⟨f11, g12, rfl, rfl, H⟩
          show WP _ _ _ _ _ _ _ 45 [some (.ref A), some (.int a1), some (.int a2), some (.int x10), none, none, none, none, none] [] (sh, f11, g12, fR)
          refine S_aload_n (pc := 45) dX11_tells_45 rfl rfl ?_
          refine S_iload_n (pc := 46) dX11_tells_46 rfl rfl ?_
          refine S_callV (As := [.int x10]) (mc := 0) (ms := 0) (pc := 47) dX11_tells_47 miX11_delaysLeft mvX11_delaysLeft mlX11_303 rfl (sA_0 hs) rfl rfl rfl (RmOK.of rfl) H ?_
          rintro _ _ ⟨x15, f13, g14, rfl, rfl, H⟩
          show WP _ _ _ _ _ _ _ 50 [some (.ref A), some (.int a1), some (.int a2), some (.int x10), none, none, none, none, none] [.int x15] (sh, f13, g14, fR)
          refine S_istore (pc := 50) (L' := [some (.ref A), some (.int a1), some (.int a2), some (.int x10), some (.int x15), none, none, none, none]) dX11_tells_50 (by decide) rfl ?_
          refine S_iload (pc := 52) dX11_tells_52 rfl ?_
          refine S_if_ne (pc := 54) (tgt := 59) dX11_tells_54 rfl (fun hc16 => ?_) (fun hc16 => ?_)
          · replace H := H.1 hc16
            refine S_iconst (pc := 59) dX11_tells_59 ic2 ?_
            refine S_istore (pc := 60) (L' := [some (.ref A), some (.int a1), some (.int a2), some (.int x10), some (.int x15), some (.int (nI 2)), none, none, none]) dX11_tells_60 (by decide) rfl ?_
            refine S_aload_n (pc := 62) dX11_tells_62 rfl rfl ?_
            refine S_iload (pc := 63) dX11_tells_63 rfl ?_
            refine S_iload (pc := 65) dX11_tells_65 rfl ?_
            refine S_callV (As := [.int x15, .int (nI 2)]) (mc := 0) (ms := 0) (pc := 67) dX11_tells_67 miX11_mostAlike mvX11_mostAlike mlX11_318 rfl (sA_0 hs) rfl rfl rfl (RmOK.of rfl) H ?_
            rintro _ _ ⟨x19, f17, g18, rfl, rfl, H⟩
            show WP _ _ _ _ _ _ _ 70 [some (.ref A), some (.int a1), some (.int a2), some (.int x10), some (.int x15), some (.int (nI 2)), none, none, none] [.int x19] (sh, f17, g18, fR)
            refine S_istore (pc := 70) (L' := [some (.ref A), some (.int a1), some (.int a2), some (.int x10), some (.int x15), some (.int (nI 2)), some (.int x19), none, none]) dX11_tells_70 (by decide) rfl ?_
            refine S_iconst (pc := 72) dX11_tells_72 ic3 ?_
            refine S_istore (pc := 73) (L' := [some (.ref A), some (.int a1), some (.int a2), some (.int x10), some (.int x15), some (.int (nI 2)), some (.int x19), some (.int (nI 3)), none]) dX11_tells_73 (by decide) rfl ?_
            exact S_weak (L' := [some (.ref A), none, some (.int a2), some (.int x10), some (.int x15), some (.int (nI 2)), some (.int x19), some (.int (nI 3)), none]) (ls_e (ls_n (ls_e (ls_e (ls_e (ls_e (ls_e (ls_e (ls_e ls_0))))))))) H
          · replace H := H.2 hc16
            refine S_iconst (pc := 57) dX11_tells_57 icm1 ?_
            exact S_ireturn dX11_tells_58 rfl H
        · replace H := H.2 hc7
          refine S_iconst (pc := 30) dX11_tells_30 icm1 ?_
          exact S_ireturn dX11_tells_31 rfl H
set_option maxHeartbeats 2000000 in
set_option maxRecDepth 4000 in
theorem VX11_tells_75 {l : Launch} {G : Gx} {d : Nat} {Q : Option Value → Hp → Prop} {sh : Sh} {fR : FRt} {A p : Nat} {f : FI} {g : FL} {a2 : Int32} {a3 : Int32} {a4 : Int32} {a5 : Int32} {a6 : Int32} {a7 : Int32} (hs : StA sh fR A) (hp : fR A 5 = some p) (hn : fR (A + 40) 7 = some p) (hP : StPl sh fR p)
    (H : ((((nI 2) * (a3 + (nI 1))) ≤ a7 → ((a2 = nI 0 → Q (some (.int (a5 / (nI 2)))) (sh, f, g, fR)) ∧ (a2 = nI 1 → Q (some (.int (a5 - a5 / (nI 2) * (nI 2)))) (sh, f, g, fR)) ∧ ((¬ a2 = nI 0 ∧ ¬ a2 = nI 1) → Q (some (.int a6)) (sh, f, g, fR)))) ∧ (¬ ((nI 2) * (a3 + (nI 1))) ≤ a7 → Cl l G (d + 6) 0 0 mX11_mostAlike [.ref A, .int a4, .int a7] (sh, f, g, fR) (qi sh fR fun x25 f23 g24 => ((a6 ≤ x25 → LpX11_tells_110 l G d Q sh fR A p f23 g24 a2 a3 a4 a5 a6 a7) ∧ (¬ a6 ≤ x25 → LpX11_tells_110 l G d Q sh fR A p f23 g24 a2 a3 a4 a7 x25 a7)))))) :
    LpX11_tells_75 l G d Q sh fR A p f g a2 a3 a4 a5 a6 a7 := by
  refine S_iload (pc := 75) dX11_tells_75 rfl ?_
  refine S_iconst (pc := 77) dX11_tells_77 ic2 ?_
  refine S_iload_n (pc := 78) dX11_tells_78 rfl rfl ?_
  refine S_iconst (pc := 79) dX11_tells_79 ic1 ?_
  refine S_iadd (pc := 80) dX11_tells_80 ?_
  refine S_imul (pc := 81) dX11_tells_81 ?_
  refine S_icmp_ge (pc := 82) (tgt := 116) dX11_tells_82 rfl (fun hc20 => ?_) (fun hc20 => ?_)
  · replace H := H.1 hc20
    refine S_iload_n (pc := 116) dX11_tells_116 rfl rfl ?_
    by_cases hc21 : a2 = nI 0
    · replace H := H.1 hc21
      refine S_lsw (pc := 117) (tgt := 144) dX11_tells_117 (by decide) (off := 27) (by rw [hc21]; decide) rfl ?_
      refine S_iload (pc := 144) dX11_tells_144 rfl ?_
      refine S_iconst (pc := 146) dX11_tells_146 ic2 ?_
      refine S_idiv (pc := 147) dX11_tells_147 (by decide) ?_
      exact S_ireturn dX11_tells_148 rfl H
    · by_cases hc22 : a2 = nI 1
      · replace H := H.2.1 hc22
        refine S_lsw (pc := 117) (tgt := 149) dX11_tells_117 (by decide) (off := 32) (by rw [hc22]; decide) rfl ?_
        refine S_iload (pc := 149) dX11_tells_149 rfl ?_
        refine S_iconst (pc := 151) dX11_tells_151 ic2 ?_
        refine S_irem (pc := 152) dX11_tells_152 (by decide) ?_
        exact S_ireturn dX11_tells_153 rfl H
      · replace H := H.2.2 ⟨hc21, hc22⟩
        refine S_lsw (pc := 117) (tgt := 154) dX11_tells_117 (by decide) (off := 37) ((lv_osw hc21 (by decide)).trans ((lv_osw hc22 (by decide)).trans (rfl))) rfl ?_
        refine S_iload (pc := 154) dX11_tells_154 rfl ?_
        exact S_ireturn dX11_tells_156 rfl H
  · replace H := H.2 hc20
    refine S_aload_n (pc := 85) dX11_tells_85 rfl rfl ?_
    refine S_iload (pc := 86) dX11_tells_86 rfl ?_
    refine S_iload (pc := 88) dX11_tells_88 rfl ?_
    refine S_callV (As := [.int a4, .int a7]) (mc := 0) (ms := 0) (pc := 90) dX11_tells_90 miX11_mostAlike mvX11_mostAlike mlX11_318 rfl (sA_0 hs) rfl rfl rfl (RmOK.of rfl) H ?_
    rintro _ _ ⟨x25, f23, g24, rfl, rfl, H⟩
    show WP _ _ _ _ _ _ _ 93 [some (.ref A), none, some (.int a2), some (.int a3), some (.int a4), some (.int a5), some (.int a6), some (.int a7), none] [.int x25] (sh, f23, g24, fR)
    refine S_istore (pc := 93) (L' := [some (.ref A), none, some (.int a2), some (.int a3), some (.int a4), some (.int a5), some (.int a6), some (.int a7), some (.int x25)]) dX11_tells_93 (by decide) rfl ?_
    refine S_iload (pc := 95) dX11_tells_95 rfl ?_
    refine S_iload (pc := 97) dX11_tells_97 rfl ?_
    refine S_icmp_ge (pc := 99) (tgt := 110) dX11_tells_99 rfl (fun hc26 => ?_) (fun hc26 => ?_)
    · replace H := H.1 hc26
      exact S_weak (L' := [some (.ref A), none, some (.int a2), some (.int a3), some (.int a4), some (.int a5), some (.int a6), some (.int a7), none]) (ls_e (ls_e (ls_e (ls_e (ls_e (ls_e (ls_e (ls_e (ls_n ls_0))))))))) H
    · replace H := H.2 hc26
      refine S_iload (pc := 102) dX11_tells_102 rfl ?_
      refine S_istore (pc := 104) (L' := [some (.ref A), none, some (.int a2), some (.int a3), some (.int a4), some (.int a5), some (.int x25), some (.int a7), some (.int x25)]) dX11_tells_104 (by decide) rfl ?_
      refine S_iload (pc := 106) dX11_tells_106 rfl ?_
      refine S_istore (pc := 108) (L' := [some (.ref A), none, some (.int a2), some (.int a3), some (.int a4), some (.int a7), some (.int x25), some (.int a7), some (.int x25)]) dX11_tells_108 (by decide) rfl ?_
      exact S_weak (L' := [some (.ref A), none, some (.int a2), some (.int a3), some (.int a4), some (.int a7), some (.int x25), some (.int a7), none]) (ls_e (ls_e (ls_e (ls_e (ls_e (ls_e (ls_e (ls_e (ls_n ls_0))))))))) H
set_option maxHeartbeats 2000000 in
set_option maxRecDepth 4000 in
theorem VX11_tells_110 {l : Launch} {G : Gx} {d : Nat} {Q : Option Value → Hp → Prop} {sh : Sh} {fR : FRt} {A p : Nat} {f : FI} {g : FL} {a2 : Int32} {a3 : Int32} {a4 : Int32} {a5 : Int32} {a6 : Int32} {a7 : Int32} (hs : StA sh fR A) (hp : fR A 5 = some p) (hn : fR (A + 40) 7 = some p) (hP : StPl sh fR p)
    (H : LpX11_tells_75 l G d Q sh fR A p f g a2 a3 a4 a5 a6 (a7 + nI 1)) :
    LpX11_tells_110 l G d Q sh fR A p f g a2 a3 a4 a5 a6 a7 := by
  refine S_iinc (pc := 110) (v := nI 1) (L' := [some (.ref A), none, some (.int a2), some (.int a3), some (.int a4), some (.int a5), some (.int a6), some (.int (a7 + nI 1)), none]) dX11_tells_110 rfl ic1 rfl ?_
  refine S_goto (pc := 113) (tgt := 75) dX11_tells_113 rfl ?_
  exact H
abbrev LpX11_mostAlike_5 (l : Launch) (G : Gx) (d : Nat) (Q : Option Value → Hp → Prop) (sh : Sh) (fR : FRt) (A p : Nat) (f : FI) (g : FL) (a1 : Int32) (a2 : Int32) (a3 : Int32) (a4 : Int32) : Prop := WP l G (Zq G 0 0 Q) mX11_mostAlike (rmd (d + 1) 0 0) 0 0 5 [some (.ref A), some (.int a1), some (.int a2), some (.int a3), some (.int a4), none, none, none] [] (sh, f, g, fR)
abbrev LpX11_mostAlike_18 (l : Launch) (G : Gx) (d : Nat) (Q : Option Value → Hp → Prop) (sh : Sh) (fR : FRt) (A p : Nat) (f : FI) (g : FL) (a1 : Int32) (a2 : Int32) (a3 : Int32) (a4 : Int32) (a5 : Int32) (a6 : Int32) : Prop := WP l G (Zq G 0 0 Q) mX11_mostAlike (rmd (d + 1) 0 0) 0 0 18 [some (.ref A), some (.int a1), some (.int a2), some (.int a3), some (.int a4), some (.int a5), some (.int a6), none] [] (sh, f, g, fR)
abbrev LpX11_mostAlike_76 (l : Launch) (G : Gx) (d : Nat) (Q : Option Value → Hp → Prop) (sh : Sh) (fR : FRt) (A p : Nat) (f : FI) (g : FL) (a1 : Int32) (a2 : Int32) (a3 : Int32) (a4 : Int32) (a5 : Int32) (a6 : Int32) : Prop := WP l G (Zq G 0 0 Q) mX11_mostAlike (rmd (d + 1) 0 0) 0 0 76 [some (.ref A), some (.int a1), some (.int a2), some (.int a3), some (.int a4), some (.int a5), some (.int a6), none] [] (sh, f, g, fR)
set_option maxHeartbeats 2000000 in
set_option maxRecDepth 4000 in
theorem VX11_mostAlike {l : Launch} {G : Gx} {d : Nat} {Q : Option Value → Hp → Prop} {sh : Sh} {fR : FRt} {A p : Nat} {f : FI} {g : FL} {a1 : Int32} {a2 : Int32} (hs : StA sh fR A) (hp : fR A 5 = some p) (hn : fR (A + 40) 7 = some p) (hP : StPl sh fR p)
    (H : LpX11_mostAlike_5 l G d Q sh fR A p f g a1 a2 (nI 0) (nI 1)) :
    Cl l G (d + 1) 0 0 mX11_mostAlike [.ref A, .int a1, .int a2] (sh, f, g, fR) Q := by
  refine Cl.of (L0 := [some (.ref A), some (.int a1), some (.int a2), none, none, none, none, none]) miX11_mostAlike rfl rfl ?_
  refine S_iconst (pc := 0) dX11_mostAlike_0 ic0 ?_
  refine S_istore_n (pc := 1) (L' := [some (.ref A), some (.int a1), some (.int a2), some (.int (nI 0)), none, none, none, none]) dX11_mostAlike_1 rfl (by decide) rfl ?_
  refine S_iconst (pc := 2) dX11_mostAlike_2 ic1 ?_
  refine S_istore (pc := 3) (L' := [some (.ref A), some (.int a1), some (.int a2), some (.int (nI 0)), some (.int (nI 1)), none, none, none]) dX11_mostAlike_3 (by decide) rfl ?_
  exact H
set_option maxHeartbeats 2000000 in
set_option maxRecDepth 4000 in
theorem VX11_mostAlike_5 {l : Launch} {G : Gx} {d : Nat} {Q : Option Value → Hp → Prop} {sh : Sh} {fR : FRt} {A p : Nat} {f : FI} {g : FL} {a1 : Int32} {a2 : Int32} {a3 : Int32} {a4 : Int32} (hs : StA sh fR A) (hp : fR A 5 = some p) (hn : fR (A + 40) 7 = some p) (hP : StPl sh fR p)
    (H : (((nI 9) < a4 → Q (some (.int a3)) (sh, f, g, fR)) ∧ (¬ (nI 9) < a4 → LpX11_mostAlike_18 l G d Q sh fR A p f g a1 a2 a3 a4 (nI 0) (nI 1)))) :
    LpX11_mostAlike_5 l G d Q sh fR A p f g a1 a2 a3 a4 := by
  refine S_iload (pc := 5) dX11_mostAlike_5 rfl ?_
  refine S_bipush (pc := 7) dX11_mostAlike_7 bp9 ?_
  refine S_icmp_gt (pc := 9) (tgt := 95) dX11_mostAlike_9 rfl (fun hc1 => ?_) (fun hc1 => ?_)
  · replace H := H.1 hc1
    refine S_iload_n (pc := 95) dX11_mostAlike_95 rfl rfl ?_
    exact S_ireturn dX11_mostAlike_96 rfl H
  · replace H := H.2 hc1
    refine S_iconst (pc := 12) dX11_mostAlike_12 ic0 ?_
    refine S_istore (pc := 13) (L' := [some (.ref A), some (.int a1), some (.int a2), some (.int a3), some (.int a4), some (.int (nI 0)), none, none]) dX11_mostAlike_13 (by decide) rfl ?_
    refine S_iconst (pc := 15) dX11_mostAlike_15 ic1 ?_
    refine S_istore (pc := 16) (L' := [some (.ref A), some (.int a1), some (.int a2), some (.int a3), some (.int a4), some (.int (nI 0)), some (.int (nI 1)), none]) dX11_mostAlike_16 (by decide) rfl ?_
    exact H
set_option maxHeartbeats 2000000 in
set_option maxRecDepth 4000 in
theorem VX11_mostAlike_18 {l : Launch} {G : Gx} {d : Nat} {Q : Option Value → Hp → Prop} {sh : Sh} {fR : FRt} {A p : Nat} {f : FI} {g : FL} {a1 : Int32} {a2 : Int32} {a3 : Int32} {a4 : Int32} {a5 : Int32} {a6 : Int32} (hs : StA sh fR A) (hp : fR A 5 = some p) (hn : fR (A + 40) 7 = some p) (hP : StPl sh fR p)
    (H : (((nI 9) < a6 → Cl l G d 0 0 mJ_max [.int a3, .int a5] (sh, f, g, fR) (qi sh fR fun x5 f3 g4 => LpX11_mostAlike_5 l G d Q sh fR A p f3 g4 a1 a2 x5 (a4 + nI 1))) ∧ (¬ (nI 9) < a6 → ((¬ (((a1 >>> (a4 &&& 31)) &&& (a1 >>> (a6 &&& 31))) &&& (nI 1)) = (nI 1) → LpX11_mostAlike_76 l G d Q sh fR A p f g a1 a2 a3 a4 a5 a6) ∧ ((((a1 >>> (a4 &&& 31)) &&& (a1 >>> (a6 &&& 31))) &&& (nI 1)) = (nI 1) → inb a4 10 ∧ (∃ r10, fR (A + 106) a4.toNatClampNeg = some r10 ∧ sh[r10]? = some (20, 122) ∧ 0 < r10 ∧ inb a2 122 ∧ inb a6 10 ∧ (∃ r16, fR (A + 106) a6.toNatClampNeg = some r16 ∧ sh[r16]? = some (20, 122) ∧ 0 < r16 ∧ inb a2 122 ∧ ((¬ (f r10 a2.toNatClampNeg) = (f r16 a2.toNatClampNeg) → LpX11_mostAlike_76 l G d Q sh fR A p f g a1 a2 a3 a4 a5 a6) ∧ ((f r10 a2.toNatClampNeg) = (f r16 a2.toNatClampNeg) → LpX11_mostAlike_76 l G d Q sh fR A p f g a1 a2 a3 a4 (a5 + nI 1) a6))))))))) :
    LpX11_mostAlike_18 l G d Q sh fR A p f g a1 a2 a3 a4 a5 a6 := by
  refine S_iload (pc := 18) dX11_mostAlike_18 rfl ?_
  refine S_bipush (pc := 20) dX11_mostAlike_20 bp9 ?_
  refine S_icmp_gt (pc := 22) (tgt := 82) dX11_mostAlike_22 rfl (fun hc2 => ?_) (fun hc2 => ?_)
  · replace H := H.1 hc2
    refine S_iload_n (pc := 82) dX11_mostAlike_82 rfl rfl ?_
    refine S_iload (pc := 83) dX11_mostAlike_83 rfl ?_
    refine S_callSJ (As := [.int a3, .int a5]) (mc := 0) (ms := 0) (pc := 85) dX11_mostAlike_85 miJ_max mvJ_max mlX11_311 rfl rfl (RmOK.of rfl) H ?_
    rintro _ _ ⟨x5, f3, g4, rfl, rfl, H⟩
    show WP _ _ _ _ _ _ _ 88 [some (.ref A), some (.int a1), some (.int a2), some (.int a3), some (.int a4), some (.int a5), some (.int a6), none] [.int x5] (sh, f3, g4, fR)
    refine S_istore_n (pc := 88) (L' := [some (.ref A), some (.int a1), some (.int a2), some (.int x5), some (.int a4), some (.int a5), some (.int a6), none]) dX11_mostAlike_88 rfl (by decide) rfl ?_
    refine S_iinc (pc := 89) (v := nI 1) (L' := [some (.ref A), some (.int a1), some (.int a2), some (.int x5), some (.int (a4 + nI 1)), some (.int a5), some (.int a6), none]) dX11_mostAlike_89 rfl ic1 rfl ?_
    refine S_goto (pc := 92) (tgt := 5) dX11_mostAlike_92 rfl ?_
    exact S_weak (L' := [some (.ref A), some (.int a1), some (.int a2), some (.int x5), some (.int (a4 + nI 1)), none, none, none]) (ls_e (ls_e (ls_e (ls_e (ls_e (ls_n (ls_n (ls_e ls_0)))))))) H
  · replace H := H.2 hc2
    refine S_iload_n (pc := 25) dX11_mostAlike_25 rfl rfl ?_
    refine S_iload (pc := 26) dX11_mostAlike_26 rfl ?_
    refine S_ishr (pc := 28) dX11_mostAlike_28 ?_
    refine S_iload_n (pc := 29) dX11_mostAlike_29 rfl rfl ?_
    refine S_iload (pc := 30) dX11_mostAlike_30 rfl ?_
    refine S_ishr (pc := 32) dX11_mostAlike_32 ?_
    refine S_iand (pc := 33) dX11_mostAlike_33 ?_
    refine S_iconst (pc := 34) dX11_mostAlike_34 ic1 ?_
    refine S_iand (pc := 35) dX11_mostAlike_35 ?_
    refine S_iconst (pc := 36) dX11_mostAlike_36 ic1 ?_
    refine S_icmp_ne (pc := 37) (tgt := 44) dX11_mostAlike_37 rfl (fun hc6 => ?_) (fun hc6 => ?_)
    · replace H := H.1 hc6
      refine S_iconst (pc := 44) dX11_mostAlike_44 ic0 ?_
      refine S_istore (pc := 45) (L' := [some (.ref A), some (.int a1), some (.int a2), some (.int a3), some (.int a4), some (.int a5), some (.int a6), some (.int (nI 0))]) dX11_mostAlike_45 (by decide) rfl ?_
      refine S_iload (pc := 47) dX11_mostAlike_47 rfl ?_
      refine S_if_eq (pc := 49) (tgt := 76) dX11_mostAlike_49 rfl (fun _ => ?_) (fun hc7 => by first | exact absurd (by decide) hc7 | exact absurd hc7 (by decide))
      exact S_weak (L' := [some (.ref A), some (.int a1), some (.int a2), some (.int a3), some (.int a4), some (.int a5), some (.int a6), none]) (ls_e (ls_e (ls_e (ls_e (ls_e (ls_e (ls_e (ls_n ls_0)))))))) H
    · replace H := H.2 hc6
      refine S_iconst (pc := 40) dX11_mostAlike_40 ic1 ?_
      refine S_goto (pc := 41) (tgt := 45) dX11_mostAlike_41 rfl ?_
      refine S_istore (pc := 45) (L' := [some (.ref A), some (.int a1), some (.int a2), some (.int a3), some (.int a4), some (.int a5), some (.int a6), some (.int (nI 1))]) dX11_mostAlike_45 (by decide) rfl ?_
      refine S_iload (pc := 47) dX11_mostAlike_47 rfl ?_
      refine S_if_eq (pc := 49) (tgt := 76) dX11_mostAlike_49 rfl (fun hc8 => by first | exact absurd hc8 (by decide) | exact absurd (by decide) hc8) (fun _ => ?_)
      refine S_aload_n (pc := 52) dX11_mostAlike_52 rfl rfl ?_
      refine S_getR (pc := 53) dX11_mostAlike_53 flX11_63 (sA_0 hs) rfl (rA_0_15 hs) ?_
      refine S_iload (pc := 56) dX11_mostAlike_56 rfl ?_
      obtain ⟨hb9, H⟩ := H
      obtain ⟨r10, e11, s12, p13, H⟩ := H
      refine S_aald26 (pc := 58) dX11_mostAlike_58 (sA_106 hs) hb9 e11 ?_
      refine S_iload_n (pc := 59) dX11_mostAlike_59 rfl rfl ?_
      obtain ⟨hb14, H⟩ := H
      refine S_iald (pc := 60) dX11_mostAlike_60 s12 hb14 ?_
      refine S_aload_n (pc := 61) dX11_mostAlike_61 rfl rfl ?_
      refine S_getR (pc := 62) dX11_mostAlike_62 flX11_63 (sA_0 hs) rfl (rA_0_15 hs) ?_
      refine S_iload (pc := 65) dX11_mostAlike_65 rfl ?_
      obtain ⟨hb15, H⟩ := H
      obtain ⟨r16, e17, s18, p19, H⟩ := H
      refine S_aald26 (pc := 67) dX11_mostAlike_67 (sA_106 hs) hb15 e17 ?_
      refine S_iload_n (pc := 68) dX11_mostAlike_68 rfl rfl ?_
      obtain ⟨hb20, H⟩ := H
      refine S_iald (pc := 69) dX11_mostAlike_69 s18 hb20 ?_
      refine S_icmp_ne (pc := 70) (tgt := 76) dX11_mostAlike_70 rfl (fun hc21 => ?_) (fun hc21 => ?_)
      · replace H := H.1 hc21
        exact S_weak (L' := [some (.ref A), some (.int a1), some (.int a2), some (.int a3), some (.int a4), some (.int a5), some (.int a6), none]) (ls_e (ls_e (ls_e (ls_e (ls_e (ls_e (ls_e (ls_n ls_0)))))))) H
      · replace H := H.2 hc21
        refine S_iinc (pc := 73) (v := nI 1) (L' := [some (.ref A), some (.int a1), some (.int a2), some (.int a3), some (.int a4), some (.int (a5 + nI 1)), some (.int a6), some (.int (nI 1))]) dX11_mostAlike_73 rfl ic1 rfl ?_
        exact S_weak (L' := [some (.ref A), some (.int a1), some (.int a2), some (.int a3), some (.int a4), some (.int (a5 + nI 1)), some (.int a6), none]) (ls_e (ls_e (ls_e (ls_e (ls_e (ls_e (ls_e (ls_n ls_0)))))))) H
set_option maxHeartbeats 2000000 in
set_option maxRecDepth 4000 in
theorem VX11_mostAlike_76 {l : Launch} {G : Gx} {d : Nat} {Q : Option Value → Hp → Prop} {sh : Sh} {fR : FRt} {A p : Nat} {f : FI} {g : FL} {a1 : Int32} {a2 : Int32} {a3 : Int32} {a4 : Int32} {a5 : Int32} {a6 : Int32} (hs : StA sh fR A) (hp : fR A 5 = some p) (hn : fR (A + 40) 7 = some p) (hP : StPl sh fR p)
    (H : LpX11_mostAlike_18 l G d Q sh fR A p f g a1 a2 a3 a4 a5 (a6 + nI 1)) :
    LpX11_mostAlike_76 l G d Q sh fR A p f g a1 a2 a3 a4 a5 a6 := by
  refine S_iinc (pc := 76) (v := nI 1) (L' := [some (.ref A), some (.int a1), some (.int a2), some (.int a3), some (.int a4), some (.int a5), some (.int (a6 + nI 1)), none]) dX11_mostAlike_76 rfl ic1 rfl ?_
  refine S_goto (pc := 79) (tgt := 18) dX11_mostAlike_79 rfl ?_
  exact H
abbrev LpX11_ticks_33 (l : Launch) (G : Gx) (d : Nat) (Q : Option Value → Hp → Prop) (sh : Sh) (fR : FRt) (A p : Nat) (f : FI) (g : FL) (a1 : Int32) (a2 : Int32) (a3 : Int32) : Prop := WP l G (Zq G 0 0 Q) mX11_ticks (rmd (d + 6) 0 0) 0 0 33 [some (.ref A), some (.int a1), some (.int a2), some (.int a3)] [] (sh, f, g, fR)
set_option maxHeartbeats 2000000 in
set_option maxRecDepth 4000 in
theorem VX11_ticks {l : Launch} {G : Gx} {d : Nat} {Q : Option Value → Hp → Prop} {sh : Sh} {fR : FRt} {A p : Nat} {f : FI} {g : FL} {a1 : Int32} (hs : StA sh fR A) (hp : fR A 5 = some p) (hn : fR (A + 40) 7 = some p) (hP : StPl sh fR p)
    (H : ((a1 < (nI 1) → Q (some (.int (-1))) (sh, (up2 f (A + 2) 2 ((f (A + 2) 2) + (nI 1))), g, fR)) ∧ (¬ a1 < (nI 1) → (((nI 100) < a1 → Q (some (.int (-1))) (sh, (up2 f (A + 2) 2 ((f (A + 2) 2) + (nI 1))), g, fR)) ∧ (¬ (nI 100) < a1 → Cl l G (d + 5) 0 0 mX11_canGo [.ref A, .int a1] (sh, f, g, fR) (qi sh fR fun x5 f3 g4 => ((¬ x5 = 0 → Cl l G (d + 5) 0 0 mX11_beginAct [.ref A] (sh, f3, g4, fR) (qv sh fR fun f7 g8 => LpX11_ticks_33 l G d Q sh fR A p f7 g8 a1 (nI 0) (nI 0))) ∧ (x5 = 0 → Q (some (.int (-1))) (sh, (up2 f3 (A + 2) 2 ((f3 (A + 2) 2) + (nI 1))), g4, fR))))))))) :
    Cl l G (d + 6) 0 0 mX11_ticks [.ref A, .int a1] (sh, f, g, fR) Q := by
  refine Cl.of (L0 := [some (.ref A), some (.int a1), none, none]) miX11_ticks rfl rfl ?_
  refine S_iload_n (pc := 0) dX11_ticks_0 rfl rfl ?_
  refine S_iconst (pc := 1) dX11_ticks_1 ic1 ?_
  refine S_icmp_lt (pc := 2) (tgt := 19) dX11_ticks_2 rfl (fun hc1 => ?_) (fun hc1 => ?_)
  · replace H := H.1 hc1
    refine S_aload_n (pc := 19) dX11_ticks_19 rfl rfl ?_
    refine S_iconst (pc := 20) dX11_ticks_20 ic2 ?_
    refine S_callV (As := [.int (nI 2)]) (mc := 0) (ms := 0) (pc := 21) dX11_ticks_21 miX11_refuse mvX11_refuse mlX11_70 rfl (sA_0 hs) rfl rfl rfl (RmOK.of rfl) (Q := fun r h => WP _ _ _ _ _ _ _ 24 [some (.ref A), some (.int a1), none, none] (r.toList ++ []) h) (Cl.of miX11_refuse rfl rfl ?_) (fun _ _ q => q)
    refine S_aload_n (pc := 0) dX11_refuse_0 rfl rfl ?_
    refine S_getR (pc := 1) dX11_refuse_1 flX11_13 (sA_0 hs) rfl (rA_0_2 hs) ?_
    refine S_iload_n (pc := 4) dX11_refuse_4 rfl rfl ?_
    refine S_dup2 (pc := 5) dX11_refuse_5 rfl rfl ?_
    refine S_iald (pc := 6) dX11_refuse_6 (sA_2 hs) (vp_in_nI (by decide) (by decide)) ?_
    show WP _ _ _ _ _ _ _ 7 _ (.int (f (A + 2) 2) :: _) _
    refine S_iconst (pc := 7) dX11_refuse_7 ic1 ?_
    refine S_iadd (pc := 8) dX11_refuse_8 ?_
    refine S_iast (pc := 9) dX11_refuse_9 (sA_2 hs) (Nat.succ_pos _) (vp_in_nI (by decide) (by decide)) ?_
    show WP _ _ _ _ _ _ _ 10 _ _ (sh, (up2 f (A + 2) 2 ((f (A + 2) 2) + (nI 1))), g, fR)
    refine S_iconst (pc := 10) dX11_refuse_10 icm1 ?_
    refine S_ireturn dX11_refuse_11 rfl ?_
    show WP _ _ _ _ _ _ _ 24 [some (.ref A), some (.int a1), none, none] [.int (-1)] (sh, (up2 f (A + 2) 2 ((f (A + 2) 2) + (nI 1))), g, fR)
    exact S_ireturn dX11_ticks_24 rfl H
  · replace H := H.2 hc1
    refine S_iload_n (pc := 5) dX11_ticks_5 rfl rfl ?_
    refine S_bipush (pc := 6) dX11_ticks_6 bp100 ?_
    refine S_icmp_gt (pc := 8) (tgt := 19) dX11_ticks_8 rfl (fun hc2 => ?_) (fun hc2 => ?_)
    · replace H := H.1 hc2
      refine S_aload_n (pc := 19) dX11_ticks_19 rfl rfl ?_
      refine S_iconst (pc := 20) dX11_ticks_20 ic2 ?_
      refine S_callV (As := [.int (nI 2)]) (mc := 0) (ms := 0) (pc := 21) dX11_ticks_21 miX11_refuse mvX11_refuse mlX11_70 rfl (sA_0 hs) rfl rfl rfl (RmOK.of rfl) (Q := fun r h => WP _ _ _ _ _ _ _ 24 [some (.ref A), some (.int a1), none, none] (r.toList ++ []) h) (Cl.of miX11_refuse rfl rfl ?_) (fun _ _ q => q)
      refine S_aload_n (pc := 0) dX11_refuse_0 rfl rfl ?_
      refine S_getR (pc := 1) dX11_refuse_1 flX11_13 (sA_0 hs) rfl (rA_0_2 hs) ?_
      refine S_iload_n (pc := 4) dX11_refuse_4 rfl rfl ?_
      refine S_dup2 (pc := 5) dX11_refuse_5 rfl rfl ?_
      refine S_iald (pc := 6) dX11_refuse_6 (sA_2 hs) (vp_in_nI (by decide) (by decide)) ?_
      show WP _ _ _ _ _ _ _ 7 _ (.int (f (A + 2) 2) :: _) _
      refine S_iconst (pc := 7) dX11_refuse_7 ic1 ?_
      refine S_iadd (pc := 8) dX11_refuse_8 ?_
      refine S_iast (pc := 9) dX11_refuse_9 (sA_2 hs) (Nat.succ_pos _) (vp_in_nI (by decide) (by decide)) ?_
      show WP _ _ _ _ _ _ _ 10 _ _ (sh, (up2 f (A + 2) 2 ((f (A + 2) 2) + (nI 1))), g, fR)
      refine S_iconst (pc := 10) dX11_refuse_10 icm1 ?_
      refine S_ireturn dX11_refuse_11 rfl ?_
      show WP _ _ _ _ _ _ _ 24 [some (.ref A), some (.int a1), none, none] [.int (-1)] (sh, (up2 f (A + 2) 2 ((f (A + 2) 2) + (nI 1))), g, fR)
      exact S_ireturn dX11_ticks_24 rfl H
    · replace H := H.2 hc2
      refine S_aload_n (pc := 11) dX11_ticks_11 rfl rfl ?_
      refine S_iload_n (pc := 12) dX11_ticks_12 rfl rfl ?_
      refine S_callV (As := [.int a1]) (mc := 0) (ms := 0) (pc := 13) dX11_ticks_13 miX11_canGo mvX11_canGo mlX11_248 rfl (sA_0 hs) rfl rfl rfl (RmOK.of rfl) H ?_
      rintro _ _ ⟨x5, f3, g4, rfl, rfl, H⟩
      show WP _ _ _ _ _ _ _ 16 [some (.ref A), some (.int a1), none, none] [.int x5] (sh, f3, g4, fR)
      refine S_if_ne (pc := 16) (tgt := 25) dX11_ticks_16 rfl (fun hc6 => ?_) (fun hc6 => ?_)
      · replace H := H.1 hc6
        refine S_aload_n (pc := 25) dX11_ticks_25 rfl rfl ?_
        refine S_callV (As := []) (mc := 0) (ms := 0) (pc := 26) dX11_ticks_26 miX11_beginAct mvX11_beginAct mlX11_321 rfl (sA_0 hs) rfl rfl rfl (RmOK.of rfl) H ?_
        rintro _ _ ⟨f7, g8, rfl, rfl, H⟩
        show WP _ _ _ _ _ _ _ 29 [some (.ref A), some (.int a1), none, none] [] (sh, f7, g8, fR)
        refine S_iconst (pc := 29) dX11_ticks_29 ic0 ?_
        refine S_istore_n (pc := 30) (L' := [some (.ref A), some (.int a1), some (.int (nI 0)), none]) dX11_ticks_30 rfl (by decide) rfl ?_
        refine S_iconst (pc := 31) dX11_ticks_31 ic0 ?_
        refine S_istore_n (pc := 32) (L' := [some (.ref A), some (.int a1), some (.int (nI 0)), some (.int (nI 0))]) dX11_ticks_32 rfl (by decide) rfl ?_
        exact H
      · replace H := H.2 hc6
        refine S_aload_n (pc := 19) dX11_ticks_19 rfl rfl ?_
        refine S_iconst (pc := 20) dX11_ticks_20 ic2 ?_
        refine S_callV (As := [.int (nI 2)]) (mc := 0) (ms := 0) (pc := 21) dX11_ticks_21 miX11_refuse mvX11_refuse mlX11_70 rfl (sA_0 hs) rfl rfl rfl (RmOK.of rfl) (Q := fun r h => WP _ _ _ _ _ _ _ 24 [some (.ref A), some (.int a1), none, none] (r.toList ++ []) h) (Cl.of miX11_refuse rfl rfl ?_) (fun _ _ q => q)
        refine S_aload_n (pc := 0) dX11_refuse_0 rfl rfl ?_
        refine S_getR (pc := 1) dX11_refuse_1 flX11_13 (sA_0 hs) rfl (rA_0_2 hs) ?_
        refine S_iload_n (pc := 4) dX11_refuse_4 rfl rfl ?_
        refine S_dup2 (pc := 5) dX11_refuse_5 rfl rfl ?_
        refine S_iald (pc := 6) dX11_refuse_6 (sA_2 hs) (vp_in_nI (by decide) (by decide)) ?_
        show WP _ _ _ _ _ _ _ 7 _ (.int (f3 (A + 2) 2) :: _) _
        refine S_iconst (pc := 7) dX11_refuse_7 ic1 ?_
        refine S_iadd (pc := 8) dX11_refuse_8 ?_
        refine S_iast (pc := 9) dX11_refuse_9 (sA_2 hs) (Nat.succ_pos _) (vp_in_nI (by decide) (by decide)) ?_
        show WP _ _ _ _ _ _ _ 10 _ _ (sh, (up2 f3 (A + 2) 2 ((f3 (A + 2) 2) + (nI 1))), g4, fR)
        refine S_iconst (pc := 10) dX11_refuse_10 icm1 ?_
        refine S_ireturn dX11_refuse_11 rfl ?_
        show WP _ _ _ _ _ _ _ 24 [some (.ref A), some (.int a1), none, none] [.int (-1)] (sh, (up2 f3 (A + 2) 2 ((f3 (A + 2) 2) + (nI 1))), g4, fR)
        exact S_ireturn dX11_ticks_24 rfl H
set_option maxHeartbeats 2000000 in
set_option maxRecDepth 4000 in
theorem VX11_ticks_33 {l : Launch} {G : Gx} {d : Nat} {Q : Option Value → Hp → Prop} {sh : Sh} {fR : FRt} {A p : Nat} {f : FI} {g : FL} {a1 : Int32} {a2 : Int32} {a3 : Int32} (hs : StA sh fR A) (hp : fR A 5 = some p) (hn : fR (A + 40) 7 = some p) (hP : StPl sh fR p)
    (H : ((a1 ≤ a3 → Q (some (.int a2)) (sh, f, g, fR)) ∧ (¬ a1 ≤ a3 → Cl l G (d + 5) 0 0 mX10_step [.ref (A + 40), .null] (sh, f, g, fR) (qv sh fR fun f10 g11 => (∀ w12 : Int32, w12 = a2 + (f10 (A + 40) 13) → LpX11_ticks_33 l G d Q sh fR A p f10 g11 a1 w12 (a3 + nI 1)))))) :
    LpX11_ticks_33 l G d Q sh fR A p f g a1 a2 a3 := by
  refine S_iload_n (pc := 33) dX11_ticks_33 rfl rfl ?_
  refine S_iload_n (pc := 34) dX11_ticks_34 rfl rfl ?_
  refine S_icmp_ge (pc := 35) (tgt := 62) dX11_ticks_35 rfl (fun hc9 => ?_) (fun hc9 => ?_)
  · replace H := H.1 hc9
    refine S_iload_n (pc := 62) dX11_ticks_62 rfl rfl ?_
    exact S_ireturn dX11_ticks_63 rfl H
  · replace H := H.2 hc9
    refine S_aload_n (pc := 38) dX11_ticks_38 rfl rfl ?_
    refine S_getR (pc := 39) dX11_ticks_39 flX11_47 (sA_0 hs) rfl (rA_0_8 hs) ?_
    refine S_null (pc := 42) dX11_ticks_42 ?_
    refine S_callV (As := [.null]) (mc := 0) (ms := 0) (pc := 43) dX11_ticks_43 miX10_step mvX10_step mlX11_255 rfl (sW_0 hs.2.2.2.1) rfl rfl rfl (RmOK.of rfl) H ?_
    rintro _ _ ⟨f10, g11, rfl, rfl, H⟩
    show WP _ _ _ _ _ _ _ 46 [some (.ref A), some (.int a1), some (.int a2), some (.int a3)] [] (sh, f10, g11, fR)
    refine S_iload_n (pc := 46) dX11_ticks_46 rfl rfl ?_
    refine S_aload_n (pc := 47) dX11_ticks_47 rfl rfl ?_
    refine S_getR (pc := 48) dX11_ticks_48 flX11_47 (sA_0 hs) rfl (rA_0_8 hs) ?_
    refine S_get (pc := 51) (v := .int (f10 (A + 40) 13)) dX11_ticks_51 flX11_275 (sW_0 hs.2.2.2.1) rfl ?_
    refine S_iadd (pc := 54) dX11_ticks_54 ?_
    refine S_namei (fun w12 e13 => ?_)
    replace H := H w12 e13
    refine S_istore_n (pc := 55) (L' := [some (.ref A), some (.int a1), some (.int w12), some (.int a3)]) dX11_ticks_55 rfl (by decide) rfl ?_
    refine S_iinc (pc := 56) (v := nI 1) (L' := [some (.ref A), some (.int a1), some (.int w12), some (.int (a3 + nI 1))]) dX11_ticks_56 rfl ic1 rfl ?_
    refine S_goto (pc := 59) (tgt := 33) dX11_ticks_59 rfl ?_
    exact H
abbrev LpX11_chance_33 (l : Launch) (G : Gx) (d : Nat) (Q : Option Value → Hp → Prop) (sh : Sh) (fR : FRt) (A p : Nat) (f : FI) (g : FL) (a1 : Int32) (a2 : Int32) (a3 : Int32) : Prop := WP l G (Zq G 0 0 Q) mX11_chance (rmd (d + 6) 0 0) 0 0 33 [some (.ref A), some (.int a1), some (.int a2), some (.int a3)] [] (sh, f, g, fR)
set_option maxHeartbeats 2000000 in
set_option maxRecDepth 4000 in
theorem VX11_chance {l : Launch} {G : Gx} {d : Nat} {Q : Option Value → Hp → Prop} {sh : Sh} {fR : FRt} {A p : Nat} {f : FI} {g : FL} {a1 : Int32} (hs : StA sh fR A) (hp : fR A 5 = some p) (hn : fR (A + 40) 7 = some p) (hP : StPl sh fR p)
    (H : ((a1 < (nI 1) → Q (some (.int (-1))) (sh, (up2 f (A + 2) 2 ((f (A + 2) 2) + (nI 1))), g, fR)) ∧ (¬ a1 < (nI 1) → (((nI 100) < a1 → Q (some (.int (-1))) (sh, (up2 f (A + 2) 2 ((f (A + 2) 2) + (nI 1))), g, fR)) ∧ (¬ (nI 100) < a1 → Cl l G (d + 5) 0 0 mX11_canGo [.ref A, .int a1] (sh, f, g, fR) (qi sh fR fun x5 f3 g4 => ((¬ x5 = 0 → Cl l G (d + 5) 0 0 mX11_beginAct [.ref A] (sh, f3, g4, fR) (qv sh fR fun f7 g8 => LpX11_chance_33 l G d Q sh fR A p f7 g8 a1 (nI 0) (nI 0))) ∧ (x5 = 0 → Q (some (.int (-1))) (sh, (up2 f3 (A + 2) 2 ((f3 (A + 2) 2) + (nI 1))), g4, fR))))))))) :
    Cl l G (d + 6) 0 0 mX11_chance [.ref A, .int a1] (sh, f, g, fR) Q := by
  refine Cl.of (L0 := [some (.ref A), some (.int a1), none, none]) miX11_chance rfl rfl ?_
  refine S_iload_n (pc := 0) dX11_chance_0 rfl rfl ?_
  refine S_iconst (pc := 1) dX11_chance_1 ic1 ?_
  refine S_icmp_lt (pc := 2) (tgt := 19) dX11_chance_2 rfl (fun hc1 => ?_) (fun hc1 => ?_)
  · replace H := H.1 hc1
    refine S_aload_n (pc := 19) dX11_chance_19 rfl rfl ?_
    refine S_iconst (pc := 20) dX11_chance_20 ic2 ?_
    refine S_callV (As := [.int (nI 2)]) (mc := 0) (ms := 0) (pc := 21) dX11_chance_21 miX11_refuse mvX11_refuse mlX11_70 rfl (sA_0 hs) rfl rfl rfl (RmOK.of rfl) (Q := fun r h => WP _ _ _ _ _ _ _ 24 [some (.ref A), some (.int a1), none, none] (r.toList ++ []) h) (Cl.of miX11_refuse rfl rfl ?_) (fun _ _ q => q)
    refine S_aload_n (pc := 0) dX11_refuse_0 rfl rfl ?_
    refine S_getR (pc := 1) dX11_refuse_1 flX11_13 (sA_0 hs) rfl (rA_0_2 hs) ?_
    refine S_iload_n (pc := 4) dX11_refuse_4 rfl rfl ?_
    refine S_dup2 (pc := 5) dX11_refuse_5 rfl rfl ?_
    refine S_iald (pc := 6) dX11_refuse_6 (sA_2 hs) (vp_in_nI (by decide) (by decide)) ?_
    show WP _ _ _ _ _ _ _ 7 _ (.int (f (A + 2) 2) :: _) _
    refine S_iconst (pc := 7) dX11_refuse_7 ic1 ?_
    refine S_iadd (pc := 8) dX11_refuse_8 ?_
    refine S_iast (pc := 9) dX11_refuse_9 (sA_2 hs) (Nat.succ_pos _) (vp_in_nI (by decide) (by decide)) ?_
    show WP _ _ _ _ _ _ _ 10 _ _ (sh, (up2 f (A + 2) 2 ((f (A + 2) 2) + (nI 1))), g, fR)
    refine S_iconst (pc := 10) dX11_refuse_10 icm1 ?_
    refine S_ireturn dX11_refuse_11 rfl ?_
    show WP _ _ _ _ _ _ _ 24 [some (.ref A), some (.int a1), none, none] [.int (-1)] (sh, (up2 f (A + 2) 2 ((f (A + 2) 2) + (nI 1))), g, fR)
    exact S_ireturn dX11_chance_24 rfl H
  · replace H := H.2 hc1
    refine S_iload_n (pc := 5) dX11_chance_5 rfl rfl ?_
    refine S_bipush (pc := 6) dX11_chance_6 bp100 ?_
    refine S_icmp_gt (pc := 8) (tgt := 19) dX11_chance_8 rfl (fun hc2 => ?_) (fun hc2 => ?_)
    · replace H := H.1 hc2
      refine S_aload_n (pc := 19) dX11_chance_19 rfl rfl ?_
      refine S_iconst (pc := 20) dX11_chance_20 ic2 ?_
      refine S_callV (As := [.int (nI 2)]) (mc := 0) (ms := 0) (pc := 21) dX11_chance_21 miX11_refuse mvX11_refuse mlX11_70 rfl (sA_0 hs) rfl rfl rfl (RmOK.of rfl) (Q := fun r h => WP _ _ _ _ _ _ _ 24 [some (.ref A), some (.int a1), none, none] (r.toList ++ []) h) (Cl.of miX11_refuse rfl rfl ?_) (fun _ _ q => q)
      refine S_aload_n (pc := 0) dX11_refuse_0 rfl rfl ?_
      refine S_getR (pc := 1) dX11_refuse_1 flX11_13 (sA_0 hs) rfl (rA_0_2 hs) ?_
      refine S_iload_n (pc := 4) dX11_refuse_4 rfl rfl ?_
      refine S_dup2 (pc := 5) dX11_refuse_5 rfl rfl ?_
      refine S_iald (pc := 6) dX11_refuse_6 (sA_2 hs) (vp_in_nI (by decide) (by decide)) ?_
      show WP _ _ _ _ _ _ _ 7 _ (.int (f (A + 2) 2) :: _) _
      refine S_iconst (pc := 7) dX11_refuse_7 ic1 ?_
      refine S_iadd (pc := 8) dX11_refuse_8 ?_
      refine S_iast (pc := 9) dX11_refuse_9 (sA_2 hs) (Nat.succ_pos _) (vp_in_nI (by decide) (by decide)) ?_
      show WP _ _ _ _ _ _ _ 10 _ _ (sh, (up2 f (A + 2) 2 ((f (A + 2) 2) + (nI 1))), g, fR)
      refine S_iconst (pc := 10) dX11_refuse_10 icm1 ?_
      refine S_ireturn dX11_refuse_11 rfl ?_
      show WP _ _ _ _ _ _ _ 24 [some (.ref A), some (.int a1), none, none] [.int (-1)] (sh, (up2 f (A + 2) 2 ((f (A + 2) 2) + (nI 1))), g, fR)
      exact S_ireturn dX11_chance_24 rfl H
    · replace H := H.2 hc2
      refine S_aload_n (pc := 11) dX11_chance_11 rfl rfl ?_
      refine S_iload_n (pc := 12) dX11_chance_12 rfl rfl ?_
      refine S_callV (As := [.int a1]) (mc := 0) (ms := 0) (pc := 13) dX11_chance_13 miX11_canGo mvX11_canGo mlX11_248 rfl (sA_0 hs) rfl rfl rfl (RmOK.of rfl) H ?_
      rintro _ _ ⟨x5, f3, g4, rfl, rfl, H⟩
      show WP _ _ _ _ _ _ _ 16 [some (.ref A), some (.int a1), none, none] [.int x5] (sh, f3, g4, fR)
      refine S_if_ne (pc := 16) (tgt := 25) dX11_chance_16 rfl (fun hc6 => ?_) (fun hc6 => ?_)
      · replace H := H.1 hc6
        refine S_aload_n (pc := 25) dX11_chance_25 rfl rfl ?_
        refine S_callV (As := []) (mc := 0) (ms := 0) (pc := 26) dX11_chance_26 miX11_beginAct mvX11_beginAct mlX11_321 rfl (sA_0 hs) rfl rfl rfl (RmOK.of rfl) H ?_
        rintro _ _ ⟨f7, g8, rfl, rfl, H⟩
        show WP _ _ _ _ _ _ _ 29 [some (.ref A), some (.int a1), none, none] [] (sh, f7, g8, fR)
        refine S_iconst (pc := 29) dX11_chance_29 ic0 ?_
        refine S_istore_n (pc := 30) (L' := [some (.ref A), some (.int a1), some (.int (nI 0)), none]) dX11_chance_30 rfl (by decide) rfl ?_
        refine S_iconst (pc := 31) dX11_chance_31 ic0 ?_
        refine S_istore_n (pc := 32) (L' := [some (.ref A), some (.int a1), some (.int (nI 0)), some (.int (nI 0))]) dX11_chance_32 rfl (by decide) rfl ?_
        exact H
      · replace H := H.2 hc6
        refine S_aload_n (pc := 19) dX11_chance_19 rfl rfl ?_
        refine S_iconst (pc := 20) dX11_chance_20 ic2 ?_
        refine S_callV (As := [.int (nI 2)]) (mc := 0) (ms := 0) (pc := 21) dX11_chance_21 miX11_refuse mvX11_refuse mlX11_70 rfl (sA_0 hs) rfl rfl rfl (RmOK.of rfl) (Q := fun r h => WP _ _ _ _ _ _ _ 24 [some (.ref A), some (.int a1), none, none] (r.toList ++ []) h) (Cl.of miX11_refuse rfl rfl ?_) (fun _ _ q => q)
        refine S_aload_n (pc := 0) dX11_refuse_0 rfl rfl ?_
        refine S_getR (pc := 1) dX11_refuse_1 flX11_13 (sA_0 hs) rfl (rA_0_2 hs) ?_
        refine S_iload_n (pc := 4) dX11_refuse_4 rfl rfl ?_
        refine S_dup2 (pc := 5) dX11_refuse_5 rfl rfl ?_
        refine S_iald (pc := 6) dX11_refuse_6 (sA_2 hs) (vp_in_nI (by decide) (by decide)) ?_
        show WP _ _ _ _ _ _ _ 7 _ (.int (f3 (A + 2) 2) :: _) _
        refine S_iconst (pc := 7) dX11_refuse_7 ic1 ?_
        refine S_iadd (pc := 8) dX11_refuse_8 ?_
        refine S_iast (pc := 9) dX11_refuse_9 (sA_2 hs) (Nat.succ_pos _) (vp_in_nI (by decide) (by decide)) ?_
        show WP _ _ _ _ _ _ _ 10 _ _ (sh, (up2 f3 (A + 2) 2 ((f3 (A + 2) 2) + (nI 1))), g4, fR)
        refine S_iconst (pc := 10) dX11_refuse_10 icm1 ?_
        refine S_ireturn dX11_refuse_11 rfl ?_
        show WP _ _ _ _ _ _ _ 24 [some (.ref A), some (.int a1), none, none] [.int (-1)] (sh, (up2 f3 (A + 2) 2 ((f3 (A + 2) 2) + (nI 1))), g4, fR)
        exact S_ireturn dX11_chance_24 rfl H
set_option maxHeartbeats 2000000 in
set_option maxRecDepth 4000 in
theorem VX11_chance_33 {l : Launch} {G : Gx} {d : Nat} {Q : Option Value → Hp → Prop} {sh : Sh} {fR : FRt} {A p : Nat} {f : FI} {g : FL} {a1 : Int32} {a2 : Int32} {a3 : Int32} (hs : StA sh fR A) (hp : fR A 5 = some p) (hn : fR (A + 40) 7 = some p) (hP : StPl sh fR p)
    (H : ((a1 ≤ a3 → Q (some (.int a2)) (sh, f, g, fR)) ∧ (¬ a1 ≤ a3 → Cl l G (d + 5) 0 0 mX10_step [.ref (A + 40), .ref (A + 3)] (sh, f, g, fR) (qv sh fR fun f10 g11 => (∀ w12 : Int32, w12 = a2 + (f10 (A + 40) 14) → LpX11_chance_33 l G d Q sh fR A p f10 g11 a1 w12 (a3 + nI 1)))))) :
    LpX11_chance_33 l G d Q sh fR A p f g a1 a2 a3 := by
  refine S_iload_n (pc := 33) dX11_chance_33 rfl rfl ?_
  refine S_iload_n (pc := 34) dX11_chance_34 rfl rfl ?_
  refine S_icmp_ge (pc := 35) (tgt := 65) dX11_chance_35 rfl (fun hc9 => ?_) (fun hc9 => ?_)
  · replace H := H.1 hc9
    refine S_iload_n (pc := 65) dX11_chance_65 rfl rfl ?_
    exact S_ireturn dX11_chance_66 rfl H
  · replace H := H.2 hc9
    refine S_aload_n (pc := 38) dX11_chance_38 rfl rfl ?_
    refine S_getR (pc := 39) dX11_chance_39 flX11_47 (sA_0 hs) rfl (rA_0_8 hs) ?_
    refine S_aload_n (pc := 42) dX11_chance_42 rfl rfl ?_
    refine S_getR (pc := 43) dX11_chance_43 flX11_19 (sA_0 hs) rfl (rA_0_3 hs) ?_
    refine S_callV (As := [.ref (A + 3)]) (mc := 0) (ms := 0) (pc := 46) dX11_chance_46 miX10_step mvX10_step mlX11_255 rfl (sW_0 hs.2.2.2.1) rfl rfl rfl (RmOK.of rfl) H ?_
    rintro _ _ ⟨f10, g11, rfl, rfl, H⟩
    show WP _ _ _ _ _ _ _ 49 [some (.ref A), some (.int a1), some (.int a2), some (.int a3)] [] (sh, f10, g11, fR)
    refine S_iload_n (pc := 49) dX11_chance_49 rfl rfl ?_
    refine S_aload_n (pc := 50) dX11_chance_50 rfl rfl ?_
    refine S_getR (pc := 51) dX11_chance_51 flX11_47 (sA_0 hs) rfl (rA_0_8 hs) ?_
    refine S_get (pc := 54) (v := .int (f10 (A + 40) 14)) dX11_chance_54 flX11_324 (sW_0 hs.2.2.2.1) rfl ?_
    refine S_iadd (pc := 57) dX11_chance_57 ?_
    refine S_namei (fun w12 e13 => ?_)
    replace H := H w12 e13
    refine S_istore_n (pc := 58) (L' := [some (.ref A), some (.int a1), some (.int w12), some (.int a3)]) dX11_chance_58 rfl (by decide) rfl ?_
    refine S_iinc (pc := 59) (v := nI 1) (L' := [some (.ref A), some (.int a1), some (.int w12), some (.int (a3 + nI 1))]) dX11_chance_59 rfl ic1 rfl ?_
    refine S_goto (pc := 62) (tgt := 33) dX11_chance_62 rfl ?_
    exact H
set_option maxHeartbeats 2000000 in
set_option maxRecDepth 4000 in
theorem VX11_join {l : Launch} {G : Gx} {d : Nat} {Q : Option Value → Hp → Prop} {sh : Sh} {fR : FRt} {A p : Nat} {f : FI} {g : FL} {a1 : Int32} {a2 : Int32} (hs : StA sh fR A) (hp : fR A 5 = some p) (hn : fR (A + 40) 7 = some p) (hP : StPl sh fR p)
    (H : Cl l G (d + 3) 0 0 mX11_isPath [.ref A, .int a1] (sh, f, g, fR) (qi sh fR fun x3 f1 g2 => ((x3 = 0 → Q (some (.int (nI 0))) (sh, (up2 f1 (A + 2) 3 ((f1 (A + 2) 3) + (nI 1))), g2, fR)) ∧ (¬ x3 = 0 → ((a2 < 0 → Q (some (.int (nI 0))) (sh, (up2 f1 (A + 2) 3 ((f1 (A + 2) 3) + (nI 1))), g2, fR)) ∧ (¬ a2 < 0 → (((nI 999) < a2 → Q (some (.int (nI 0))) (sh, (up2 f1 (A + 2) 3 ((f1 (A + 2) 3) + (nI 1))), g2, fR)) ∧ (¬ (nI 999) < a2 → inb a1 4 ∧ (∃ r8, fR (A + 40 + 1) a1.toNatClampNeg = some r8 ∧ sh[r8]? = some (8, 8) ∧ 0 < r8 ∧ Cl l G (d + 3) 0 0 mX8_isNew [.ref r8] (sh, f1, g2, fR) (qi sh fR fun x14 f12 g13 => ((¬ x14 = 0 → Cl l G (d + 3) 0 0 mX11_beginAct [.ref A] (sh, f12, g13, fR) (qv sh fR fun f16 g17 => Cl l G (d + 3) 0 0 mX10_tryToken [.ref (A + 40), .int a1, .int a2] (sh, f16, g17, fR) (qi sh fR fun x20 f18 g19 => (x20 = 0 ∨ x20 = 1) ∧ Q (some (.int x20)) (sh, f18, g19, fR)))) ∧ (x14 = 0 → Q (some (.int (nI 0))) (sh, (up2 f12 (A + 2) 3 ((f12 (A + 2) 3) + (nI 1))), g13, fR))))))))))))) :
    Cl l G (d + 4) 0 0 mX11_join [.ref A, .int a1, .int a2] (sh, f, g, fR) Q := by
  refine Cl.of (L0 := [some (.ref A), some (.int a1), some (.int a2)]) miX11_join rfl rfl ?_
  refine S_aload_n (pc := 0) dX11_join_0 rfl rfl ?_
  refine S_iload_n (pc := 1) dX11_join_1 rfl rfl ?_
  refine S_callV (As := [.int a1]) (mc := 0) (ms := 0) (pc := 2) dX11_join_2 miX11_isPath mvX11_isPath mlX11_175 rfl (sA_0 hs) rfl rfl rfl (RmOK.of rfl) H ?_
  rintro _ _ ⟨x3, f1, g2, rfl, rfl, H⟩
  show WP _ _ _ _ _ _ _ 5 [some (.ref A), some (.int a1), some (.int a2)] [.int x3] (sh, f1, g2, fR)
  refine S_if_eq (pc := 5) (tgt := 34) dX11_join_5 rfl (fun hc4 => ?_) (fun hc4 => ?_)
  · replace H := H.1 hc4
    refine S_aload_n (pc := 34) dX11_join_34 rfl rfl ?_
    refine S_callV (As := []) (mc := 0) (ms := 0) (pc := 35) dX11_join_35 miX11_refusePath mvX11_refusePath mlX11_333 rfl (sA_0 hs) rfl rfl rfl (RmOK.of rfl) (Q := fun r h => WP _ _ _ _ _ _ _ 38 [some (.ref A), some (.int a1), some (.int a2)] (r.toList ++ []) h) (Cl.of miX11_refusePath rfl rfl ?_) (fun _ _ q => q)
    refine S_aload_n (pc := 0) dX11_refusePath_0 rfl rfl ?_
    refine S_getR (pc := 1) dX11_refusePath_1 flX11_13 (sA_0 hs) rfl (rA_0_2 hs) ?_
    refine S_iconst (pc := 4) dX11_refusePath_4 ic3 ?_
    refine S_dup2 (pc := 5) dX11_refusePath_5 rfl rfl ?_
    refine S_iald (pc := 6) dX11_refusePath_6 (sA_2 hs) (vp_in_nI (by decide) (by decide)) ?_
    show WP _ _ _ _ _ _ _ 7 _ (.int (f1 (A + 2) 3) :: _) _
    refine S_iconst (pc := 7) dX11_refusePath_7 ic1 ?_
    refine S_iadd (pc := 8) dX11_refusePath_8 ?_
    refine S_iast (pc := 9) dX11_refusePath_9 (sA_2 hs) (Nat.succ_pos _) (vp_in_nI (by decide) (by decide)) ?_
    show WP _ _ _ _ _ _ _ 10 _ _ (sh, (up2 f1 (A + 2) 3 ((f1 (A + 2) 3) + (nI 1))), g2, fR)
    refine S_iconst (pc := 10) dX11_refusePath_10 ic0 ?_
    refine S_zreturn dX11_refusePath_11 rfl (Or.inl rfl) ?_
    show WP _ _ _ _ _ _ _ 38 [some (.ref A), some (.int a1), some (.int a2)] [.int (nI 0)] (sh, (up2 f1 (A + 2) 3 ((f1 (A + 2) 3) + (nI 1))), g2, fR)
    exact S_zreturn dX11_join_38 rfl (Or.inl rfl) H
  · replace H := H.2 hc4
    refine S_iload_n (pc := 8) dX11_join_8 rfl rfl ?_
    refine S_if_lt (pc := 9) (tgt := 34) dX11_join_9 rfl (fun hc5 => ?_) (fun hc5 => ?_)
    · replace H := H.1 hc5
      refine S_aload_n (pc := 34) dX11_join_34 rfl rfl ?_
      refine S_callV (As := []) (mc := 0) (ms := 0) (pc := 35) dX11_join_35 miX11_refusePath mvX11_refusePath mlX11_333 rfl (sA_0 hs) rfl rfl rfl (RmOK.of rfl) (Q := fun r h => WP _ _ _ _ _ _ _ 38 [some (.ref A), some (.int a1), some (.int a2)] (r.toList ++ []) h) (Cl.of miX11_refusePath rfl rfl ?_) (fun _ _ q => q)
      refine S_aload_n (pc := 0) dX11_refusePath_0 rfl rfl ?_
      refine S_getR (pc := 1) dX11_refusePath_1 flX11_13 (sA_0 hs) rfl (rA_0_2 hs) ?_
      refine S_iconst (pc := 4) dX11_refusePath_4 ic3 ?_
      refine S_dup2 (pc := 5) dX11_refusePath_5 rfl rfl ?_
      refine S_iald (pc := 6) dX11_refusePath_6 (sA_2 hs) (vp_in_nI (by decide) (by decide)) ?_
      show WP _ _ _ _ _ _ _ 7 _ (.int (f1 (A + 2) 3) :: _) _
      refine S_iconst (pc := 7) dX11_refusePath_7 ic1 ?_
      refine S_iadd (pc := 8) dX11_refusePath_8 ?_
      refine S_iast (pc := 9) dX11_refusePath_9 (sA_2 hs) (Nat.succ_pos _) (vp_in_nI (by decide) (by decide)) ?_
      show WP _ _ _ _ _ _ _ 10 _ _ (sh, (up2 f1 (A + 2) 3 ((f1 (A + 2) 3) + (nI 1))), g2, fR)
      refine S_iconst (pc := 10) dX11_refusePath_10 ic0 ?_
      refine S_zreturn dX11_refusePath_11 rfl (Or.inl rfl) ?_
      show WP _ _ _ _ _ _ _ 38 [some (.ref A), some (.int a1), some (.int a2)] [.int (nI 0)] (sh, (up2 f1 (A + 2) 3 ((f1 (A + 2) 3) + (nI 1))), g2, fR)
      exact S_zreturn dX11_join_38 rfl (Or.inl rfl) H
    · replace H := H.2 hc5
      refine S_iload_n (pc := 12) dX11_join_12 rfl rfl ?_
      refine S_sipush (pc := 13) dX11_join_13 sp999 ?_
      refine S_icmp_gt (pc := 16) (tgt := 34) dX11_join_16 rfl (fun hc6 => ?_) (fun hc6 => ?_)
      · replace H := H.1 hc6
        refine S_aload_n (pc := 34) dX11_join_34 rfl rfl ?_
        refine S_callV (As := []) (mc := 0) (ms := 0) (pc := 35) dX11_join_35 miX11_refusePath mvX11_refusePath mlX11_333 rfl (sA_0 hs) rfl rfl rfl (RmOK.of rfl) (Q := fun r h => WP _ _ _ _ _ _ _ 38 [some (.ref A), some (.int a1), some (.int a2)] (r.toList ++ []) h) (Cl.of miX11_refusePath rfl rfl ?_) (fun _ _ q => q)
        refine S_aload_n (pc := 0) dX11_refusePath_0 rfl rfl ?_
        refine S_getR (pc := 1) dX11_refusePath_1 flX11_13 (sA_0 hs) rfl (rA_0_2 hs) ?_
        refine S_iconst (pc := 4) dX11_refusePath_4 ic3 ?_
        refine S_dup2 (pc := 5) dX11_refusePath_5 rfl rfl ?_
        refine S_iald (pc := 6) dX11_refusePath_6 (sA_2 hs) (vp_in_nI (by decide) (by decide)) ?_
        show WP _ _ _ _ _ _ _ 7 _ (.int (f1 (A + 2) 3) :: _) _
        refine S_iconst (pc := 7) dX11_refusePath_7 ic1 ?_
        refine S_iadd (pc := 8) dX11_refusePath_8 ?_
        refine S_iast (pc := 9) dX11_refusePath_9 (sA_2 hs) (Nat.succ_pos _) (vp_in_nI (by decide) (by decide)) ?_
        show WP _ _ _ _ _ _ _ 10 _ _ (sh, (up2 f1 (A + 2) 3 ((f1 (A + 2) 3) + (nI 1))), g2, fR)
        refine S_iconst (pc := 10) dX11_refusePath_10 ic0 ?_
        refine S_zreturn dX11_refusePath_11 rfl (Or.inl rfl) ?_
        show WP _ _ _ _ _ _ _ 38 [some (.ref A), some (.int a1), some (.int a2)] [.int (nI 0)] (sh, (up2 f1 (A + 2) 3 ((f1 (A + 2) 3) + (nI 1))), g2, fR)
        exact S_zreturn dX11_join_38 rfl (Or.inl rfl) H
      · replace H := H.2 hc6
        refine S_aload_n (pc := 19) dX11_join_19 rfl rfl ?_
        refine S_getR (pc := 20) dX11_join_20 flX11_47 (sA_0 hs) rfl (rA_0_8 hs) ?_
        refine S_getR (pc := 23) dX11_join_23 flX11_186 (sW_0 hs.2.2.2.1) rfl (rW_0_0 hs.2.2.2.1) ?_
        refine S_iload_n (pc := 26) dX11_join_26 rfl rfl ?_
        obtain ⟨hb7, H⟩ := H
        obtain ⟨r8, e9, s10, p11, H⟩ := H
        refine S_aald24 (pc := 27) dX11_join_27 (sW_1 hs.2.2.2.1) hb7 e9 ?_
        refine S_callV (As := []) (mc := 0) (ms := 0) (pc := 28) dX11_join_28 miX8_isNew mvX8_isNew mlX11_330 rfl s10 rfl rfl rfl (RmOK.of rfl) H ?_
        rintro _ _ ⟨x14, f12, g13, rfl, rfl, H⟩
        show WP _ _ _ _ _ _ _ 31 [some (.ref A), some (.int a1), some (.int a2)] [.int x14] (sh, f12, g13, fR)
        refine S_if_ne (pc := 31) (tgt := 39) dX11_join_31 rfl (fun hc15 => ?_) (fun hc15 => ?_)
        · replace H := H.1 hc15
          refine S_aload_n (pc := 39) dX11_join_39 rfl rfl ?_
          refine S_callV (As := []) (mc := 0) (ms := 0) (pc := 40) dX11_join_40 miX11_beginAct mvX11_beginAct mlX11_321 rfl (sA_0 hs) rfl rfl rfl (RmOK.of rfl) H ?_
          rintro _ _ ⟨f16, g17, rfl, rfl, H⟩
          show WP _ _ _ _ _ _ _ 43 [some (.ref A), some (.int a1), some (.int a2)] [] (sh, f16, g17, fR)
          refine S_aload_n (pc := 43) dX11_join_43 rfl rfl ?_
          refine S_getR (pc := 44) dX11_join_44 flX11_47 (sA_0 hs) rfl (rA_0_8 hs) ?_
          refine S_iload_n (pc := 47) dX11_join_47 rfl rfl ?_
          refine S_iload_n (pc := 48) dX11_join_48 rfl rfl ?_
          refine S_callV (As := [.int a1, .int a2]) (mc := 0) (ms := 0) (pc := 49) dX11_join_49 miX10_tryToken mvX10_tryToken mlX11_336 rfl (sW_0 hs.2.2.2.1) rfl rfl rfl (RmOK.of rfl) H ?_
          rintro _ _ ⟨x20, f18, g19, rfl, rfl, H⟩
          show WP _ _ _ _ _ _ _ 52 [some (.ref A), some (.int a1), some (.int a2)] [.int x20] (sh, f18, g19, fR)
          obtain ⟨hc21, H⟩ := H
          exact S_zreturn dX11_join_52 rfl hc21 H
        · replace H := H.2 hc15
          refine S_aload_n (pc := 34) dX11_join_34 rfl rfl ?_
          refine S_callV (As := []) (mc := 0) (ms := 0) (pc := 35) dX11_join_35 miX11_refusePath mvX11_refusePath mlX11_333 rfl (sA_0 hs) rfl rfl rfl (RmOK.of rfl) (Q := fun r h => WP _ _ _ _ _ _ _ 38 [some (.ref A), some (.int a1), some (.int a2)] (r.toList ++ []) h) (Cl.of miX11_refusePath rfl rfl ?_) (fun _ _ q => q)
          refine S_aload_n (pc := 0) dX11_refusePath_0 rfl rfl ?_
          refine S_getR (pc := 1) dX11_refusePath_1 flX11_13 (sA_0 hs) rfl (rA_0_2 hs) ?_
          refine S_iconst (pc := 4) dX11_refusePath_4 ic3 ?_
          refine S_dup2 (pc := 5) dX11_refusePath_5 rfl rfl ?_
          refine S_iald (pc := 6) dX11_refusePath_6 (sA_2 hs) (vp_in_nI (by decide) (by decide)) ?_
          show WP _ _ _ _ _ _ _ 7 _ (.int (f12 (A + 2) 3) :: _) _
          refine S_iconst (pc := 7) dX11_refusePath_7 ic1 ?_
          refine S_iadd (pc := 8) dX11_refusePath_8 ?_
          refine S_iast (pc := 9) dX11_refusePath_9 (sA_2 hs) (Nat.succ_pos _) (vp_in_nI (by decide) (by decide)) ?_
          show WP _ _ _ _ _ _ _ 10 _ _ (sh, (up2 f12 (A + 2) 3 ((f12 (A + 2) 3) + (nI 1))), g13, fR)
          refine S_iconst (pc := 10) dX11_refusePath_10 ic0 ?_
          refine S_zreturn dX11_refusePath_11 rfl (Or.inl rfl) ?_
          show WP _ _ _ _ _ _ _ 38 [some (.ref A), some (.int a1), some (.int a2)] [.int (nI 0)] (sh, (up2 f12 (A + 2) 3 ((f12 (A + 2) 3) + (nI 1))), g13, fR)
          exact S_zreturn dX11_join_38 rfl (Or.inl rfl) H
set_option maxHeartbeats 2000000 in
set_option maxRecDepth 4000 in
theorem VX11_kill {l : Launch} {G : Gx} {d : Nat} {Q : Option Value → Hp → Prop} {sh : Sh} {fR : FRt} {A p : Nat} {f : FI} {g : FL} {a1 : Int32} (hs : StA sh fR A) (hp : fR A 5 = some p) (hn : fR (A + 40) 7 = some p) (hP : StPl sh fR p)
    (H : Cl l G (d + 3) 0 0 mX11_isPath [.ref A, .int a1] (sh, f, g, fR) (qi sh fR fun x3 f1 g2 => ((x3 = 0 → Q (some (.int (nI 0))) (sh, (up2 f1 (A + 2) 3 ((f1 (A + 2) 3) + (nI 1))), g2, fR)) ∧ (¬ x3 = 0 → inb a1 4 ∧ (∃ r6, fR (A + 40 + 1) a1.toNatClampNeg = some r6 ∧ sh[r6]? = some (8, 8) ∧ 0 < r6 ∧ Cl l G (d + 3) 0 0 mX8_isAlive [.ref r6] (sh, f1, g2, fR) (qi sh fR fun x12 f10 g11 => ((¬ x12 = 0 → Cl l G (d + 3) 0 0 mX11_beginAct [.ref A] (sh, f10, g11, fR) (qv sh fR fun f14 g15 => Cl l G (d + 3) 0 0 mX10_bury [.ref (A + 40), .int a1] (sh, f14, g15, fR) (qv sh fR fun f16 g17 => Q (some (.int (nI 1))) (sh, f16, g17, fR)))) ∧ (x12 = 0 → Q (some (.int (nI 0))) (sh, (up2 f10 (A + 2) 3 ((f10 (A + 2) 3) + (nI 1))), g11, fR))))))))) :
    Cl l G (d + 4) 0 0 mX11_kill [.ref A, .int a1] (sh, f, g, fR) Q := by
  refine Cl.of (L0 := [some (.ref A), some (.int a1)]) miX11_kill rfl rfl ?_
  refine S_aload_n (pc := 0) dX11_kill_0 rfl rfl ?_
  refine S_iload_n (pc := 1) dX11_kill_1 rfl rfl ?_
  refine S_callV (As := [.int a1]) (mc := 0) (ms := 0) (pc := 2) dX11_kill_2 miX11_isPath mvX11_isPath mlX11_175 rfl (sA_0 hs) rfl rfl rfl (RmOK.of rfl) H ?_
  rintro _ _ ⟨x3, f1, g2, rfl, rfl, H⟩
  show WP _ _ _ _ _ _ _ 5 [some (.ref A), some (.int a1)] [.int x3] (sh, f1, g2, fR)
  refine S_if_eq (pc := 5) (tgt := 23) dX11_kill_5 rfl (fun hc4 => ?_) (fun hc4 => ?_)
  · replace H := H.1 hc4
    refine S_aload_n (pc := 23) dX11_kill_23 rfl rfl ?_
    refine S_callV (As := []) (mc := 0) (ms := 0) (pc := 24) dX11_kill_24 miX11_refusePath mvX11_refusePath mlX11_333 rfl (sA_0 hs) rfl rfl rfl (RmOK.of rfl) (Q := fun r h => WP _ _ _ _ _ _ _ 27 [some (.ref A), some (.int a1)] (r.toList ++ []) h) (Cl.of miX11_refusePath rfl rfl ?_) (fun _ _ q => q)
    refine S_aload_n (pc := 0) dX11_refusePath_0 rfl rfl ?_
    refine S_getR (pc := 1) dX11_refusePath_1 flX11_13 (sA_0 hs) rfl (rA_0_2 hs) ?_
    refine S_iconst (pc := 4) dX11_refusePath_4 ic3 ?_
    refine S_dup2 (pc := 5) dX11_refusePath_5 rfl rfl ?_
    refine S_iald (pc := 6) dX11_refusePath_6 (sA_2 hs) (vp_in_nI (by decide) (by decide)) ?_
    show WP _ _ _ _ _ _ _ 7 _ (.int (f1 (A + 2) 3) :: _) _
    refine S_iconst (pc := 7) dX11_refusePath_7 ic1 ?_
    refine S_iadd (pc := 8) dX11_refusePath_8 ?_
    refine S_iast (pc := 9) dX11_refusePath_9 (sA_2 hs) (Nat.succ_pos _) (vp_in_nI (by decide) (by decide)) ?_
    show WP _ _ _ _ _ _ _ 10 _ _ (sh, (up2 f1 (A + 2) 3 ((f1 (A + 2) 3) + (nI 1))), g2, fR)
    refine S_iconst (pc := 10) dX11_refusePath_10 ic0 ?_
    refine S_zreturn dX11_refusePath_11 rfl (Or.inl rfl) ?_
    show WP _ _ _ _ _ _ _ 27 [some (.ref A), some (.int a1)] [.int (nI 0)] (sh, (up2 f1 (A + 2) 3 ((f1 (A + 2) 3) + (nI 1))), g2, fR)
    exact S_zreturn dX11_kill_27 rfl (Or.inl rfl) H
  · replace H := H.2 hc4
    refine S_aload_n (pc := 8) dX11_kill_8 rfl rfl ?_
    refine S_getR (pc := 9) dX11_kill_9 flX11_47 (sA_0 hs) rfl (rA_0_8 hs) ?_
    refine S_getR (pc := 12) dX11_kill_12 flX11_186 (sW_0 hs.2.2.2.1) rfl (rW_0_0 hs.2.2.2.1) ?_
    refine S_iload_n (pc := 15) dX11_kill_15 rfl rfl ?_
    obtain ⟨hb5, H⟩ := H
    obtain ⟨r6, e7, s8, p9, H⟩ := H
    refine S_aald24 (pc := 16) dX11_kill_16 (sW_1 hs.2.2.2.1) hb5 e7 ?_
    refine S_callV (As := []) (mc := 0) (ms := 0) (pc := 17) dX11_kill_17 miX8_isAlive mvX8_isAlive mlX11_340 rfl s8 rfl rfl rfl (RmOK.of rfl) H ?_
    rintro _ _ ⟨x12, f10, g11, rfl, rfl, H⟩
    show WP _ _ _ _ _ _ _ 20 [some (.ref A), some (.int a1)] [.int x12] (sh, f10, g11, fR)
    refine S_if_ne (pc := 20) (tgt := 28) dX11_kill_20 rfl (fun hc13 => ?_) (fun hc13 => ?_)
    · replace H := H.1 hc13
      refine S_aload_n (pc := 28) dX11_kill_28 rfl rfl ?_
      refine S_callV (As := []) (mc := 0) (ms := 0) (pc := 29) dX11_kill_29 miX11_beginAct mvX11_beginAct mlX11_321 rfl (sA_0 hs) rfl rfl rfl (RmOK.of rfl) H ?_
      rintro _ _ ⟨f14, g15, rfl, rfl, H⟩
      show WP _ _ _ _ _ _ _ 32 [some (.ref A), some (.int a1)] [] (sh, f14, g15, fR)
      refine S_aload_n (pc := 32) dX11_kill_32 rfl rfl ?_
      refine S_getR (pc := 33) dX11_kill_33 flX11_47 (sA_0 hs) rfl (rA_0_8 hs) ?_
      refine S_iload_n (pc := 36) dX11_kill_36 rfl rfl ?_
      refine S_callV (As := [.int a1]) (mc := 0) (ms := 0) (pc := 37) dX11_kill_37 miX10_bury mvX10_bury mlX11_266 rfl (sW_0 hs.2.2.2.1) rfl rfl rfl (RmOK.of rfl) H ?_
      rintro _ _ ⟨f16, g17, rfl, rfl, H⟩
      show WP _ _ _ _ _ _ _ 40 [some (.ref A), some (.int a1)] [] (sh, f16, g17, fR)
      refine S_iconst (pc := 40) dX11_kill_40 ic1 ?_
      exact S_zreturn dX11_kill_41 rfl (Or.inr rfl) H
    · replace H := H.2 hc13
      refine S_aload_n (pc := 23) dX11_kill_23 rfl rfl ?_
      refine S_callV (As := []) (mc := 0) (ms := 0) (pc := 24) dX11_kill_24 miX11_refusePath mvX11_refusePath mlX11_333 rfl (sA_0 hs) rfl rfl rfl (RmOK.of rfl) (Q := fun r h => WP _ _ _ _ _ _ _ 27 [some (.ref A), some (.int a1)] (r.toList ++ []) h) (Cl.of miX11_refusePath rfl rfl ?_) (fun _ _ q => q)
      refine S_aload_n (pc := 0) dX11_refusePath_0 rfl rfl ?_
      refine S_getR (pc := 1) dX11_refusePath_1 flX11_13 (sA_0 hs) rfl (rA_0_2 hs) ?_
      refine S_iconst (pc := 4) dX11_refusePath_4 ic3 ?_
      refine S_dup2 (pc := 5) dX11_refusePath_5 rfl rfl ?_
      refine S_iald (pc := 6) dX11_refusePath_6 (sA_2 hs) (vp_in_nI (by decide) (by decide)) ?_
      show WP _ _ _ _ _ _ _ 7 _ (.int (f10 (A + 2) 3) :: _) _
      refine S_iconst (pc := 7) dX11_refusePath_7 ic1 ?_
      refine S_iadd (pc := 8) dX11_refusePath_8 ?_
      refine S_iast (pc := 9) dX11_refusePath_9 (sA_2 hs) (Nat.succ_pos _) (vp_in_nI (by decide) (by decide)) ?_
      show WP _ _ _ _ _ _ _ 10 _ _ (sh, (up2 f10 (A + 2) 3 ((f10 (A + 2) 3) + (nI 1))), g11, fR)
      refine S_iconst (pc := 10) dX11_refusePath_10 ic0 ?_
      refine S_zreturn dX11_refusePath_11 rfl (Or.inl rfl) ?_
      show WP _ _ _ _ _ _ _ 27 [some (.ref A), some (.int a1)] [.int (nI 0)] (sh, (up2 f10 (A + 2) 3 ((f10 (A + 2) 3) + (nI 1))), g11, fR)
      exact S_zreturn dX11_kill_27 rfl (Or.inl rfl) H
set_option maxHeartbeats 2000000 in
set_option maxRecDepth 4000 in
theorem VX11_spoil {l : Launch} {G : Gx} {d : Nat} {Q : Option Value → Hp → Prop} {sh : Sh} {fR : FRt} {A p : Nat} {f : FI} {g : FL} {a1 : Int32} (hs : StA sh fR A) (hp : fR A 5 = some p) (hn : fR (A + 40) 7 = some p) (hP : StPl sh fR p)
    (H : Cl l G (d + 3) 0 0 mX11_isPath [.ref A, .int a1] (sh, f, g, fR) (qi sh fR fun x3 f1 g2 => ((x3 = 0 → Q (some (.int (nI 0))) (sh, (up2 f1 (A + 2) 3 ((f1 (A + 2) 3) + (nI 1))), g2, fR)) ∧ (¬ x3 = 0 → inb a1 4 ∧ (∃ r6, fR (A + 40 + 1) a1.toNatClampNeg = some r6 ∧ sh[r6]? = some (8, 8) ∧ 0 < r6 ∧ Cl l G (d + 3) 0 0 mX8_isAlive [.ref r6] (sh, f1, g2, fR) (qi sh fR fun x12 f10 g11 => ((x12 = 0 → Q (some (.int (nI 0))) (sh, (up2 f10 (A + 2) 3 ((f10 (A + 2) 3) + (nI 1))), g11, fR)) ∧ (¬ x12 = 0 → inb a1 4 ∧ (∃ r15, fR (A + 40 + 1) a1.toNatClampNeg = some r15 ∧ sh[r15]? = some (8, 8) ∧ 0 < r15 ∧ (((f10 r15 7) = 0 → Cl l G (d + 3) 0 0 mX11_beginAct [.ref A] (sh, f10, g11, fR) (qv sh fR fun f20 g21 => inb a1 4 ∧ (∃ r23, fR (A + 40 + 1) a1.toNatClampNeg = some r23 ∧ sh[r23]? = some (8, 8) ∧ 0 < r23 ∧ Q (some (.int (nI 1))) (sh, (up2 f20 r23 7 (nI 1)), g21, fR)))) ∧ (¬ (f10 r15 7) = 0 → Q (some (.int (nI 0))) (sh, (up2 f10 (A + 2) 3 ((f10 (A + 2) 3) + (nI 1))), g11, fR)))))))))))) :
    Cl l G (d + 4) 0 0 mX11_spoil [.ref A, .int a1] (sh, f, g, fR) Q := by
  refine Cl.of (L0 := [some (.ref A), some (.int a1)]) miX11_spoil rfl rfl ?_
  refine S_aload_n (pc := 0) dX11_spoil_0 rfl rfl ?_
  refine S_iload_n (pc := 1) dX11_spoil_1 rfl rfl ?_
  refine S_callV (As := [.int a1]) (mc := 0) (ms := 0) (pc := 2) dX11_spoil_2 miX11_isPath mvX11_isPath mlX11_175 rfl (sA_0 hs) rfl rfl rfl (RmOK.of rfl) H ?_
  rintro _ _ ⟨x3, f1, g2, rfl, rfl, H⟩
  show WP _ _ _ _ _ _ _ 5 [some (.ref A), some (.int a1)] [.int x3] (sh, f1, g2, fR)
  refine S_if_eq (pc := 5) (tgt := 38) dX11_spoil_5 rfl (fun hc4 => ?_) (fun hc4 => ?_)
  · replace H := H.1 hc4
    refine S_aload_n (pc := 38) dX11_spoil_38 rfl rfl ?_
    refine S_callV (As := []) (mc := 0) (ms := 0) (pc := 39) dX11_spoil_39 miX11_refusePath mvX11_refusePath mlX11_333 rfl (sA_0 hs) rfl rfl rfl (RmOK.of rfl) (Q := fun r h => WP _ _ _ _ _ _ _ 42 [some (.ref A), some (.int a1)] (r.toList ++ []) h) (Cl.of miX11_refusePath rfl rfl ?_) (fun _ _ q => q)
    refine S_aload_n (pc := 0) dX11_refusePath_0 rfl rfl ?_
    refine S_getR (pc := 1) dX11_refusePath_1 flX11_13 (sA_0 hs) rfl (rA_0_2 hs) ?_
    refine S_iconst (pc := 4) dX11_refusePath_4 ic3 ?_
    refine S_dup2 (pc := 5) dX11_refusePath_5 rfl rfl ?_
    refine S_iald (pc := 6) dX11_refusePath_6 (sA_2 hs) (vp_in_nI (by decide) (by decide)) ?_
    show WP _ _ _ _ _ _ _ 7 _ (.int (f1 (A + 2) 3) :: _) _
    refine S_iconst (pc := 7) dX11_refusePath_7 ic1 ?_
    refine S_iadd (pc := 8) dX11_refusePath_8 ?_
    refine S_iast (pc := 9) dX11_refusePath_9 (sA_2 hs) (Nat.succ_pos _) (vp_in_nI (by decide) (by decide)) ?_
    show WP _ _ _ _ _ _ _ 10 _ _ (sh, (up2 f1 (A + 2) 3 ((f1 (A + 2) 3) + (nI 1))), g2, fR)
    refine S_iconst (pc := 10) dX11_refusePath_10 ic0 ?_
    refine S_zreturn dX11_refusePath_11 rfl (Or.inl rfl) ?_
    show WP _ _ _ _ _ _ _ 42 [some (.ref A), some (.int a1)] [.int (nI 0)] (sh, (up2 f1 (A + 2) 3 ((f1 (A + 2) 3) + (nI 1))), g2, fR)
    exact S_zreturn dX11_spoil_42 rfl (Or.inl rfl) H
  · replace H := H.2 hc4
    refine S_aload_n (pc := 8) dX11_spoil_8 rfl rfl ?_
    refine S_getR (pc := 9) dX11_spoil_9 flX11_47 (sA_0 hs) rfl (rA_0_8 hs) ?_
    refine S_getR (pc := 12) dX11_spoil_12 flX11_186 (sW_0 hs.2.2.2.1) rfl (rW_0_0 hs.2.2.2.1) ?_
    refine S_iload_n (pc := 15) dX11_spoil_15 rfl rfl ?_
    obtain ⟨hb5, H⟩ := H
    obtain ⟨r6, e7, s8, p9, H⟩ := H
    refine S_aald24 (pc := 16) dX11_spoil_16 (sW_1 hs.2.2.2.1) hb5 e7 ?_
    refine S_callV (As := []) (mc := 0) (ms := 0) (pc := 17) dX11_spoil_17 miX8_isAlive mvX8_isAlive mlX11_340 rfl s8 rfl rfl rfl (RmOK.of rfl) H ?_
    rintro _ _ ⟨x12, f10, g11, rfl, rfl, H⟩
    show WP _ _ _ _ _ _ _ 20 [some (.ref A), some (.int a1)] [.int x12] (sh, f10, g11, fR)
    refine S_if_eq (pc := 20) (tgt := 38) dX11_spoil_20 rfl (fun hc13 => ?_) (fun hc13 => ?_)
    · replace H := H.1 hc13
      refine S_aload_n (pc := 38) dX11_spoil_38 rfl rfl ?_
      refine S_callV (As := []) (mc := 0) (ms := 0) (pc := 39) dX11_spoil_39 miX11_refusePath mvX11_refusePath mlX11_333 rfl (sA_0 hs) rfl rfl rfl (RmOK.of rfl) (Q := fun r h => WP _ _ _ _ _ _ _ 42 [some (.ref A), some (.int a1)] (r.toList ++ []) h) (Cl.of miX11_refusePath rfl rfl ?_) (fun _ _ q => q)
      refine S_aload_n (pc := 0) dX11_refusePath_0 rfl rfl ?_
      refine S_getR (pc := 1) dX11_refusePath_1 flX11_13 (sA_0 hs) rfl (rA_0_2 hs) ?_
      refine S_iconst (pc := 4) dX11_refusePath_4 ic3 ?_
      refine S_dup2 (pc := 5) dX11_refusePath_5 rfl rfl ?_
      refine S_iald (pc := 6) dX11_refusePath_6 (sA_2 hs) (vp_in_nI (by decide) (by decide)) ?_
      show WP _ _ _ _ _ _ _ 7 _ (.int (f10 (A + 2) 3) :: _) _
      refine S_iconst (pc := 7) dX11_refusePath_7 ic1 ?_
      refine S_iadd (pc := 8) dX11_refusePath_8 ?_
      refine S_iast (pc := 9) dX11_refusePath_9 (sA_2 hs) (Nat.succ_pos _) (vp_in_nI (by decide) (by decide)) ?_
      show WP _ _ _ _ _ _ _ 10 _ _ (sh, (up2 f10 (A + 2) 3 ((f10 (A + 2) 3) + (nI 1))), g11, fR)
      refine S_iconst (pc := 10) dX11_refusePath_10 ic0 ?_
      refine S_zreturn dX11_refusePath_11 rfl (Or.inl rfl) ?_
      show WP _ _ _ _ _ _ _ 42 [some (.ref A), some (.int a1)] [.int (nI 0)] (sh, (up2 f10 (A + 2) 3 ((f10 (A + 2) 3) + (nI 1))), g11, fR)
      exact S_zreturn dX11_spoil_42 rfl (Or.inl rfl) H
    · replace H := H.2 hc13
      refine S_aload_n (pc := 23) dX11_spoil_23 rfl rfl ?_
      refine S_getR (pc := 24) dX11_spoil_24 flX11_47 (sA_0 hs) rfl (rA_0_8 hs) ?_
      refine S_getR (pc := 27) dX11_spoil_27 flX11_186 (sW_0 hs.2.2.2.1) rfl (rW_0_0 hs.2.2.2.1) ?_
      refine S_iload_n (pc := 30) dX11_spoil_30 rfl rfl ?_
      obtain ⟨hb14, H⟩ := H
      obtain ⟨r15, e16, s17, p18, H⟩ := H
      refine S_aald24 (pc := 31) dX11_spoil_31 (sW_1 hs.2.2.2.1) hb14 e16 ?_
      refine S_get (pc := 32) (v := .int (f10 r15 7)) dX11_spoil_32 flX11_210 s17 rfl ?_
      refine S_if_eq (pc := 35) (tgt := 43) dX11_spoil_35 rfl (fun hc19 => ?_) (fun hc19 => ?_)
      · replace H := H.1 hc19
        refine S_aload_n (pc := 43) dX11_spoil_43 rfl rfl ?_
        refine S_callV (As := []) (mc := 0) (ms := 0) (pc := 44) dX11_spoil_44 miX11_beginAct mvX11_beginAct mlX11_321 rfl (sA_0 hs) rfl rfl rfl (RmOK.of rfl) H ?_
        rintro _ _ ⟨f20, g21, rfl, rfl, H⟩
        show WP _ _ _ _ _ _ _ 47 [some (.ref A), some (.int a1)] [] (sh, f20, g21, fR)
        refine S_aload_n (pc := 47) dX11_spoil_47 rfl rfl ?_
        refine S_getR (pc := 48) dX11_spoil_48 flX11_47 (sA_0 hs) rfl (rA_0_8 hs) ?_
        refine S_getR (pc := 51) dX11_spoil_51 flX11_186 (sW_0 hs.2.2.2.1) rfl (rW_0_0 hs.2.2.2.1) ?_
        refine S_iload_n (pc := 54) dX11_spoil_54 rfl rfl ?_
        obtain ⟨hb22, H⟩ := H
        obtain ⟨r23, e24, s25, p26, H⟩ := H
        refine S_aald24 (pc := 55) dX11_spoil_55 (sW_1 hs.2.2.2.1) hb22 e24 ?_
        refine S_iconst (pc := 56) dX11_spoil_56 ic1 ?_
        refine S_putI (pc := 57) dX11_spoil_57 flX11_210 s25 p26 (nf_8_7) nb1 rfl (fun _ => rfl) ?_
        refine S_iconst (pc := 60) dX11_spoil_60 ic1 ?_
        exact S_zreturn dX11_spoil_61 rfl (Or.inr rfl) H
      · replace H := H.2 hc19
        refine S_aload_n (pc := 38) dX11_spoil_38 rfl rfl ?_
        refine S_callV (As := []) (mc := 0) (ms := 0) (pc := 39) dX11_spoil_39 miX11_refusePath mvX11_refusePath mlX11_333 rfl (sA_0 hs) rfl rfl rfl (RmOK.of rfl) (Q := fun r h => WP _ _ _ _ _ _ _ 42 [some (.ref A), some (.int a1)] (r.toList ++ []) h) (Cl.of miX11_refusePath rfl rfl ?_) (fun _ _ q => q)
        refine S_aload_n (pc := 0) dX11_refusePath_0 rfl rfl ?_
        refine S_getR (pc := 1) dX11_refusePath_1 flX11_13 (sA_0 hs) rfl (rA_0_2 hs) ?_
        refine S_iconst (pc := 4) dX11_refusePath_4 ic3 ?_
        refine S_dup2 (pc := 5) dX11_refusePath_5 rfl rfl ?_
        refine S_iald (pc := 6) dX11_refusePath_6 (sA_2 hs) (vp_in_nI (by decide) (by decide)) ?_
        show WP _ _ _ _ _ _ _ 7 _ (.int (f10 (A + 2) 3) :: _) _
        refine S_iconst (pc := 7) dX11_refusePath_7 ic1 ?_
        refine S_iadd (pc := 8) dX11_refusePath_8 ?_
        refine S_iast (pc := 9) dX11_refusePath_9 (sA_2 hs) (Nat.succ_pos _) (vp_in_nI (by decide) (by decide)) ?_
        show WP _ _ _ _ _ _ _ 10 _ _ (sh, (up2 f10 (A + 2) 3 ((f10 (A + 2) 3) + (nI 1))), g11, fR)
        refine S_iconst (pc := 10) dX11_refusePath_10 ic0 ?_
        refine S_zreturn dX11_refusePath_11 rfl (Or.inl rfl) ?_
        show WP _ _ _ _ _ _ _ 42 [some (.ref A), some (.int a1)] [.int (nI 0)] (sh, (up2 f10 (A + 2) 3 ((f10 (A + 2) 3) + (nI 1))), g11, fR)
        exact S_zreturn dX11_spoil_42 rfl (Or.inl rfl) H
abbrev LpX11_undo_29 (l : Launch) (G : Gx) (d : Nat) (Q : Option Value → Hp → Prop) (sh : Sh) (fR : FRt) (A p : Nat) (f : FI) (g : FL)  : Prop := WP l G (Zq G 0 0 Q) mX11_undo (rmd (d + 3) 0 0) 0 0 29 [some (.ref A), none] [] (sh, f, g, fR)
set_option maxHeartbeats 2000000 in
set_option maxRecDepth 4000 in
theorem VX11_undo {l : Launch} {G : Gx} {d : Nat} {Q : Option Value → Hp → Prop} {sh : Sh} {fR : FRt} {A p : Nat} {f : FI} {g : FL}  (hs : StA sh fR A) (hp : fR A 5 = some p) (hn : fR (A + 40) 7 = some p) (hP : StPl sh fR p)
    (H : (∀ w1 : Int32, w1 = (((f A 11) + (nI 20)) - (nI 1)) - (((f A 11) + (nI 20)) - (nI 1)) / (nI 20) * (nI 20) → (((f A 12) = 0 → LpX11_undo_29 l G d Q sh fR A p f g) ∧ (¬ (f A 12) = 0 → inb w1 20 ∧ ((fR (A + 104) w1.toNatClampNeg = none → LpX11_undo_29 l G d Q sh fR A p f g) ∧ (∀ r5, fR (A + 104) w1.toNatClampNeg = some r5 → sh[r5]? = some (10, 16) ∧ 0 < r5 ∧ inb w1 20 ∧ ((fR (A + 104) w1.toNatClampNeg = none → False) ∧ (∀ r10, fR (A + 104) w1.toNatClampNeg = some r10 → sh[r10]? = some (10, 16) ∧ 0 < r10 ∧ (∃ u20, fR r10 7 = some u20 ∧ StPl sh fR u20 ∧ Cl l G (d + 2) 0 0 mX10_copyFrom [.ref (A + 40), .ref r10] (sh, f, g, fR) (qv sh (up2 fR (A + 40) 7 (some u20)) fun f23 g24 => Q (some (.int (nI 1))) (sh, (up2 (up2 f23 A 11 w1) A 12 ((f23 A 12) - (nI 1))), g24, (up2 fR (A + 40) 7 (some u20))))))))))))) :
    Cl l G (d + 3) 0 0 mX11_undo [.ref A] (sh, f, g, fR) Q := by
  refine Cl.of (L0 := [some (.ref A), none]) miX11_undo rfl rfl ?_
  refine S_aload_n (pc := 0) dX11_undo_0 rfl rfl ?_
  refine S_get (pc := 1) (v := .int (f A 11)) dX11_undo_1 flX11_327 (sA_0 hs) rfl ?_
  refine S_bipush (pc := 4) dX11_undo_4 bp20 ?_
  refine S_iadd (pc := 6) dX11_undo_6 ?_
  refine S_iconst (pc := 7) dX11_undo_7 ic1 ?_
  refine S_isub (pc := 8) dX11_undo_8 ?_
  refine S_bipush (pc := 9) dX11_undo_9 bp20 ?_
  refine S_irem (pc := 11) dX11_undo_11 (by decide) ?_
  refine S_namei (fun w1 e2 => ?_)
  replace H := H w1 e2
  refine S_istore_n (pc := 12) (L' := [some (.ref A), some (.int w1)]) dX11_undo_12 rfl (by decide) rfl ?_
  refine S_aload_n (pc := 13) dX11_undo_13 rfl rfl ?_
  refine S_get (pc := 14) (v := .int (f A 12)) dX11_undo_14 flX11_95 (sA_0 hs) rfl ?_
  refine S_if_eq (pc := 17) (tgt := 29) dX11_undo_17 rfl (fun hc3 => ?_) (fun hc3 => ?_)
  · replace H := H.1 hc3
    exact S_weak (L' := [some (.ref A), none]) (ls_e (ls_n ls_0)) H
  · replace H := H.2 hc3
    refine S_aload_n (pc := 20) dX11_undo_20 rfl rfl ?_
    refine S_getR (pc := 21) dX11_undo_21 flX11_54 (sA_0 hs) rfl (rA_0_10 hs) ?_
    refine S_iload_n (pc := 24) dX11_undo_24 rfl rfl ?_
    obtain ⟨hb4, H⟩ := H
    rcases e6 : fR (A + 104) w1.toNatClampNeg with _ | r5
    · replace H := H.1 e6
      refine S_aald25N (pc := 25) dX11_undo_25 (sA_104 hs) hb4 e6 ?_
      refine S_ifnonnullN (pc := 26) dX11_undo_26 ?_
      exact S_weak (L' := [some (.ref A), none]) (ls_e (ls_n ls_0)) H
    · obtain ⟨s7, p8, H⟩ := H.2 r5 e6
      refine S_aald25 (pc := 25) dX11_undo_25 (sA_104 hs) hb4 e6 ?_
      refine S_ifnonnull (pc := 26) (tgt := 41) dX11_undo_26 rfl ?_
      refine S_aload_n (pc := 41) dX11_undo_41 rfl rfl ?_
      refine S_getR (pc := 42) dX11_undo_42 flX11_47 (sA_0 hs) rfl (rA_0_8 hs) ?_
      refine S_aload_n (pc := 45) dX11_undo_45 rfl rfl ?_
      refine S_getR (pc := 46) dX11_undo_46 flX11_54 (sA_0 hs) rfl (rA_0_10 hs) ?_
      refine S_iload_n (pc := 49) dX11_undo_49 rfl rfl ?_
      obtain ⟨hb9, H⟩ := H
      rcases e11 : fR (A + 104) w1.toNatClampNeg with _ | r10
      · replace H := H.1 e11
        refine S_aald25N (pc := 50) dX11_undo_50 (sA_104 hs) hb9 e11 ?_
        exact H.elim
      · obtain ⟨s12, p13, H⟩ := H.2 r10 e11
        refine S_aald25 (pc := 50) dX11_undo_50 (sA_104 hs) hb9 e11 ?_
        obtain ⟨u20, e21, hP22, H⟩ := H
        refine S_callV (As := [.ref r10]) (mc := 0) (ms := 0) (pc := 51) dX11_undo_51 miX10_copyFrom mvX10_copyFrom mlX11_251 rfl (sW_0 hs.2.2.2.1) rfl rfl rfl (RmOK.of rfl) H ?_
        rintro _ _ ⟨f23, g24, rfl, rfl, H⟩
        show WP _ _ _ _ _ _ _ 54 [some (.ref A), some (.int w1)] [] (sh, f23, g24, (up2 fR (A + 40) 7 (some u20)))
        refine S_aload_n (pc := 54) dX11_undo_54 rfl rfl ?_
        refine S_iload_n (pc := 55) dX11_undo_55 rfl rfl ?_
        refine S_putI (pc := 56) dX11_undo_56 flX11_327 (sA_0 hs) hs.2.2.1 (nf_11_11) rfl rfl (fun _ => rfl) ?_
        refine S_aload_n (pc := 59) dX11_undo_59 rfl rfl ?_
        refine S_dup (pc := 60) dX11_undo_60 rfl ?_
        refine S_get (pc := 61) (v := .int ((up2 f23 A 11 w1) A 12)) dX11_undo_61 flX11_95 (sA_0 hs) rfl ?_
        refine S_eqi (x := f23 A 12) ((up2_k (by decide)).trans rfl) ?_
        refine S_iconst (pc := 64) dX11_undo_64 ic1 ?_
        refine S_isub (pc := 65) dX11_undo_65 ?_
        refine S_putI (pc := 66) dX11_undo_66 flX11_95 (sA_0 hs) hs.2.2.1 (nf_11_12) rfl rfl (fun _ => rfl) ?_
        refine S_iconst (pc := 69) dX11_undo_69 ic1 ?_
        exact S_zreturn dX11_undo_70 rfl (Or.inr rfl) H
set_option maxHeartbeats 2000000 in
set_option maxRecDepth 4000 in
theorem VX11_undo_29 {l : Launch} {G : Gx} {d : Nat} {Q : Option Value → Hp → Prop} {sh : Sh} {fR : FRt} {A p : Nat} {f : FI} {g : FL}  (hs : StA sh fR A) (hp : fR A 5 = some p) (hn : fR (A + 40) 7 = some p) (hP : StPl sh fR p)
    (H : Q (some (.int (nI 0))) (sh, (up2 f (A + 2) 4 ((f (A + 2) 4) + (nI 1))), g, fR)) :
    LpX11_undo_29 l G d Q sh fR A p f g  := by
  refine S_aload_n (pc := 29) dX11_undo_29 rfl rfl ?_
  refine S_getR (pc := 30) dX11_undo_30 flX11_13 (sA_0 hs) rfl (rA_0_2 hs) ?_
  refine S_iconst (pc := 33) dX11_undo_33 ic4 ?_
  refine S_dup2 (pc := 34) dX11_undo_34 rfl rfl ?_
  refine S_iald (pc := 35) dX11_undo_35 (sA_2 hs) (vp_in_nI (by decide) (by decide)) ?_
  show WP _ _ _ _ _ _ _ 36 _ (.int (f (A + 2) 4) :: _) _
  refine S_iconst (pc := 36) dX11_undo_36 ic1 ?_
  refine S_iadd (pc := 37) dX11_undo_37 ?_
  refine S_iast (pc := 38) dX11_undo_38 (sA_2 hs) (Nat.succ_pos _) (vp_in_nI (by decide) (by decide)) ?_
  show WP _ _ _ _ _ _ _ 39 _ _ (sh, (up2 f (A + 2) 4 ((f (A + 2) 4) + (nI 1))), g, fR)
  refine S_iconst (pc := 39) dX11_undo_39 ic0 ?_
  exact S_zreturn dX11_undo_40 rfl (Or.inl rfl) H
set_option maxHeartbeats 2000000 in
set_option maxRecDepth 4000 in
theorem VX11_seed {l : Launch} {G : Gx} {d : Nat} {Q : Option Value → Hp → Prop} {sh : Sh} {fR : FRt} {A p : Nat} {f : FI} {g : FL} {a1 : Int32} (hs : StA sh fR A) (hp : fR A 5 = some p) (hn : fR (A + 40) 7 = some p) (hP : StPl sh fR p)
    (H : ((0 ≤ a1 → Q (some (.int (nI 1))) (sh, (up2 f (A + 3) 0 a1), g, fR)) ∧ (¬ 0 ≤ a1 → Q (some (.int (nI 0))) (sh, (up2 f (A + 2) 5 ((f (A + 2) 5) + (nI 1))), g, fR)))) :
    Cl l G d 0 0 mX11_seed [.ref A, .int a1] (sh, f, g, fR) Q := by
  refine Cl.of (L0 := [some (.ref A), some (.int a1)]) miX11_seed rfl rfl ?_
  refine S_iload_n (pc := 0) dX11_seed_0 rfl rfl ?_
  refine S_if_ge (pc := 1) (tgt := 16) dX11_seed_1 rfl (fun hc1 => ?_) (fun hc1 => ?_)
  · replace H := H.1 hc1
    refine S_aload_n (pc := 16) dX11_seed_16 rfl rfl ?_
    refine S_getR (pc := 17) dX11_seed_17 flX11_19 (sA_0 hs) rfl (rA_0_3 hs) ?_
    refine S_iload_n (pc := 20) dX11_seed_20 rfl rfl ?_
    refine S_putI (pc := 21) dX11_seed_21 flX11_104 (sA_3 hs) (Nat.succ_pos _) (nf_1_0) rfl rfl (fun _ => rfl) ?_
    refine S_iconst (pc := 24) dX11_seed_24 ic1 ?_
    exact S_zreturn dX11_seed_25 rfl (Or.inr rfl) H
  · replace H := H.2 hc1
    refine S_aload_n (pc := 4) dX11_seed_4 rfl rfl ?_
    refine S_getR (pc := 5) dX11_seed_5 flX11_13 (sA_0 hs) rfl (rA_0_2 hs) ?_
    refine S_iconst (pc := 8) dX11_seed_8 ic5 ?_
    refine S_dup2 (pc := 9) dX11_seed_9 rfl rfl ?_
    refine S_iald (pc := 10) dX11_seed_10 (sA_2 hs) (vp_in_nI (by decide) (by decide)) ?_
    show WP _ _ _ _ _ _ _ 11 _ (.int (f (A + 2) 5) :: _) _
    refine S_iconst (pc := 11) dX11_seed_11 ic1 ?_
    refine S_iadd (pc := 12) dX11_seed_12 ?_
    refine S_iast (pc := 13) dX11_seed_13 (sA_2 hs) (Nat.succ_pos _) (vp_in_nI (by decide) (by decide)) ?_
    show WP _ _ _ _ _ _ _ 14 _ _ (sh, (up2 f (A + 2) 5 ((f (A + 2) 5) + (nI 1))), g, fR)
    refine S_iconst (pc := 14) dX11_seed_14 ic0 ?_
    exact S_zreturn dX11_seed_15 rfl (Or.inl rfl) H
set_option maxHeartbeats 2000000 in
set_option maxRecDepth 4000 in
theorem VX11_kept {l : Launch} {G : Gx} {d : Nat} {Q : Option Value → Hp → Prop} {sh : Sh} {fR : FRt} {A p : Nat} {f : FI} {g : FL} {a1 : Int32} {a2 : Int32} (hs : StA sh fR A) (hp : fR A 5 = some p) (hn : fR (A + 40) 7 = some p) (hP : StPl sh fR p)
    (H : (((f A 4) = 0 → Q (some (.int (-1))) (sh, f, g, fR)) ∧ (¬ (f A 4) = 0 → ((a1 < 0 → Q (some (.int (-1))) (sh, f, g, fR)) ∧ (¬ a1 < 0 → ((a1 < (f (A + 40 + 23) 3) → (∀ w4 : Int32, w4 = ((((f (A + 40 + 23) 4) + (nI 40)) - (f (A + 40 + 23) 3)) + a1) - ((((f (A + 40 + 23) 4) + (nI 40)) - (f (A + 40 + 23) 3)) + a1) / (nI 40) * (nI 40) → ((a2 = nI 0 → inb w4 40 ∧ Q (some (.int (f (A + 40 + 24) w4.toNatClampNeg))) (sh, f, g, fR)) ∧ (a2 = nI 1 → inb w4 40 ∧ Q (some (.int (f (A + 40 + 25) w4.toNatClampNeg))) (sh, f, g, fR)) ∧ (a2 = nI 2 → inb w4 40 ∧ Q (some (.int (f (A + 40 + 26) w4.toNatClampNeg))) (sh, f, g, fR)) ∧ ((¬ a2 = nI 0 ∧ ¬ a2 = nI 1 ∧ ¬ a2 = nI 2) → Q (some (.int (-1))) (sh, f, g, fR))))) ∧ (¬ a1 < (f (A + 40 + 23) 3) → Q (some (.int (-1))) (sh, f, g, fR)))))))) :
    Cl l G (d + 1) 0 0 mX11_kept [.ref A, .int a1, .int a2] (sh, f, g, fR) Q := by
  refine Cl.of (L0 := [some (.ref A), some (.int a1), some (.int a2), none]) miX11_kept rfl rfl ?_
  refine S_aload_n (pc := 0) dX11_kept_0 rfl rfl ?_
  refine S_get (pc := 1) (v := .int (f A 4)) dX11_kept_1 flX11_85 (sA_0 hs) rfl ?_
  refine S_if_eq (pc := 4) (tgt := 25) dX11_kept_4 rfl (fun hc1 => ?_) (fun hc1 => ?_)
  · replace H := H.1 hc1
    refine S_iconst (pc := 25) dX11_kept_25 icm1 ?_
    exact S_ireturn dX11_kept_26 rfl H
  · replace H := H.2 hc1
    refine S_iload_n (pc := 7) dX11_kept_7 rfl rfl ?_
    refine S_if_lt (pc := 8) (tgt := 25) dX11_kept_8 rfl (fun hc2 => ?_) (fun hc2 => ?_)
    · replace H := H.1 hc2
      refine S_iconst (pc := 25) dX11_kept_25 icm1 ?_
      exact S_ireturn dX11_kept_26 rfl H
    · replace H := H.2 hc2
      refine S_iload_n (pc := 11) dX11_kept_11 rfl rfl ?_
      refine S_aload_n (pc := 12) dX11_kept_12 rfl rfl ?_
      refine S_getR (pc := 13) dX11_kept_13 flX11_47 (sA_0 hs) rfl (rA_0_8 hs) ?_
      refine S_getR (pc := 16) dX11_kept_16 flX11_168 (sW_0 hs.2.2.2.1) rfl (rW_0_5 hs.2.2.2.1) ?_
      refine S_get (pc := 19) (v := .int (f (A + 40 + 23) 3)) dX11_kept_19 flX11_172 (sW_23 hs.2.2.2.1) rfl ?_
      refine S_icmp_lt (pc := 22) (tgt := 27) dX11_kept_22 rfl (fun hc3 => ?_) (fun hc3 => ?_)
      · replace H := H.1 hc3
        refine S_aload_n (pc := 27) dX11_kept_27 rfl rfl ?_
        refine S_getR (pc := 28) dX11_kept_28 flX11_47 (sA_0 hs) rfl (rA_0_8 hs) ?_
        refine S_getR (pc := 31) dX11_kept_31 flX11_168 (sW_0 hs.2.2.2.1) rfl (rW_0_5 hs.2.2.2.1) ?_
        refine S_iload_n (pc := 34) dX11_kept_34 rfl rfl ?_
        refine S_callV (As := [.int a1]) (mc := 0) (ms := 0) (pc := 35) dX11_kept_35 miX4_rowOf mvX4_rowOf mlX11_343 rfl (sW_23 hs.2.2.2.1) rfl rfl rfl (RmOK.of rfl) (Q := fun r h => WP _ _ _ _ _ _ _ 38 [some (.ref A), some (.int a1), some (.int a2), none] (r.toList ++ []) h) (Cl.of miX4_rowOf rfl rfl ?_) (fun _ _ q => q)
        refine S_aload_n (pc := 0) dX4_rowOf_0 rfl rfl ?_
        refine S_get (pc := 1) (v := .int (f (A + 40 + 23) 4)) dX4_rowOf_1 flX4_23 (sW_23 hs.2.2.2.1) rfl ?_
        refine S_bipush (pc := 4) dX4_rowOf_4 bp40 ?_
        refine S_iadd (pc := 6) dX4_rowOf_6 ?_
        refine S_aload_n (pc := 7) dX4_rowOf_7 rfl rfl ?_
        refine S_get (pc := 8) (v := .int (f (A + 40 + 23) 3)) dX4_rowOf_8 flX4_19 (sW_23 hs.2.2.2.1) rfl ?_
        refine S_isub (pc := 11) dX4_rowOf_11 ?_
        refine S_iload_n (pc := 12) dX4_rowOf_12 rfl rfl ?_
        refine S_iadd (pc := 13) dX4_rowOf_13 ?_
        refine S_bipush (pc := 14) dX4_rowOf_14 bp40 ?_
        refine S_irem (pc := 16) dX4_rowOf_16 (by decide) ?_
        refine S_ireturn dX4_rowOf_17 rfl ?_
        show WP _ _ _ _ _ _ _ 38 [some (.ref A), some (.int a1), some (.int a2), none] [.int (((((f (A + 40 + 23) 4) + (nI 40)) - (f (A + 40 + 23) 3)) + a1) - ((((f (A + 40 + 23) 4) + (nI 40)) - (f (A + 40 + 23) 3)) + a1) / (nI 40) * (nI 40))] (sh, f, g, fR)
        refine S_namei (fun w4 e5 => ?_)
        replace H := H w4 e5
        refine S_istore_n (pc := 38) (L' := [some (.ref A), some (.int a1), some (.int a2), some (.int w4)]) dX11_kept_38 rfl (by decide) rfl ?_
        refine S_iload_n (pc := 39) dX11_kept_39 rfl rfl ?_
        by_cases hc6 : a2 = nI 0
        · replace H := H.1 hc6
          refine S_tsw (pc := 40) (tgt := 68) dX11_kept_40 (Or.inr ⟨by rw [hc6]; decide, by rw [hc6]; decide, _, by rw [hc6]; rfl, rfl⟩) ?_
          refine S_aload_n (pc := 68) dX11_kept_68 rfl rfl ?_
          refine S_getR (pc := 69) dX11_kept_69 flX11_47 (sA_0 hs) rfl (rA_0_8 hs) ?_
          refine S_getR (pc := 72) dX11_kept_72 flX11_168 (sW_0 hs.2.2.2.1) rfl (rW_0_5 hs.2.2.2.1) ?_
          refine S_getR (pc := 75) dX11_kept_75 flX11_346 (sW_23 hs.2.2.2.1) rfl (rW_23_0 hs.2.2.2.1) ?_
          refine S_iload_n (pc := 78) dX11_kept_78 rfl rfl ?_
          obtain ⟨hb7, H⟩ := H
          refine S_iald (pc := 79) dX11_kept_79 (sW_24 hs.2.2.2.1) hb7 ?_
          exact S_ireturn dX11_kept_80 rfl H
        · by_cases hc8 : a2 = nI 1
          · replace H := H.2.1 hc8
            refine S_tsw (pc := 40) (tgt := 81) dX11_kept_40 (Or.inr ⟨by rw [hc8]; decide, by rw [hc8]; decide, _, by rw [hc8]; rfl, rfl⟩) ?_
            refine S_aload_n (pc := 81) dX11_kept_81 rfl rfl ?_
            refine S_getR (pc := 82) dX11_kept_82 flX11_47 (sA_0 hs) rfl (rA_0_8 hs) ?_
            refine S_getR (pc := 85) dX11_kept_85 flX11_168 (sW_0 hs.2.2.2.1) rfl (rW_0_5 hs.2.2.2.1) ?_
            refine S_getR (pc := 88) dX11_kept_88 flX11_349 (sW_23 hs.2.2.2.1) rfl (rW_23_1 hs.2.2.2.1) ?_
            refine S_iload_n (pc := 91) dX11_kept_91 rfl rfl ?_
            obtain ⟨hb9, H⟩ := H
            refine S_iald (pc := 92) dX11_kept_92 (sW_25 hs.2.2.2.1) hb9 ?_
            exact S_ireturn dX11_kept_93 rfl H
          · by_cases hc10 : a2 = nI 2
            · replace H := H.2.2.1 hc10
              refine S_tsw (pc := 40) (tgt := 94) dX11_kept_40 (Or.inr ⟨by rw [hc10]; decide, by rw [hc10]; decide, _, by rw [hc10]; rfl, rfl⟩) ?_
              refine S_aload_n (pc := 94) dX11_kept_94 rfl rfl ?_
              refine S_getR (pc := 95) dX11_kept_95 flX11_47 (sA_0 hs) rfl (rA_0_8 hs) ?_
              refine S_getR (pc := 98) dX11_kept_98 flX11_168 (sW_0 hs.2.2.2.1) rfl (rW_0_5 hs.2.2.2.1) ?_
              refine S_getR (pc := 101) dX11_kept_101 flX11_350 (sW_23 hs.2.2.2.1) rfl (rW_23_2 hs.2.2.2.1) ?_
              refine S_iload_n (pc := 104) dX11_kept_104 rfl rfl ?_
              obtain ⟨hb11, H⟩ := H
              refine S_iald (pc := 105) dX11_kept_105 (sW_26 hs.2.2.2.1) hb11 ?_
              exact S_ireturn dX11_kept_106 rfl H
            · replace H := H.2.2.2 ⟨hc6, hc8, hc10⟩
              refine S_tsw (pc := 40) (tgt := 107) dX11_kept_40 (Or.inl ⟨tsw_out (lo := 0) (hi := 2) (fun j h1 h2 => by rcases (show j = 0 ∨ j = 1 ∨ j = 2 by omega) with rfl | rfl | rfl <;> assumption), rfl⟩) ?_
              refine S_iconst (pc := 107) dX11_kept_107 icm1 ?_
              exact S_ireturn dX11_kept_108 rfl H
      · replace H := H.2 hc3
        refine S_iconst (pc := 25) dX11_kept_25 icm1 ?_
        exact S_ireturn dX11_kept_26 rfl H
set_option maxHeartbeats 2000000 in
set_option maxRecDepth 4000 in
theorem VX11_status {l : Launch} {G : Gx} {d : Nat} {Q : Option Value → Hp → Prop} {sh : Sh} {fR : FRt} {A p : Nat} {f : FI} {g : FL} {a1 : Int32} (hs : StA sh fR A) (hp : fR A 5 = some p) (hn : fR (A + 40) 7 = some p) (hP : StPl sh fR p)
    (H : ((a1 < 0 → Q (some (.int (-1))) (sh, f, g, fR)) ∧ (¬ a1 < 0 → ((a1 ≤ (nI 5) → inb a1 6 ∧ Q (some (.int (f (A + 2) a1.toNatClampNeg))) (sh, f, g, fR)) ∧ (¬ a1 ≤ (nI 5) → Q (some (.int (-1))) (sh, f, g, fR)))))) :
    Cl l G d 0 0 mX11_status [.ref A, .int a1] (sh, f, g, fR) Q := by
  refine Cl.of (L0 := [some (.ref A), some (.int a1)]) miX11_status rfl rfl ?_
  refine S_iload_n (pc := 0) dX11_status_0 rfl rfl ?_
  refine S_if_lt (pc := 1) (tgt := 9) dX11_status_1 rfl (fun hc1 => ?_) (fun hc1 => ?_)
  · replace H := H.1 hc1
    refine S_iconst (pc := 9) dX11_status_9 icm1 ?_
    refine S_goto (pc := 10) (tgt := 19) dX11_status_10 rfl ?_
    exact S_ireturn dX11_status_19 rfl H
  · replace H := H.2 hc1
    refine S_iload_n (pc := 4) dX11_status_4 rfl rfl ?_
    refine S_iconst (pc := 5) dX11_status_5 ic5 ?_
    refine S_icmp_le (pc := 6) (tgt := 13) dX11_status_6 rfl (fun hc2 => ?_) (fun hc2 => ?_)
    · replace H := H.1 hc2
      refine S_aload_n (pc := 13) dX11_status_13 rfl rfl ?_
      refine S_getR (pc := 14) dX11_status_14 flX11_13 (sA_0 hs) rfl (rA_0_2 hs) ?_
      refine S_iload_n (pc := 17) dX11_status_17 rfl rfl ?_
      obtain ⟨hb3, H⟩ := H
      refine S_iald (pc := 18) dX11_status_18 (sA_2 hs) hb3 ?_
      exact S_ireturn dX11_status_19 rfl H
    · replace H := H.2 hc2
      refine S_iconst (pc := 9) dX11_status_9 icm1 ?_
      refine S_goto (pc := 10) (tgt := 19) dX11_status_10 rfl ?_
      exact S_ireturn dX11_status_19 rfl H
