/-! the law: its cases -/
abbrev mLaw : Md := (x, code, maxLocals, ret)
def LInv (L : Nat) (xs : Nat → Int32) (sh : Sh) (f : FI) (g : FL) (fR : FRt) (Z : Zs) : Prop := PSt sh fR f 1 Z ∧ MSt f g 118 Z ∧ StM sh fR 118 ∧ zOK Z ∧ sh[0]? = some (30, L) ∧ ∀ k, k < L → f 0 k = xs k
def LMid (L : Nat) (xs : Nat → Int32) (sh : Sh) (f : FI) (g : FL) (fR : FRt) (Z Z' : Zs) : Prop := PSt sh fR f 1 Z' ∧ MSt f g 118 Z ∧ StM sh fR 118 ∧ zOK Z ∧ zOK Z' ∧ sh[0]? = some (30, L) ∧ ∀ k, k < L → f 0 k = xs k
section LAW
variable {l : Launch} {G : Gx} {Z0' : Zt} {L : Nat} {xs : Nat → Int32} {sh : Sh} {f : FI} {g : FL} {fR : FRt} {Z : Zs} {kc ks i : Nat}
theorem PSt.shA (h : PSt sh fR f 1 Z) : sh[1]? = some (11, 16) := by
  obtain ⟨u, v, hr, -⟩ := h
  exact sA_0 hr.1
theorem PSt.len (h : PSt sh fR f 1 Z) : 156 ≤ sh.length := by
  obtain ⟨u, v, hr, -⟩ := h
  exact hr.2.2.2.2.2.2.2.1
theorem PSt.ref {f' : FI} (h : PSt sh fR f 1 Z) (e : ∀ r k, (r < 118 ∨ 156 ≤ r) → f' r k = f r k) : PSt sh fR f' 1 Z := by
  obtain ⟨u, v, hr, hx⟩ := h
  obtain ⟨-, -, hu1, hu2, -, -⟩ := hr.pl
  exact ⟨u, v, hr, hx.keep hr (fun r k z => e r k (by
    rcases z with z | z
    · unfold kpP at z; omega
    · omega))⟩
theorem MSt.cls {sh' : Sh} {f' : FI} {g' : FL} {fR' : FRt} (h : MSt f g 118 Z) (hl : 156 ≤ sh.length) (hF : FrP 1 sh fR f sh' fR' f') (hg : ∀ r k, r < sh.length → g' r k = g r k) : MSt f' g' 118 Z := by
  refine h.keep (fun r k z => (hF.1 r k (Or.inr ?_)).1) (fun k => hg _ _ (by omega)) (hg _ _ (by omega))
  rcases z with z | z
  · unfold kpM at z; omega
  · omega
theorem StM.cls {sh' : Sh} {f' : FI} {fR' : FRt} (h : StM sh fR 118) (hl : 156 ≤ sh.length) (hF : FrP 1 sh fR f sh' fR' f') : StM sh' fR' 118 := by
  refine ⟨fun i q hi => ?_, fun q hq => ?_, h.2.2⟩
  · have hi2 : i < 38 := (List.getElem?_eq_some_iff.mp hi).1
    rw [hF.2 _ (by omega)]
    exact h.1 i q hi
  · rw [(hF.1 118 q.1 (Or.inr (by omega))).2]
    exact h.2.1 q hq
theorem LInv.cls {v : Option Value} {h' : Hp} {Z' : Zs} {y : Int32} (h : LInv L xs sh f g fR Z) (hp : RG 1 sh fR f g Z' y v h') : ∃ sh' f' g' fR', v = some (.int y) ∧ h' = (sh', f', g', fR') ∧ LMid L xs sh' f' g' fR' Z Z' := by
  obtain ⟨h1, h2, h3, h4, h5, h6⟩ := h
  obtain ⟨sh', f', g', fR', e1, e2, p1, p2, p3, p4, p5⟩ := hp
  have hl := h1.len
  exact ⟨sh', f', g', fR', e1, e2, p1, h2.cls hl p3 p4, h3.cls hl p3, h4, p2, by rw [p3.2 0 (by omega)]; exact h5, fun k hk => by rw [(p3.1 0 k (Or.inl rfl)).1]; exact h6 k hk⟩
theorem LMid.ref {v : Option Value} {h' : Hp} {Z' : Zs} {y : Int32} (h : LMid L xs sh f g fR Z Z') (hp : RQ 118 sh fR f g Z' y v h') : ∃ f' g', v = some (.int y) ∧ h' = (sh, f', g', fR) ∧ LInv L xs sh f' g' fR Z' := by
  obtain ⟨h1, h2, h3, h4, h5, h6, h7⟩ := h
  obtain ⟨f', g', e1, e2, p1, p2⟩ := hp
  exact ⟨f', g', e1, e2, h1.ref (fun r k z => p2 r k (by omega)), p1, h3, h5, h6, fun k hk => by rw [p2 0 k (by omega)]; exact h7 k hk⟩
theorem S_wide {Z0 : Zt} {md : Md} {R : Room} {pc kc' ks' : Nat} {LL : List (Option Value)} {S : List Value} {h : Hp} (h1 : kc' ≤ kc) (h2 : ks' ≤ ks) (k : WP l G Z0 md R kc' ks' pc LL S h) : WP l G Z0 md R kc ks pc LL S h := by
  intro p e s m args below meth c C ls H locs cells slots hl hh hs hc hk
  exact k p e s m args below meth c C ls H locs cells slots hl hh hs (by omega) (by omega)
theorem S_slen {md : Md} {R : Room} {pc n : Nat} {LL : List (Option Value)} {S : List Value} {h : Hp} (hd : decode md.2.1 pc = .ok (.arraylength, 1)) (hs : h.1[0]? = some (30, n)) (kk : WP l G Z0' md R kc ks (pc + 1) LL (.int (nI n) :: S) h) : WP l G Z0' md R kc ks pc LL (.ref 0 :: S) h := by
  intro p e s m args below meth c C ls H locs cells slots hl hh hS hc hk
  have hX := hh.2.2 0 (30, n) hs
  unfold cellOK at hX
  rw [if_neg (show ¬ ((30, n) : Nat × Nat).1 < 13 from Nat.not_lt.mpr (Nat.le_of_ble_eq_true rfl)), if_neg (show ¬ ((30, n) : Nat × Nat).1 < 30 from Nat.lt_irrefl 30)] at hX
  obtain ⟨scr, h1, h2, h3, h4, h5⟩ := hX
  exact W.alen (n := Int32.ofNat n) C.1 C.2.1 h1 h2 (by rw [h4] <;> rfl) rfl rfl hd (kk p e s m args below meth c C ls H locs cells slots hl hh hS hc hk)
theorem S_sld {md : Md} {R : Room} {pc n : Nat} {j : Int32} {LL : List (Option Value)} {S : List Value} {h : Hp} (hd : decode md.2.1 pc = .ok (.iaload, 1)) (hs : h.1[0]? = some (30, n)) (hin : inb j n) (kk : WP l G Z0' md R kc ks (pc + 1) LL (.int (h.2.1 0 j.toNatClampNeg) :: S) h) : WP l G Z0' md R kc ks pc LL (.int j :: .ref 0 :: S) h := by
  intro p e s m args below meth c C ls H locs cells slots hl hh hS hc hk
  have hX := hh.2.2 0 (30, n) hs
  unfold cellOK at hX
  rw [if_neg (show ¬ ((30, n) : Nat × Nat).1 < 13 from Nat.not_lt.mpr (Nat.le_of_ble_eq_true rfl)), if_neg (show ¬ ((30, n) : Nat × Nat).1 < 30 from Nat.lt_irrefl 30)] at hX
  obtain ⟨scr, h1, h2, h3, h4, h5⟩ := hX
  have hlt : j.toNatClampNeg < n := Nat.not_le.mp fun q => hin (Or.inr q)
  exact W.iald (v := .int (h.2.1 0 j.toNatClampNeg)) C.1 C.2.1 h1 h2 h3 (by rw [h4]; exact hin) (h5 _ hlt) rfl rfl hd (kk p e s m args below meth c C ls H locs cells slots hl hh hS hc hk)
theorem S_arg {R : Room} {pc k : Nat} {n : Int} {v : Int32} {S : List Value} {h : Hp} (d0 : decode code pc = .ok (.aload_n 0, 1)) (d1 : decode code (pc + 1) = .ok (.iload_n 3, 1)) (d2 : decode code (pc + 2) = .ok (.iconst n, 1)) (hn : Int32.ofInt n = nI k) (d3 : decode code (pc + 3) = .ok (.iadd, 1)) (d4 : decode code (pc + 4) = .ok (.iaload, 1)) (hs : h.1[0]? = some (30, L)) (hL : L ≤ 3072) (hi : i + k < L) (hv : h.2.1 0 (i + k) = v) (kk : WP l G Z0' mLaw R kc ks (pc + 5) [some (.ref 0), some (.ref 1), some (.ref 118), some (.int (nI i))] (.int v :: S) h) : WP l G Z0' mLaw R kc ks pc [some (.ref 0), some (.ref 1), some (.ref 118), some (.int (nI i))] S h := by
  refine S_aload_n (pc := pc) (i := 0) d0 rfl rfl ?_
  refine S_iload_n (pc := pc + 1) (i := 3) d1 rfl rfl ?_
  refine S_iconst (pc := pc + 2) (v := nI k) d2 hn ?_
  refine S_iadd (pc := pc + 3) d3 ?_
  rw [nI_add]
  refine S_sld (pc := pc + 4) d4 hs (inbN hi (by omega)) ?_
  rw [clN (by omega), hv]
  exact kk
set_option maxRecDepth 4000 in
theorem LC_feed (hL : L ≤ 3072) (hI : LInv L xs sh f g fR Z) (hi : i + 5 < L) (K0 : ∀ sh f g fR Z, LInv L xs sh f g fR Z → WP l G Z0' mLaw room_1 kc ks 874 [some (.ref 0), some (.ref 1), some (.ref 118), some (.int (nI i))] [] (sh, f, g, fR)) : WP l G Z0' mLaw room_1 (kc + 32) (ks + 8095) 160 [some (.ref 0), some (.ref 1), some (.ref 118), some (.int (nI i))] [] (sh, f, g, fR) := by
  refine S_wide (kc' := kc + 0) (ks' := ks + 0) (by omega) (by omega) ?_
  refine S_aload_n (pc := 160) (i := 1) dL_160 rfl rfl ?_
  refine S_arg (pc := 161) (k := 1) dL_161 dL_162 dL_163 (by decide) dL_164 dL_165 hI.2.2.2.2.1 hL (by omega) (hI.2.2.2.2.2 _ (by omega)) ?_
  refine S_arg (pc := 166) (k := 2) dL_166 dL_167 dL_168 (by decide) dL_169 dL_170 hI.2.2.2.2.1 hL (by omega) (hI.2.2.2.2.2 _ (by omega)) ?_
  refine S_arg (pc := 171) (k := 3) dL_171 dL_172 dL_173 (by decide) dL_174 dL_175 hI.2.2.2.2.1 hL (by omega) (hI.2.2.2.2.2 _ (by omega)) ?_
  refine S_arg (pc := 176) (k := 4) dL_176 dL_177 dL_178 (by decide) dL_179 dL_180 hI.2.2.2.2.1 hL (by omega) (hI.2.2.2.2.2 _ (by omega)) ?_
  refine S_arg (pc := 181) (k := 5) dL_181 dL_182 dL_183 (by decide) dL_184 dL_185 hI.2.2.2.2.1 hL (by omega) (hI.2.2.2.2.2 _ (by omega)) ?_
  refine S_callV (As := [.int (xs (i + 1)), .int (xs (i + 2)), .int (xs (i + 3)), .int (xs (i + 4)), .int (xs (i + 5))]) (mc := 0) (ms := 0) (pc := 186) dL_186 miX11_feed mvX11_feed mlL_13 rfl hI.1.shA rfl rfl rfl (d := 100) ⟨Nat.le_of_ble_eq_true rfl, Nat.le_of_ble_eq_true rfl⟩ (P_feed (d := 99) hI.1 hI.2.2.2.1) ?_
  intro v1 h1 hq
  obtain ⟨sh1, f1, g1, fR1, rfl, rfl, hM⟩ := hI.cls (RP.rg (z_feed hI.2.2.2.1) hq)
  show WP _ _ _ _ _ kc ks 189 _ [.int (feedS Z (xs (i + 1)) (xs (i + 2)) (xs (i + 3)) (xs (i + 4)) (xs (i + 5))).2] (sh1, f1, g1, fR1)
  refine S_aload_n (pc := 189) (i := 2) dL_189 rfl rfl ?_
  refine S_arg (pc := 190) (k := 1) dL_190 dL_191 dL_192 (by decide) dL_193 dL_194 hM.2.2.2.2.2.1 hL (by omega) (hM.2.2.2.2.2.2 _ (by omega)) ?_
  refine S_arg (pc := 195) (k := 2) dL_195 dL_196 dL_197 (by decide) dL_198 dL_199 hM.2.2.2.2.2.1 hL (by omega) (hM.2.2.2.2.2.2 _ (by omega)) ?_
  refine S_arg (pc := 200) (k := 3) dL_200 dL_201 dL_202 (by decide) dL_203 dL_204 hM.2.2.2.2.2.1 hL (by omega) (hM.2.2.2.2.2.2 _ (by omega)) ?_
  refine S_arg (pc := 205) (k := 4) dL_205 dL_206 dL_207 (by decide) dL_208 dL_209 hM.2.2.2.2.2.1 hL (by omega) (hM.2.2.2.2.2.2 _ (by omega)) ?_
  refine S_arg (pc := 210) (k := 5) dL_210 dL_211 dL_212 (by decide) dL_213 dL_214 hM.2.2.2.2.2.1 hL (by omega) (hM.2.2.2.2.2.2 _ (by omega)) ?_
  refine S_callV (S := [.int (feedS Z (xs (i + 1)) (xs (i + 2)) (xs (i + 3)) (xs (i + 4)) (xs (i + 5))).2]) (As := [.int (xs (i + 1)), .int (xs (i + 2)), .int (xs (i + 3)), .int (xs (i + 4)), .int (xs (i + 5))]) (mc := 0) (ms := 0) (pc := 215) dL_215 miX12_feed mvX12_feed mlL_17 rfl (hM.2.2.1.1 0 _ rfl) rfl rfl rfl (d := 100) ⟨Nat.le_of_ble_eq_true rfl, Nat.le_of_ble_eq_true rfl⟩ (M_feed (d := 99) hM.2.2.1 hM.2.1 hM.2.2.2.1) ?_
  intro v2 h2 hq2
  obtain ⟨f2, g2, rfl, rfl, hI2⟩ := hM.ref hq2
  show WP _ _ _ _ _ kc ks 218 _ [.int (feedS Z (xs (i + 1)) (xs (i + 2)) (xs (i + 3)) (xs (i + 4)) (xs (i + 5))).2, .int (feedS Z (xs (i + 1)) (xs (i + 2)) (xs (i + 3)) (xs (i + 4)) (xs (i + 5))).2] (sh1, f2, g2, fR1)
  exact S_icmp_eq (pc := 218) (tgt := 874) dL_218 rfl (fun _ => K0 _ _ _ _ _ hI2) (fun z => absurd rfl z)
set_option maxRecDepth 4000 in
theorem LC_end (hL : L ≤ 3072) (hI : LInv L xs sh f g fR Z) (hi : i + 5 < L) (K0 : ∀ sh f g fR Z, LInv L xs sh f g fR Z → WP l G Z0' mLaw room_1 kc ks 874 [some (.ref 0), some (.ref 1), some (.ref 118), some (.int (nI i))] [] (sh, f, g, fR)) : WP l G Z0' mLaw room_1 (kc + 32) (ks + 8095) 223 [some (.ref 0), some (.ref 1), some (.ref 118), some (.int (nI i))] [] (sh, f, g, fR) := by
  refine S_wide (kc' := kc + 0) (ks' := ks + 0) (by omega) (by omega) ?_
  refine S_aload_n (pc := 223) (i := 1) dL_223 rfl rfl ?_
  refine S_arg (pc := 224) (k := 1) dL_224 dL_225 dL_226 (by decide) dL_227 dL_228 hI.2.2.2.2.1 hL (by omega) (hI.2.2.2.2.2 _ (by omega)) ?_
  refine S_callV (As := [.int (xs (i + 1))]) (mc := 0) (ms := 0) (pc := 229) dL_229 miX11_end mvX11_end mlL_18 rfl hI.1.shA rfl rfl rfl (d := 100) ⟨Nat.le_of_ble_eq_true rfl, Nat.le_of_ble_eq_true rfl⟩ (P_end (d := 100) hI.1 hI.2.2.2.1) ?_
  intro v1 h1 hq
  obtain ⟨sh1, f1, g1, fR1, rfl, rfl, hM⟩ := hI.cls (RP.rg (z_end hI.2.2.2.1) hq)
  show WP _ _ _ _ _ kc ks 232 _ [.int (endS Z (xs (i + 1))).2] (sh1, f1, g1, fR1)
  refine S_aload_n (pc := 232) (i := 2) dL_232 rfl rfl ?_
  refine S_arg (pc := 233) (k := 1) dL_233 dL_234 dL_235 (by decide) dL_236 dL_237 hM.2.2.2.2.2.1 hL (by omega) (hM.2.2.2.2.2.2 _ (by omega)) ?_
  refine S_callV (S := [.int (endS Z (xs (i + 1))).2]) (As := [.int (xs (i + 1))]) (mc := 0) (ms := 0) (pc := 238) dL_238 miX12_end mvX12_end mlL_22 rfl (hM.2.2.1.1 0 _ rfl) rfl rfl rfl (d := 100) ⟨Nat.le_of_ble_eq_true rfl, Nat.le_of_ble_eq_true rfl⟩ (M_end (d := 99) hM.2.2.1 hM.2.1 hM.2.2.2.1) ?_
  intro v2 h2 hq2
  obtain ⟨f2, g2, rfl, rfl, hI2⟩ := hM.ref hq2
  show WP _ _ _ _ _ kc ks 241 _ [.int (endS Z (xs (i + 1))).2, .int (endS Z (xs (i + 1))).2] (sh1, f2, g2, fR1)
  exact S_icmp_eq (pc := 241) (tgt := 874) dL_241 rfl (fun _ => K0 _ _ _ _ _ hI2) (fun z => absurd rfl z)
set_option maxRecDepth 4000 in
theorem LC_stream (hL : L ≤ 3072) (hI : LInv L xs sh f g fR Z) (hi : i + 5 < L) (K0 : ∀ sh f g fR Z, LInv L xs sh f g fR Z → WP l G Z0' mLaw room_1 kc ks 874 [some (.ref 0), some (.ref 1), some (.ref 118), some (.int (nI i))] [] (sh, f, g, fR)) : WP l G Z0' mLaw room_1 (kc + 32) (ks + 8095) 246 [some (.ref 0), some (.ref 1), some (.ref 118), some (.int (nI i))] [] (sh, f, g, fR) := by
  refine S_wide (kc' := kc + 0) (ks' := ks + 0) (by omega) (by omega) ?_
  refine S_aload_n (pc := 246) (i := 1) dL_246 rfl rfl ?_
  refine S_callV (As := []) (mc := 0) (ms := 0) (pc := 247) dL_247 miX11_stream mvX11_stream mlL_23 rfl hI.1.shA rfl rfl rfl (d := 100) ⟨Nat.le_of_ble_eq_true rfl, Nat.le_of_ble_eq_true rfl⟩ (P_stream (d := 86) (by decide) hI.1 hI.2.2.2.1) ?_
  intro v1 h1 hq
  obtain ⟨f1, fR1, e1, rfl, p1, p2⟩ := hq
  have hl := hI.1.len
  obtain ⟨y, hy⟩ : ∃ y, y = (strZ Z (fun _ => 0)).2 := ⟨_, rfl⟩
  have ey : ∀ dl, (strZ Z dl).2 = y := fun dl => by
    have a := e1 dl
    rw [e1 (fun _ => 0), ← hy] at a
    exact (Value.int.inj (Option.some.inj a)).symm
  rw [e1 (fun _ => 0), ← hy]
  have hM2 : MSt f1 g 118 Z := hI.2.1.cls hl p2 (fun _ _ _ => rfl)
  have hM3 : StM sh fR1 118 := hI.2.2.1.cls hl p2
  show WP _ _ _ _ _ kc ks 250 _ [.int y] (sh, f1, g, fR1)
  refine S_aload_n (pc := 250) (i := 2) dL_250 rfl rfl ?_
  refine S_callV (S := [.int y]) (As := []) (mc := 0) (ms := 0) (pc := 251) dL_251 miX12_stream mvX12_stream mlL_27 rfl (hM3.1 0 _ rfl) rfl rfl rfl (d := 100) ⟨Nat.le_of_ble_eq_true rfl, Nat.le_of_ble_eq_true rfl⟩ (M_stream (d := 93) hM3 hM2 hI.2.2.2.1) ?_
  intro v2 h2 hq2
  obtain ⟨dl, hdl, hq2⟩ := hq2
  obtain ⟨q1, q2⟩ := p1 dl hdl
  have hM : LMid L xs sh f1 g fR1 Z (strZ Z dl).1 := ⟨q1, hM2, hM3, hI.2.2.2.1, q2, hI.2.2.2.2.1, fun k hk => by rw [(p2.1 0 k (Or.inl rfl)).1]; exact hI.2.2.2.2.2 k hk⟩
  obtain ⟨f2, g2, rfl, rfl, hI2⟩ := hM.ref hq2
  rw [ey dl]
  show WP _ _ _ _ _ kc ks 254 _ [.int y, .int y] (sh, f2, g2, fR1)
  exact S_icmp_eq (pc := 254) (tgt := 874) dL_254 rfl (fun _ => K0 _ _ _ _ _ hI2) (fun z => absurd rfl z)
set_option maxRecDepth 4000 in
theorem LC_fault (hL : L ≤ 3072) (hI : LInv L xs sh f g fR Z) (hi : i + 5 < L) (K0 : ∀ sh f g fR Z, LInv L xs sh f g fR Z → WP l G Z0' mLaw room_1 kc ks 874 [some (.ref 0), some (.ref 1), some (.ref 118), some (.int (nI i))] [] (sh, f, g, fR)) : WP l G Z0' mLaw room_1 (kc + 32) (ks + 8095) 259 [some (.ref 0), some (.ref 1), some (.ref 118), some (.int (nI i))] [] (sh, f, g, fR) := by
  refine S_wide (kc' := kc + 0) (ks' := ks + 0) (by omega) (by omega) ?_
  refine S_aload_n (pc := 259) (i := 1) dL_259 rfl rfl ?_
  refine S_arg (pc := 260) (k := 1) dL_260 dL_261 dL_262 (by decide) dL_263 dL_264 hI.2.2.2.2.1 hL (by omega) (hI.2.2.2.2.2 _ (by omega)) ?_
  refine S_callV (As := [.int (xs (i + 1))]) (mc := 0) (ms := 0) (pc := 265) dL_265 miX11_fault mvX11_fault mlL_28 rfl hI.1.shA rfl rfl rfl (d := 100) ⟨Nat.le_of_ble_eq_true rfl, Nat.le_of_ble_eq_true rfl⟩ (P_fault (d := 100) hI.1 hI.2.2.2.1) ?_
  intro v1 h1 hq
  obtain ⟨sh1, f1, g1, fR1, rfl, rfl, hM⟩ := hI.cls (RP.rg hI.2.2.2.1 hq)
  show WP _ _ _ _ _ kc ks 268 _ [.int (faultS Z (xs (i + 1)))] (sh1, f1, g1, fR1)
  refine S_aload_n (pc := 268) (i := 2) dL_268 rfl rfl ?_
  refine S_arg (pc := 269) (k := 1) dL_269 dL_270 dL_271 (by decide) dL_272 dL_273 hM.2.2.2.2.2.1 hL (by omega) (hM.2.2.2.2.2.2 _ (by omega)) ?_
  refine S_callV (S := [.int (faultS Z (xs (i + 1)))]) (As := [.int (xs (i + 1))]) (mc := 0) (ms := 0) (pc := 274) dL_274 miX12_fault mvX12_fault mlL_32 rfl (hM.2.2.1.1 0 _ rfl) rfl rfl rfl (d := 100) ⟨Nat.le_of_ble_eq_true rfl, Nat.le_of_ble_eq_true rfl⟩ (M_fault (d := 100) hM.2.2.1 hM.2.1) ?_
  intro v2 h2 hq2
  obtain ⟨f2, g2, rfl, rfl, hI2⟩ := hM.ref hq2
  show WP _ _ _ _ _ kc ks 277 _ [.int (faultS Z (xs (i + 1))), .int (faultS Z (xs (i + 1)))] (sh1, f2, g2, fR1)
  exact S_icmp_eq (pc := 277) (tgt := 874) dL_277 rfl (fun _ => K0 _ _ _ _ _ hI2) (fun z => absurd rfl z)
set_option maxRecDepth 4000 in
theorem LC_has (hL : L ≤ 3072) (hI : LInv L xs sh f g fR Z) (hi : i + 5 < L) (K0 : ∀ sh f g fR Z, LInv L xs sh f g fR Z → WP l G Z0' mLaw room_1 kc ks 874 [some (.ref 0), some (.ref 1), some (.ref 118), some (.int (nI i))] [] (sh, f, g, fR)) : WP l G Z0' mLaw room_1 (kc + 32) (ks + 8095) 282 [some (.ref 0), some (.ref 1), some (.ref 118), some (.int (nI i))] [] (sh, f, g, fR) := by
  refine S_wide (kc' := kc + 0) (ks' := ks + 0) (by omega) (by omega) ?_
  refine S_aload_n (pc := 282) (i := 1) dL_282 rfl rfl ?_
  refine S_arg (pc := 283) (k := 1) dL_283 dL_284 dL_285 (by decide) dL_286 dL_287 hI.2.2.2.2.1 hL (by omega) (hI.2.2.2.2.2 _ (by omega)) ?_
  refine S_callV (As := [.int (xs (i + 1))]) (mc := 0) (ms := 0) (pc := 288) dL_288 miX11_has mvX11_has mlL_33 rfl hI.1.shA rfl rfl rfl (d := 100) ⟨Nat.le_of_ble_eq_true rfl, Nat.le_of_ble_eq_true rfl⟩ (P_has (d := 97) hI.1 hI.2.2.2.1) ?_
  intro v1 h1 hq
  obtain ⟨sh1, f1, g1, fR1, rfl, rfl, hM⟩ := hI.cls (RP.rg hI.2.2.2.1 hq)
  show WP _ _ _ _ _ kc ks 291 _ [.int (hasS Z (xs (i + 1)))] (sh1, f1, g1, fR1)
  refine S_aload_n (pc := 291) (i := 2) dL_291 rfl rfl ?_
  refine S_arg (pc := 292) (k := 1) dL_292 dL_293 dL_294 (by decide) dL_295 dL_296 hM.2.2.2.2.2.1 hL (by omega) (hM.2.2.2.2.2.2 _ (by omega)) ?_
  refine S_callV (S := [.int (hasS Z (xs (i + 1)))]) (As := [.int (xs (i + 1))]) (mc := 0) (ms := 0) (pc := 297) dL_297 miX12_has mvX12_has mlL_36 rfl (hM.2.2.1.1 0 _ rfl) rfl rfl rfl (d := 100) ⟨Nat.le_of_ble_eq_true rfl, Nat.le_of_ble_eq_true rfl⟩ (M_has (d := 97) hM.2.2.1 hM.2.1 hM.2.2.2.1) ?_
  intro v2 h2 hq2
  obtain ⟨f2, g2, rfl, rfl, hI2⟩ := hM.ref hq2
  show WP _ _ _ _ _ kc ks 300 _ [.int (hasS Z (xs (i + 1))), .int (hasS Z (xs (i + 1)))] (sh1, f2, g2, fR1)
  exact S_icmp_eq (pc := 300) (tgt := 874) dL_300 rfl (fun _ => K0 _ _ _ _ _ hI2) (fun z => absurd rfl z)
set_option maxRecDepth 4000 in
theorem LC_letter (hL : L ≤ 3072) (hI : LInv L xs sh f g fR Z) (hi : i + 5 < L) (K0 : ∀ sh f g fR Z, LInv L xs sh f g fR Z → WP l G Z0' mLaw room_1 kc ks 874 [some (.ref 0), some (.ref 1), some (.ref 118), some (.int (nI i))] [] (sh, f, g, fR)) : WP l G Z0' mLaw room_1 (kc + 32) (ks + 8095) 305 [some (.ref 0), some (.ref 1), some (.ref 118), some (.int (nI i))] [] (sh, f, g, fR) := by
  refine S_wide (kc' := kc + 0) (ks' := ks + 0) (by omega) (by omega) ?_
  refine S_aload_n (pc := 305) (i := 1) dL_305 rfl rfl ?_
  refine S_arg (pc := 306) (k := 1) dL_306 dL_307 dL_308 (by decide) dL_309 dL_310 hI.2.2.2.2.1 hL (by omega) (hI.2.2.2.2.2 _ (by omega)) ?_
  refine S_arg (pc := 311) (k := 2) dL_311 dL_312 dL_313 (by decide) dL_314 dL_315 hI.2.2.2.2.1 hL (by omega) (hI.2.2.2.2.2 _ (by omega)) ?_
  refine S_callV (As := [.int (xs (i + 1)), .int (xs (i + 2))]) (mc := 0) (ms := 0) (pc := 316) dL_316 miX11_letter mvX11_letter mlL_37 rfl hI.1.shA rfl rfl rfl (d := 100) ⟨Nat.le_of_ble_eq_true rfl, Nat.le_of_ble_eq_true rfl⟩ (P_letter (d := 99) hI.1 hI.2.2.2.1) ?_
  intro v1 h1 hq
  obtain ⟨sh1, f1, g1, fR1, rfl, rfl, hM⟩ := hI.cls (RP.rg hI.2.2.2.1 hq)
  show WP _ _ _ _ _ kc ks 319 _ [.int (letterS Z (xs (i + 1)) (xs (i + 2)))] (sh1, f1, g1, fR1)
  refine S_aload_n (pc := 319) (i := 2) dL_319 rfl rfl ?_
  refine S_arg (pc := 320) (k := 1) dL_320 dL_321 dL_322 (by decide) dL_323 dL_324 hM.2.2.2.2.2.1 hL (by omega) (hM.2.2.2.2.2.2 _ (by omega)) ?_
  refine S_arg (pc := 325) (k := 2) dL_325 dL_326 dL_327 (by decide) dL_328 dL_329 hM.2.2.2.2.2.1 hL (by omega) (hM.2.2.2.2.2.2 _ (by omega)) ?_
  refine S_callV (S := [.int (letterS Z (xs (i + 1)) (xs (i + 2)))]) (As := [.int (xs (i + 1)), .int (xs (i + 2))]) (mc := 0) (ms := 0) (pc := 330) dL_330 miX12_letter mvX12_letter mlL_41 rfl (hM.2.2.1.1 0 _ rfl) rfl rfl rfl (d := 100) ⟨Nat.le_of_ble_eq_true rfl, Nat.le_of_ble_eq_true rfl⟩ (M_letter (d := 99) hM.2.2.1 hM.2.1 hM.2.2.2.1) ?_
  intro v2 h2 hq2
  obtain ⟨f2, g2, rfl, rfl, hI2⟩ := hM.ref hq2
  show WP _ _ _ _ _ kc ks 333 _ [.int (letterS Z (xs (i + 1)) (xs (i + 2))), .int (letterS Z (xs (i + 1)) (xs (i + 2)))] (sh1, f2, g2, fR1)
  exact S_icmp_eq (pc := 333) (tgt := 874) dL_333 rfl (fun _ => K0 _ _ _ _ _ hI2) (fun z => absurd rfl z)
set_option maxRecDepth 4000 in
theorem LC_path (hL : L ≤ 3072) (hI : LInv L xs sh f g fR Z) (hi : i + 5 < L) (K0 : ∀ sh f g fR Z, LInv L xs sh f g fR Z → WP l G Z0' mLaw room_1 kc ks 874 [some (.ref 0), some (.ref 1), some (.ref 118), some (.int (nI i))] [] (sh, f, g, fR)) : WP l G Z0' mLaw room_1 (kc + 32) (ks + 8095) 338 [some (.ref 0), some (.ref 1), some (.ref 118), some (.int (nI i))] [] (sh, f, g, fR) := by
  refine S_wide (kc' := kc + 0) (ks' := ks + 0) (by omega) (by omega) ?_
  refine S_aload_n (pc := 338) (i := 1) dL_338 rfl rfl ?_
  refine S_arg (pc := 339) (k := 1) dL_339 dL_340 dL_341 (by decide) dL_342 dL_343 hI.2.2.2.2.1 hL (by omega) (hI.2.2.2.2.2 _ (by omega)) ?_
  refine S_arg (pc := 344) (k := 2) dL_344 dL_345 dL_346 (by decide) dL_347 dL_348 hI.2.2.2.2.1 hL (by omega) (hI.2.2.2.2.2 _ (by omega)) ?_
  refine S_callV (As := [.int (xs (i + 1)), .int (xs (i + 2))]) (mc := 0) (ms := 0) (pc := 349) dL_349 miX11_path mvX11_path mlL_42 rfl hI.1.shA rfl rfl rfl (d := 100) ⟨Nat.le_of_ble_eq_true rfl, Nat.le_of_ble_eq_true rfl⟩ (P_path (d := 96) hI.1 hI.2.2.2.1) ?_
  intro v1 h1 hq
  obtain ⟨sh1, f1, g1, fR1, rfl, rfl, hM⟩ := hI.cls (RP.rg hI.2.2.2.1 hq)
  show WP _ _ _ _ _ kc ks 352 _ [.int (pathS Z (xs (i + 1)) (xs (i + 2)))] (sh1, f1, g1, fR1)
  refine S_aload_n (pc := 352) (i := 2) dL_352 rfl rfl ?_
  refine S_arg (pc := 353) (k := 1) dL_353 dL_354 dL_355 (by decide) dL_356 dL_357 hM.2.2.2.2.2.1 hL (by omega) (hM.2.2.2.2.2.2 _ (by omega)) ?_
  refine S_arg (pc := 358) (k := 2) dL_358 dL_359 dL_360 (by decide) dL_361 dL_362 hM.2.2.2.2.2.1 hL (by omega) (hM.2.2.2.2.2.2 _ (by omega)) ?_
  refine S_callV (S := [.int (pathS Z (xs (i + 1)) (xs (i + 2)))]) (As := [.int (xs (i + 1)), .int (xs (i + 2))]) (mc := 0) (ms := 0) (pc := 363) dL_363 miX12_path mvX12_path mlL_45 rfl (hM.2.2.1.1 0 _ rfl) rfl rfl rfl (d := 100) ⟨Nat.le_of_ble_eq_true rfl, Nat.le_of_ble_eq_true rfl⟩ (M_path (d := 96) hM.2.2.1 hM.2.1 hM.2.2.2.1) ?_
  intro v2 h2 hq2
  obtain ⟨f2, g2, rfl, rfl, hI2⟩ := hM.ref hq2
  show WP _ _ _ _ _ kc ks 366 _ [.int (pathS Z (xs (i + 1)) (xs (i + 2))), .int (pathS Z (xs (i + 1)) (xs (i + 2)))] (sh1, f2, g2, fR1)
  exact S_icmp_eq (pc := 366) (tgt := 874) dL_366 rfl (fun _ => K0 _ _ _ _ _ hI2) (fun z => absurd rfl z)
set_option maxRecDepth 4000 in
theorem LC_segment (hL : L ≤ 3072) (hI : LInv L xs sh f g fR Z) (hi : i + 5 < L) (K0 : ∀ sh f g fR Z, LInv L xs sh f g fR Z → WP l G Z0' mLaw room_1 kc ks 874 [some (.ref 0), some (.ref 1), some (.ref 118), some (.int (nI i))] [] (sh, f, g, fR)) : WP l G Z0' mLaw room_1 (kc + 32) (ks + 8095) 371 [some (.ref 0), some (.ref 1), some (.ref 118), some (.int (nI i))] [] (sh, f, g, fR) := by
  refine S_wide (kc' := kc + 0) (ks' := ks + 0) (by omega) (by omega) ?_
  refine S_aload_n (pc := 371) (i := 1) dL_371 rfl rfl ?_
  refine S_arg (pc := 372) (k := 1) dL_372 dL_373 dL_374 (by decide) dL_375 dL_376 hI.2.2.2.2.1 hL (by omega) (hI.2.2.2.2.2 _ (by omega)) ?_
  refine S_arg (pc := 377) (k := 2) dL_377 dL_378 dL_379 (by decide) dL_380 dL_381 hI.2.2.2.2.1 hL (by omega) (hI.2.2.2.2.2 _ (by omega)) ?_
  refine S_callV (As := [.int (xs (i + 1)), .int (xs (i + 2))]) (mc := 0) (ms := 0) (pc := 382) dL_382 miX11_segment mvX11_segment mlL_46 rfl hI.1.shA rfl rfl rfl (d := 100) ⟨Nat.le_of_ble_eq_true rfl, Nat.le_of_ble_eq_true rfl⟩ (P_segment (d := 99) hI.1 hI.2.2.2.1) ?_
  intro v1 h1 hq
  obtain ⟨sh1, f1, g1, fR1, rfl, rfl, hM⟩ := hI.cls (RP.rg hI.2.2.2.1 hq)
  show WP _ _ _ _ _ kc ks 385 _ [.int (segmentS Z (xs (i + 1)) (xs (i + 2)))] (sh1, f1, g1, fR1)
  refine S_aload_n (pc := 385) (i := 2) dL_385 rfl rfl ?_
  refine S_arg (pc := 386) (k := 1) dL_386 dL_387 dL_388 (by decide) dL_389 dL_390 hM.2.2.2.2.2.1 hL (by omega) (hM.2.2.2.2.2.2 _ (by omega)) ?_
  refine S_arg (pc := 391) (k := 2) dL_391 dL_392 dL_393 (by decide) dL_394 dL_395 hM.2.2.2.2.2.1 hL (by omega) (hM.2.2.2.2.2.2 _ (by omega)) ?_
  refine S_callV (S := [.int (segmentS Z (xs (i + 1)) (xs (i + 2)))]) (As := [.int (xs (i + 1)), .int (xs (i + 2))]) (mc := 0) (ms := 0) (pc := 396) dL_396 miX12_segment mvX12_segment mlL_49 rfl (hM.2.2.1.1 0 _ rfl) rfl rfl rfl (d := 100) ⟨Nat.le_of_ble_eq_true rfl, Nat.le_of_ble_eq_true rfl⟩ (M_segment (d := 99) hM.2.2.1 hM.2.1 hM.2.2.2.1) ?_
  intro v2 h2 hq2
  obtain ⟨f2, g2, rfl, rfl, hI2⟩ := hM.ref hq2
  show WP _ _ _ _ _ kc ks 399 _ [.int (segmentS Z (xs (i + 1)) (xs (i + 2))), .int (segmentS Z (xs (i + 1)) (xs (i + 2)))] (sh1, f2, g2, fR1)
  exact S_icmp_eq (pc := 399) (tgt := 874) dL_399 rfl (fun _ => K0 _ _ _ _ _ hI2) (fun z => absurd rfl z)
set_option maxRecDepth 4000 in
theorem LC_octet (hL : L ≤ 3072) (hI : LInv L xs sh f g fR Z) (hi : i + 5 < L) (K0 : ∀ sh f g fR Z, LInv L xs sh f g fR Z → WP l G Z0' mLaw room_1 kc ks 874 [some (.ref 0), some (.ref 1), some (.ref 118), some (.int (nI i))] [] (sh, f, g, fR)) : WP l G Z0' mLaw room_1 (kc + 32) (ks + 8095) 404 [some (.ref 0), some (.ref 1), some (.ref 118), some (.int (nI i))] [] (sh, f, g, fR) := by
  refine S_wide (kc' := kc + 0) (ks' := ks + 0) (by omega) (by omega) ?_
  refine S_aload_n (pc := 404) (i := 1) dL_404 rfl rfl ?_
  refine S_arg (pc := 405) (k := 1) dL_405 dL_406 dL_407 (by decide) dL_408 dL_409 hI.2.2.2.2.1 hL (by omega) (hI.2.2.2.2.2 _ (by omega)) ?_
  refine S_callV (As := [.int (xs (i + 1))]) (mc := 0) (ms := 0) (pc := 410) dL_410 miX11_octet mvX11_octet mlL_50 rfl hI.1.shA rfl rfl rfl (d := 100) ⟨Nat.le_of_ble_eq_true rfl, Nat.le_of_ble_eq_true rfl⟩ (P_octet (d := 100) hI.1 hI.2.2.2.1) ?_
  intro v1 h1 hq
  obtain ⟨sh1, f1, g1, fR1, rfl, rfl, hM⟩ := hI.cls (RP.rg hI.2.2.2.1 hq)
  show WP _ _ _ _ _ kc ks 413 _ [.int (octetS Z (xs (i + 1)))] (sh1, f1, g1, fR1)
  refine S_aload_n (pc := 413) (i := 2) dL_413 rfl rfl ?_
  refine S_arg (pc := 414) (k := 1) dL_414 dL_415 dL_416 (by decide) dL_417 dL_418 hM.2.2.2.2.2.1 hL (by omega) (hM.2.2.2.2.2.2 _ (by omega)) ?_
  refine S_callV (S := [.int (octetS Z (xs (i + 1)))]) (As := [.int (xs (i + 1))]) (mc := 0) (ms := 0) (pc := 419) dL_419 miX12_octet mvX12_octet mlL_53 rfl (hM.2.2.1.1 0 _ rfl) rfl rfl rfl (d := 100) ⟨Nat.le_of_ble_eq_true rfl, Nat.le_of_ble_eq_true rfl⟩ (M_octet (d := 99) hM.2.2.1 hM.2.1 hM.2.2.2.1) ?_
  intro v2 h2 hq2
  obtain ⟨f2, g2, rfl, rfl, hI2⟩ := hM.ref hq2
  show WP _ _ _ _ _ kc ks 422 _ [.int (octetS Z (xs (i + 1))), .int (octetS Z (xs (i + 1)))] (sh1, f2, g2, fR1)
  exact S_icmp_eq (pc := 422) (tgt := 874) dL_422 rfl (fun _ => K0 _ _ _ _ _ hI2) (fun z => absurd rfl z)
set_option maxRecDepth 4000 in
theorem LC_refusals (hL : L ≤ 3072) (hI : LInv L xs sh f g fR Z) (hi : i + 5 < L) (K0 : ∀ sh f g fR Z, LInv L xs sh f g fR Z → WP l G Z0' mLaw room_1 kc ks 874 [some (.ref 0), some (.ref 1), some (.ref 118), some (.int (nI i))] [] (sh, f, g, fR)) : WP l G Z0' mLaw room_1 (kc + 32) (ks + 8095) 427 [some (.ref 0), some (.ref 1), some (.ref 118), some (.int (nI i))] [] (sh, f, g, fR) := by
  refine S_wide (kc' := kc + 0) (ks' := ks + 0) (by omega) (by omega) ?_
  refine S_aload_n (pc := 427) (i := 1) dL_427 rfl rfl ?_
  refine S_arg (pc := 428) (k := 1) dL_428 dL_429 dL_430 (by decide) dL_431 dL_432 hI.2.2.2.2.1 hL (by omega) (hI.2.2.2.2.2 _ (by omega)) ?_
  refine S_callV (As := [.int (xs (i + 1))]) (mc := 0) (ms := 0) (pc := 433) dL_433 miX11_refusals mvX11_refusals mlL_54 rfl hI.1.shA rfl rfl rfl (d := 100) ⟨Nat.le_of_ble_eq_true rfl, Nat.le_of_ble_eq_true rfl⟩ (P_refusals (d := 100) hI.1) ?_
  intro v1 h1 hq
  obtain ⟨sh1, f1, g1, fR1, rfl, rfl, hM⟩ := hI.cls (RP.rg hI.2.2.2.1 hq)
  show WP _ _ _ _ _ kc ks 436 _ [.int (refusalsS Z (xs (i + 1)))] (sh1, f1, g1, fR1)
  refine S_aload_n (pc := 436) (i := 2) dL_436 rfl rfl ?_
  refine S_arg (pc := 437) (k := 1) dL_437 dL_438 dL_439 (by decide) dL_440 dL_441 hM.2.2.2.2.2.1 hL (by omega) (hM.2.2.2.2.2.2 _ (by omega)) ?_
  refine S_callV (S := [.int (refusalsS Z (xs (i + 1)))]) (As := [.int (xs (i + 1))]) (mc := 0) (ms := 0) (pc := 442) dL_442 miX12_refusals mvX12_refusals mlL_57 rfl (hM.2.2.1.1 0 _ rfl) rfl rfl rfl (d := 100) ⟨Nat.le_of_ble_eq_true rfl, Nat.le_of_ble_eq_true rfl⟩ (M_refusals (d := 99) hM.2.2.1 hM.2.1 hM.2.2.2.1) ?_
  intro v2 h2 hq2
  obtain ⟨f2, g2, rfl, rfl, hI2⟩ := hM.ref hq2
  show WP _ _ _ _ _ kc ks 445 _ [.int (refusalsS Z (xs (i + 1))), .int (refusalsS Z (xs (i + 1)))] (sh1, f2, g2, fR1)
  exact S_icmp_eq (pc := 445) (tgt := 874) dL_445 rfl (fun _ => K0 _ _ _ _ _ hI2) (fun z => absurd rfl z)
set_option maxRecDepth 4000 in
theorem LC_later (hL : L ≤ 3072) (hI : LInv L xs sh f g fR Z) (hi : i + 5 < L) (K0 : ∀ sh f g fR Z, LInv L xs sh f g fR Z → WP l G Z0' mLaw room_1 kc ks 874 [some (.ref 0), some (.ref 1), some (.ref 118), some (.int (nI i))] [] (sh, f, g, fR)) : WP l G Z0' mLaw room_1 (kc + 32) (ks + 8095) 450 [some (.ref 0), some (.ref 1), some (.ref 118), some (.int (nI i))] [] (sh, f, g, fR) := by
  refine S_wide (kc' := kc + 0) (ks' := ks + 0) (by omega) (by omega) ?_
  refine S_aload_n (pc := 450) (i := 1) dL_450 rfl rfl ?_
  refine S_arg (pc := 451) (k := 1) dL_451 dL_452 dL_453 (by decide) dL_454 dL_455 hI.2.2.2.2.1 hL (by omega) (hI.2.2.2.2.2 _ (by omega)) ?_
  refine S_arg (pc := 456) (k := 2) dL_456 dL_457 dL_458 (by decide) dL_459 dL_460 hI.2.2.2.2.1 hL (by omega) (hI.2.2.2.2.2 _ (by omega)) ?_
  refine S_callV (As := [.int (xs (i + 1)), .int (xs (i + 2))]) (mc := 0) (ms := 0) (pc := 461) dL_461 miX11_later mvX11_later mlL_58 rfl hI.1.shA rfl rfl rfl (d := 100) ⟨Nat.le_of_ble_eq_true rfl, Nat.le_of_ble_eq_true rfl⟩ (P_later (d := 94) hI.1 hI.2.2.2.1) ?_
  intro v1 h1 hq
  obtain ⟨sh1, f1, g1, fR1, rfl, rfl, hM⟩ := hI.cls (RP.rg hI.2.2.2.1 hq)
  show WP _ _ _ _ _ kc ks 464 _ [.int (laterS Z (xs (i + 1)) (xs (i + 2)))] (sh1, f1, g1, fR1)
  refine S_aload_n (pc := 464) (i := 2) dL_464 rfl rfl ?_
  refine S_arg (pc := 465) (k := 1) dL_465 dL_466 dL_467 (by decide) dL_468 dL_469 hM.2.2.2.2.2.1 hL (by omega) (hM.2.2.2.2.2.2 _ (by omega)) ?_
  refine S_arg (pc := 470) (k := 2) dL_470 dL_471 dL_472 (by decide) dL_473 dL_474 hM.2.2.2.2.2.1 hL (by omega) (hM.2.2.2.2.2.2 _ (by omega)) ?_
  refine S_callV (S := [.int (laterS Z (xs (i + 1)) (xs (i + 2)))]) (As := [.int (xs (i + 1)), .int (xs (i + 2))]) (mc := 0) (ms := 0) (pc := 475) dL_475 miX12_later mvX12_later mlL_61 rfl (hM.2.2.1.1 0 _ rfl) rfl rfl rfl (d := 100) ⟨Nat.le_of_ble_eq_true rfl, Nat.le_of_ble_eq_true rfl⟩ (M_later (d := 93) hM.2.2.1 hM.2.1 hM.2.2.2.1) ?_
  intro v2 h2 hq2
  obtain ⟨f2, g2, rfl, rfl, hI2⟩ := hM.ref hq2
  show WP _ _ _ _ _ kc ks 478 _ [.int (laterS Z (xs (i + 1)) (xs (i + 2))), .int (laterS Z (xs (i + 1)) (xs (i + 2)))] (sh1, f2, g2, fR1)
  exact S_icmp_eq (pc := 478) (tgt := 874) dL_478 rfl (fun _ => K0 _ _ _ _ _ hI2) (fun z => absurd rfl z)
set_option maxRecDepth 4000 in
theorem LC_finish (hL : L ≤ 3072) (hI : LInv L xs sh f g fR Z) (hi : i + 5 < L) (K0 : ∀ sh f g fR Z, LInv L xs sh f g fR Z → WP l G Z0' mLaw room_1 kc ks 874 [some (.ref 0), some (.ref 1), some (.ref 118), some (.int (nI i))] [] (sh, f, g, fR)) : WP l G Z0' mLaw room_1 (kc + 32) (ks + 8095) 483 [some (.ref 0), some (.ref 1), some (.ref 118), some (.int (nI i))] [] (sh, f, g, fR) := by
  refine S_wide (kc' := kc + 0) (ks' := ks + 0) (by omega) (by omega) ?_
  refine S_aload_n (pc := 483) (i := 1) dL_483 rfl rfl ?_
  refine S_callV (As := []) (mc := 0) (ms := 0) (pc := 484) dL_484 miX11_finish mvX11_finish mlL_62 rfl hI.1.shA rfl rfl rfl (d := 100) ⟨Nat.le_of_ble_eq_true rfl, Nat.le_of_ble_eq_true rfl⟩ (P_finish (d := 93) hI.1 hI.2.2.2.1) ?_
  intro v1 h1 hq
  obtain ⟨sh1, f1, g1, fR1, rfl, rfl, hM⟩ := hI.cls (RP.rg hI.2.2.2.1 hq)
  show WP _ _ _ _ _ kc ks 487 _ [.int (finishS Z )] (sh1, f1, g1, fR1)
  refine S_aload_n (pc := 487) (i := 2) dL_487 rfl rfl ?_
  refine S_callV (S := [.int (finishS Z )]) (As := []) (mc := 0) (ms := 0) (pc := 488) dL_488 miX12_finish mvX12_finish mlL_65 rfl (hM.2.2.1.1 0 _ rfl) rfl rfl rfl (d := 100) ⟨Nat.le_of_ble_eq_true rfl, Nat.le_of_ble_eq_true rfl⟩ (M_finish (d := 92) hM.2.2.1 hM.2.1 hM.2.2.2.1) ?_
  intro v2 h2 hq2
  obtain ⟨f2, g2, rfl, rfl, hI2⟩ := hM.ref hq2
  show WP _ _ _ _ _ kc ks 491 _ [.int (finishS Z ), .int (finishS Z )] (sh1, f2, g2, fR1)
  exact S_icmp_eq (pc := 491) (tgt := 874) dL_491 rfl (fun _ => K0 _ _ _ _ _ hI2) (fun z => absurd rfl z)
set_option maxRecDepth 4000 in
theorem LC_without (hL : L ≤ 3072) (hI : LInv L xs sh f g fR Z) (hi : i + 5 < L) (K0 : ∀ sh f g fR Z, LInv L xs sh f g fR Z → WP l G Z0' mLaw room_1 kc ks 874 [some (.ref 0), some (.ref 1), some (.ref 118), some (.int (nI i))] [] (sh, f, g, fR)) : WP l G Z0' mLaw room_1 (kc + 32) (ks + 8095) 496 [some (.ref 0), some (.ref 1), some (.ref 118), some (.int (nI i))] [] (sh, f, g, fR) := by
  refine S_wide (kc' := kc + 0) (ks' := ks + 0) (by omega) (by omega) ?_
  refine S_aload_n (pc := 496) (i := 1) dL_496 rfl rfl ?_
  refine S_arg (pc := 497) (k := 1) dL_497 dL_498 dL_499 (by decide) dL_500 dL_501 hI.2.2.2.2.1 hL (by omega) (hI.2.2.2.2.2 _ (by omega)) ?_
  refine S_callV (As := [.int (xs (i + 1))]) (mc := 0) (ms := 0) (pc := 502) dL_502 miX11_without mvX11_without mlL_66 rfl hI.1.shA rfl rfl rfl (d := 100) ⟨Nat.le_of_ble_eq_true rfl, Nat.le_of_ble_eq_true rfl⟩ (P_without (d := 93) hI.1 hI.2.2.2.1) ?_
  intro v1 h1 hq
  obtain ⟨sh1, f1, g1, fR1, rfl, rfl, hM⟩ := hI.cls (RP.rg hI.2.2.2.1 hq)
  show WP _ _ _ _ _ kc ks 505 _ [.int (withoutS Z (xs (i + 1)))] (sh1, f1, g1, fR1)
  refine S_aload_n (pc := 505) (i := 2) dL_505 rfl rfl ?_
  refine S_arg (pc := 506) (k := 1) dL_506 dL_507 dL_508 (by decide) dL_509 dL_510 hM.2.2.2.2.2.1 hL (by omega) (hM.2.2.2.2.2.2 _ (by omega)) ?_
  refine S_callV (S := [.int (withoutS Z (xs (i + 1)))]) (As := [.int (xs (i + 1))]) (mc := 0) (ms := 0) (pc := 511) dL_511 miX12_without mvX12_without mlL_69 rfl (hM.2.2.1.1 0 _ rfl) rfl rfl rfl (d := 100) ⟨Nat.le_of_ble_eq_true rfl, Nat.le_of_ble_eq_true rfl⟩ (M_without (d := 92) hM.2.2.1 hM.2.1 hM.2.2.2.1) ?_
  intro v2 h2 hq2
  obtain ⟨f2, g2, rfl, rfl, hI2⟩ := hM.ref hq2
  show WP _ _ _ _ _ kc ks 514 _ [.int (withoutS Z (xs (i + 1))), .int (withoutS Z (xs (i + 1)))] (sh1, f2, g2, fR1)
  exact S_icmp_eq (pc := 514) (tgt := 874) dL_514 rfl (fun _ => K0 _ _ _ _ _ hI2) (fun z => absurd rfl z)
set_option maxRecDepth 4000 in
theorem LC_alone (hL : L ≤ 3072) (hI : LInv L xs sh f g fR Z) (hi : i + 5 < L) (K0 : ∀ sh f g fR Z, LInv L xs sh f g fR Z → WP l G Z0' mLaw room_1 kc ks 874 [some (.ref 0), some (.ref 1), some (.ref 118), some (.int (nI i))] [] (sh, f, g, fR)) : WP l G Z0' mLaw room_1 (kc + 32) (ks + 8095) 519 [some (.ref 0), some (.ref 1), some (.ref 118), some (.int (nI i))] [] (sh, f, g, fR) := by
  refine S_wide (kc' := kc + 0) (ks' := ks + 0) (by omega) (by omega) ?_
  refine S_aload_n (pc := 519) (i := 1) dL_519 rfl rfl ?_
  refine S_arg (pc := 520) (k := 1) dL_520 dL_521 dL_522 (by decide) dL_523 dL_524 hI.2.2.2.2.1 hL (by omega) (hI.2.2.2.2.2 _ (by omega)) ?_
  refine S_callV (As := [.int (xs (i + 1))]) (mc := 0) (ms := 0) (pc := 525) dL_525 miX11_alone mvX11_alone mlL_70 rfl hI.1.shA rfl rfl rfl (d := 100) ⟨Nat.le_of_ble_eq_true rfl, Nat.le_of_ble_eq_true rfl⟩ (P_alone (d := 93) hI.1 hI.2.2.2.1) ?_
  intro v1 h1 hq
  obtain ⟨sh1, f1, g1, fR1, rfl, rfl, hM⟩ := hI.cls (RP.rg hI.2.2.2.1 hq)
  show WP _ _ _ _ _ kc ks 528 _ [.int (aloneS Z (xs (i + 1)))] (sh1, f1, g1, fR1)
  refine S_aload_n (pc := 528) (i := 2) dL_528 rfl rfl ?_
  refine S_arg (pc := 529) (k := 1) dL_529 dL_530 dL_531 (by decide) dL_532 dL_533 hM.2.2.2.2.2.1 hL (by omega) (hM.2.2.2.2.2.2 _ (by omega)) ?_
  refine S_callV (S := [.int (aloneS Z (xs (i + 1)))]) (As := [.int (xs (i + 1))]) (mc := 0) (ms := 0) (pc := 534) dL_534 miX12_alone mvX12_alone mlL_73 rfl (hM.2.2.1.1 0 _ rfl) rfl rfl rfl (d := 100) ⟨Nat.le_of_ble_eq_true rfl, Nat.le_of_ble_eq_true rfl⟩ (M_alone (d := 92) hM.2.2.1 hM.2.1 hM.2.2.2.1) ?_
  intro v2 h2 hq2
  obtain ⟨f2, g2, rfl, rfl, hI2⟩ := hM.ref hq2
  show WP _ _ _ _ _ kc ks 537 _ [.int (aloneS Z (xs (i + 1))), .int (aloneS Z (xs (i + 1)))] (sh1, f2, g2, fR1)
  exact S_icmp_eq (pc := 537) (tgt := 874) dL_537 rfl (fun _ => K0 _ _ _ _ _ hI2) (fun z => absurd rfl z)
set_option maxRecDepth 4000 in
theorem LC_window (hL : L ≤ 3072) (hI : LInv L xs sh f g fR Z) (hi : i + 5 < L) (K0 : ∀ sh f g fR Z, LInv L xs sh f g fR Z → WP l G Z0' mLaw room_1 kc ks 874 [some (.ref 0), some (.ref 1), some (.ref 118), some (.int (nI i))] [] (sh, f, g, fR)) : WP l G Z0' mLaw room_1 (kc + 32) (ks + 8095) 542 [some (.ref 0), some (.ref 1), some (.ref 118), some (.int (nI i))] [] (sh, f, g, fR) := by
  refine S_wide (kc' := kc + 0) (ks' := ks + 0) (by omega) (by omega) ?_
  refine S_aload_n (pc := 542) (i := 1) dL_542 rfl rfl ?_
  refine S_arg (pc := 543) (k := 1) dL_543 dL_544 dL_545 (by decide) dL_546 dL_547 hI.2.2.2.2.1 hL (by omega) (hI.2.2.2.2.2 _ (by omega)) ?_
  refine S_callV (As := [.int (xs (i + 1))]) (mc := 0) (ms := 0) (pc := 548) dL_548 miX11_window mvX11_window mlL_74 rfl hI.1.shA rfl rfl rfl (d := 100) ⟨Nat.le_of_ble_eq_true rfl, Nat.le_of_ble_eq_true rfl⟩ (P_window (d := 93) hI.1 hI.2.2.2.1) ?_
  intro v1 h1 hq
  obtain ⟨sh1, f1, g1, fR1, rfl, rfl, hM⟩ := hI.cls (RP.rg hI.2.2.2.1 hq)
  show WP _ _ _ _ _ kc ks 551 _ [.int (windowS Z (xs (i + 1)))] (sh1, f1, g1, fR1)
  refine S_aload_n (pc := 551) (i := 2) dL_551 rfl rfl ?_
  refine S_arg (pc := 552) (k := 1) dL_552 dL_553 dL_554 (by decide) dL_555 dL_556 hM.2.2.2.2.2.1 hL (by omega) (hM.2.2.2.2.2.2 _ (by omega)) ?_
  refine S_callV (S := [.int (windowS Z (xs (i + 1)))]) (As := [.int (xs (i + 1))]) (mc := 0) (ms := 0) (pc := 557) dL_557 miX12_window mvX12_window mlL_77 rfl (hM.2.2.1.1 0 _ rfl) rfl rfl rfl (d := 100) ⟨Nat.le_of_ble_eq_true rfl, Nat.le_of_ble_eq_true rfl⟩ (M_window (d := 92) hM.2.2.1 hM.2.1 hM.2.2.2.1) ?_
  intro v2 h2 hq2
  obtain ⟨f2, g2, rfl, rfl, hI2⟩ := hM.ref hq2
  show WP _ _ _ _ _ kc ks 560 _ [.int (windowS Z (xs (i + 1))), .int (windowS Z (xs (i + 1)))] (sh1, f2, g2, fR1)
  exact S_icmp_eq (pc := 560) (tgt := 874) dL_560 rfl (fun _ => K0 _ _ _ _ _ hI2) (fun z => absurd rfl z)
set_option maxRecDepth 4000 in
theorem LC_odds (hL : L ≤ 3072) (hI : LInv L xs sh f g fR Z) (hi : i + 5 < L) (K0 : ∀ sh f g fR Z, LInv L xs sh f g fR Z → WP l G Z0' mLaw room_1 kc ks 874 [some (.ref 0), some (.ref 1), some (.ref 118), some (.int (nI i))] [] (sh, f, g, fR)) : WP l G Z0' mLaw room_1 (kc + 32) (ks + 8095) 565 [some (.ref 0), some (.ref 1), some (.ref 118), some (.int (nI i))] [] (sh, f, g, fR) := by
  refine S_wide (kc' := kc + 0) (ks' := ks + 0) (by omega) (by omega) ?_
  refine S_aload_n (pc := 565) (i := 1) dL_565 rfl rfl ?_
  refine S_arg (pc := 566) (k := 1) dL_566 dL_567 dL_568 (by decide) dL_569 dL_570 hI.2.2.2.2.1 hL (by omega) (hI.2.2.2.2.2 _ (by omega)) ?_
  refine S_callV (As := [.int (xs (i + 1))]) (mc := 0) (ms := 0) (pc := 571) dL_571 miX11_odds mvX11_odds mlL_78 rfl hI.1.shA rfl rfl rfl (d := 100) ⟨Nat.le_of_ble_eq_true rfl, Nat.le_of_ble_eq_true rfl⟩ (P_odds (d := 94) hI.1 hI.2.2.2.1) ?_
  intro v1 h1 hq
  obtain ⟨sh1, f1, g1, fR1, rfl, rfl, hM⟩ := hI.cls (RP.rg hI.2.2.2.1 hq)
  show WP _ _ _ _ _ kc ks 574 _ [.int (oddsS Z (xs (i + 1)))] (sh1, f1, g1, fR1)
  refine S_aload_n (pc := 574) (i := 2) dL_574 rfl rfl ?_
  refine S_arg (pc := 575) (k := 1) dL_575 dL_576 dL_577 (by decide) dL_578 dL_579 hM.2.2.2.2.2.1 hL (by omega) (hM.2.2.2.2.2.2 _ (by omega)) ?_
  refine S_callV (S := [.int (oddsS Z (xs (i + 1)))]) (As := [.int (xs (i + 1))]) (mc := 0) (ms := 0) (pc := 580) dL_580 miX12_odds mvX12_odds mlL_81 rfl (hM.2.2.1.1 0 _ rfl) rfl rfl rfl (d := 100) ⟨Nat.le_of_ble_eq_true rfl, Nat.le_of_ble_eq_true rfl⟩ (M_odds (d := 93) hM.2.2.1 hM.2.1 hM.2.2.2.1) ?_
  intro v2 h2 hq2
  obtain ⟨f2, g2, rfl, rfl, hI2⟩ := hM.ref hq2
  show WP _ _ _ _ _ kc ks 583 _ [.int (oddsS Z (xs (i + 1))), .int (oddsS Z (xs (i + 1)))] (sh1, f2, g2, fR1)
  exact S_icmp_eq (pc := 583) (tgt := 874) dL_583 rfl (fun _ => K0 _ _ _ _ _ hI2) (fun z => absurd rfl z)
set_option maxRecDepth 4000 in
theorem LC_meet (hL : L ≤ 3072) (hI : LInv L xs sh f g fR Z) (hi : i + 5 < L) (K0 : ∀ sh f g fR Z, LInv L xs sh f g fR Z → WP l G Z0' mLaw room_1 kc ks 874 [some (.ref 0), some (.ref 1), some (.ref 118), some (.int (nI i))] [] (sh, f, g, fR)) : WP l G Z0' mLaw room_1 (kc + 32) (ks + 8095) 588 [some (.ref 0), some (.ref 1), some (.ref 118), some (.int (nI i))] [] (sh, f, g, fR) := by
  refine S_wide (kc' := kc + 0) (ks' := ks + 0) (by omega) (by omega) ?_
  refine S_aload_n (pc := 588) (i := 1) dL_588 rfl rfl ?_
  refine S_callV (As := []) (mc := 0) (ms := 0) (pc := 589) dL_589 miX11_meet mvX11_meet mlL_82 rfl hI.1.shA rfl rfl rfl (d := 100) ⟨Nat.le_of_ble_eq_true rfl, Nat.le_of_ble_eq_true rfl⟩ (P_meet (d := 99) hI.1 hI.2.2.2.1) ?_
  intro v1 h1 hq
  obtain ⟨sh1, f1, g1, fR1, rfl, rfl, hM⟩ := hI.cls (RP.rg (z_meet hI.2.2.2.1) hq)
  show WP _ _ _ _ _ kc ks 592 _ [.int (meetS Z ).2] (sh1, f1, g1, fR1)
  refine S_aload_n (pc := 592) (i := 2) dL_592 rfl rfl ?_
  refine S_callV (S := [.int (meetS Z ).2]) (As := []) (mc := 0) (ms := 0) (pc := 593) dL_593 miX12_meet mvX12_meet mlL_85 rfl (hM.2.2.1.1 0 _ rfl) rfl rfl rfl (d := 100) ⟨Nat.le_of_ble_eq_true rfl, Nat.le_of_ble_eq_true rfl⟩ (M_meet (d := 99) hM.2.2.1 hM.2.1 hM.2.2.2.1) ?_
  intro v2 h2 hq2
  obtain ⟨f2, g2, rfl, rfl, hI2⟩ := hM.ref hq2
  show WP _ _ _ _ _ kc ks 596 _ [.int (meetS Z ).2, .int (meetS Z ).2] (sh1, f2, g2, fR1)
  exact S_icmp_eq (pc := 596) (tgt := 874) dL_596 rfl (fun _ => K0 _ _ _ _ _ hI2) (fun z => absurd rfl z)
set_option maxRecDepth 4000 in
theorem LC_delays (hL : L ≤ 3072) (hI : LInv L xs sh f g fR Z) (hi : i + 5 < L) (K0 : ∀ sh f g fR Z, LInv L xs sh f g fR Z → WP l G Z0' mLaw room_1 kc ks 874 [some (.ref 0), some (.ref 1), some (.ref 118), some (.int (nI i))] [] (sh, f, g, fR)) : WP l G Z0' mLaw room_1 (kc + 32) (ks + 8095) 601 [some (.ref 0), some (.ref 1), some (.ref 118), some (.int (nI i))] [] (sh, f, g, fR) := by
  refine S_wide (kc' := kc + 0) (ks' := ks + 0) (by omega) (by omega) ?_
  refine S_aload_n (pc := 601) (i := 1) dL_601 rfl rfl ?_
  refine S_arg (pc := 602) (k := 1) dL_602 dL_603 dL_604 (by decide) dL_605 dL_606 hI.2.2.2.2.1 hL (by omega) (hI.2.2.2.2.2 _ (by omega)) ?_
  refine S_callV (As := [.int (xs (i + 1))]) (mc := 0) (ms := 0) (pc := 607) dL_607 miX11_delays mvX11_delays mlL_86 rfl hI.1.shA rfl rfl rfl (d := 100) ⟨Nat.le_of_ble_eq_true rfl, Nat.le_of_ble_eq_true rfl⟩ (P_delays (d := 93) hI.1 hI.2.2.2.1) ?_
  intro v1 h1 hq
  obtain ⟨sh1, f1, g1, fR1, rfl, rfl, hM⟩ := hI.cls (RP.rg hI.2.2.2.1 hq)
  show WP _ _ _ _ _ kc ks 610 _ [.int (delaysS Z (xs (i + 1)))] (sh1, f1, g1, fR1)
  refine S_aload_n (pc := 610) (i := 2) dL_610 rfl rfl ?_
  refine S_arg (pc := 611) (k := 1) dL_611 dL_612 dL_613 (by decide) dL_614 dL_615 hM.2.2.2.2.2.1 hL (by omega) (hM.2.2.2.2.2.2 _ (by omega)) ?_
  refine S_callV (S := [.int (delaysS Z (xs (i + 1)))]) (As := [.int (xs (i + 1))]) (mc := 0) (ms := 0) (pc := 616) dL_616 miX12_delays mvX12_delays mlL_89 rfl (hM.2.2.1.1 0 _ rfl) rfl rfl rfl (d := 100) ⟨Nat.le_of_ble_eq_true rfl, Nat.le_of_ble_eq_true rfl⟩ (M_delays (d := 91) hM.2.2.1 hM.2.1 hM.2.2.2.1) ?_
  intro v2 h2 hq2
  obtain ⟨f2, g2, rfl, rfl, hI2⟩ := hM.ref hq2
  show WP _ _ _ _ _ kc ks 619 _ [.int (delaysS Z (xs (i + 1))), .int (delaysS Z (xs (i + 1)))] (sh1, f2, g2, fR1)
  exact S_icmp_eq (pc := 619) (tgt := 874) dL_619 rfl (fun _ => K0 _ _ _ _ _ hI2) (fun z => absurd rfl z)
set_option maxRecDepth 4000 in
theorem LC_tells (hL : L ≤ 3072) (hI : LInv L xs sh f g fR Z) (hi : i + 5 < L) (K0 : ∀ sh f g fR Z, LInv L xs sh f g fR Z → WP l G Z0' mLaw room_1 kc ks 874 [some (.ref 0), some (.ref 1), some (.ref 118), some (.int (nI i))] [] (sh, f, g, fR)) : WP l G Z0' mLaw room_1 (kc + 32) (ks + 8095) 624 [some (.ref 0), some (.ref 1), some (.ref 118), some (.int (nI i))] [] (sh, f, g, fR) := by
  refine S_wide (kc' := kc + 0) (ks' := ks + 0) (by omega) (by omega) ?_
  refine S_aload_n (pc := 624) (i := 1) dL_624 rfl rfl ?_
  refine S_arg (pc := 625) (k := 1) dL_625 dL_626 dL_627 (by decide) dL_628 dL_629 hI.2.2.2.2.1 hL (by omega) (hI.2.2.2.2.2 _ (by omega)) ?_
  refine S_arg (pc := 630) (k := 2) dL_630 dL_631 dL_632 (by decide) dL_633 dL_634 hI.2.2.2.2.1 hL (by omega) (hI.2.2.2.2.2 _ (by omega)) ?_
  refine S_callV (As := [.int (xs (i + 1)), .int (xs (i + 2))]) (mc := 0) (ms := 0) (pc := 635) dL_635 miX11_tells mvX11_tells mlL_90 rfl hI.1.shA rfl rfl rfl (d := 100) ⟨Nat.le_of_ble_eq_true rfl, Nat.le_of_ble_eq_true rfl⟩ (P_tells (d := 93) hI.1 hI.2.2.2.1) ?_
  intro v1 h1 hq
  obtain ⟨sh1, f1, g1, fR1, rfl, rfl, hM⟩ := hI.cls (RP.rg hI.2.2.2.1 hq)
  show WP _ _ _ _ _ kc ks 638 _ [.int (tellsS Z (xs (i + 1)) (xs (i + 2)))] (sh1, f1, g1, fR1)
  refine S_aload_n (pc := 638) (i := 2) dL_638 rfl rfl ?_
  refine S_arg (pc := 639) (k := 1) dL_639 dL_640 dL_641 (by decide) dL_642 dL_643 hM.2.2.2.2.2.1 hL (by omega) (hM.2.2.2.2.2.2 _ (by omega)) ?_
  refine S_arg (pc := 644) (k := 2) dL_644 dL_645 dL_646 (by decide) dL_647 dL_648 hM.2.2.2.2.2.1 hL (by omega) (hM.2.2.2.2.2.2 _ (by omega)) ?_
  refine S_callV (S := [.int (tellsS Z (xs (i + 1)) (xs (i + 2)))]) (As := [.int (xs (i + 1)), .int (xs (i + 2))]) (mc := 0) (ms := 0) (pc := 649) dL_649 miX12_tells mvX12_tells mlL_93 rfl (hM.2.2.1.1 0 _ rfl) rfl rfl rfl (d := 100) ⟨Nat.le_of_ble_eq_true rfl, Nat.le_of_ble_eq_true rfl⟩ (M_tells (d := 91) hM.2.2.1 hM.2.1 hM.2.2.2.1) ?_
  intro v2 h2 hq2
  obtain ⟨f2, g2, rfl, rfl, hI2⟩ := hM.ref hq2
  show WP _ _ _ _ _ kc ks 652 _ [.int (tellsS Z (xs (i + 1)) (xs (i + 2))), .int (tellsS Z (xs (i + 1)) (xs (i + 2)))] (sh1, f2, g2, fR1)
  exact S_icmp_eq (pc := 652) (tgt := 874) dL_652 rfl (fun _ => K0 _ _ _ _ _ hI2) (fun z => absurd rfl z)
set_option maxRecDepth 4000 in
theorem LC_ticks (hL : L ≤ 3072) (hI : LInv L xs sh f g fR Z) (hi : i + 5 < L) (K0 : ∀ sh f g fR Z, LInv L xs sh f g fR Z → WP l G Z0' mLaw room_1 kc ks 874 [some (.ref 0), some (.ref 1), some (.ref 118), some (.int (nI i))] [] (sh, f, g, fR)) : WP l G Z0' mLaw room_1 (kc + 32) (ks + 8095) 657 [some (.ref 0), some (.ref 1), some (.ref 118), some (.int (nI i))] [] (sh, f, g, fR) := by
  refine S_aload_n (pc := 657) (i := 1) dL_657 rfl rfl ?_
  refine S_arg (pc := 658) (k := 1) dL_658 dL_659 dL_660 (by decide) dL_661 dL_662 hI.2.2.2.2.1 hL (by omega) (hI.2.2.2.2.2 _ (by omega)) ?_
  refine S_callV (As := [.int (xs (i + 1))]) (mc := 32) (ms := 8095) (pc := 663) dL_663 miX11_ticks mvX11_ticks mlL_94 rfl hI.1.shA rfl rfl rfl (d := 100) ⟨Nat.le_of_ble_eq_true rfl, Nat.le_of_ble_eq_true rfl⟩ (P_ticks (d := 94) hI.1 hI.2.2.2.1) ?_
  intro v1 h1 hq
  obtain ⟨sh1, f1, g1, fR1, rfl, rfl, hM⟩ := hI.cls hq
  show WP _ _ _ _ _ kc ks 666 _ [.int (ticksS Z (xs (i + 1))).2] (sh1, f1, g1, fR1)
  refine S_aload_n (pc := 666) (i := 2) dL_666 rfl rfl ?_
  refine S_arg (pc := 667) (k := 1) dL_667 dL_668 dL_669 (by decide) dL_670 dL_671 hM.2.2.2.2.2.1 hL (by omega) (hM.2.2.2.2.2.2 _ (by omega)) ?_
  refine S_callV (S := [.int (ticksS Z (xs (i + 1))).2]) (As := [.int (xs (i + 1))]) (mc := 0) (ms := 0) (pc := 672) dL_672 miX12_ticks mvX12_ticks mlL_97 rfl (hM.2.2.1.1 0 _ rfl) rfl rfl rfl (d := 100) ⟨Nat.le_of_ble_eq_true rfl, Nat.le_of_ble_eq_true rfl⟩ (M_ticks (d := 93) hM.2.2.1 hM.2.1 hM.2.2.2.1) ?_
  intro v2 h2 hq2
  obtain ⟨f2, g2, rfl, rfl, hI2⟩ := hM.ref hq2
  show WP _ _ _ _ _ kc ks 675 _ [.int (ticksS Z (xs (i + 1))).2, .int (ticksS Z (xs (i + 1))).2] (sh1, f2, g2, fR1)
  exact S_icmp_eq (pc := 675) (tgt := 874) dL_675 rfl (fun _ => K0 _ _ _ _ _ hI2) (fun z => absurd rfl z)
set_option maxRecDepth 4000 in
theorem LC_chance (hL : L ≤ 3072) (hI : LInv L xs sh f g fR Z) (hi : i + 5 < L) (K0 : ∀ sh f g fR Z, LInv L xs sh f g fR Z → WP l G Z0' mLaw room_1 kc ks 874 [some (.ref 0), some (.ref 1), some (.ref 118), some (.int (nI i))] [] (sh, f, g, fR)) : WP l G Z0' mLaw room_1 (kc + 32) (ks + 8095) 680 [some (.ref 0), some (.ref 1), some (.ref 118), some (.int (nI i))] [] (sh, f, g, fR) := by
  refine S_aload_n (pc := 680) (i := 1) dL_680 rfl rfl ?_
  refine S_arg (pc := 681) (k := 1) dL_681 dL_682 dL_683 (by decide) dL_684 dL_685 hI.2.2.2.2.1 hL (by omega) (hI.2.2.2.2.2 _ (by omega)) ?_
  refine S_callV (As := [.int (xs (i + 1))]) (mc := 32) (ms := 8095) (pc := 686) dL_686 miX11_chance mvX11_chance mlL_98 rfl hI.1.shA rfl rfl rfl (d := 100) ⟨Nat.le_of_ble_eq_true rfl, Nat.le_of_ble_eq_true rfl⟩ (P_chance (d := 94) hI.1 hI.2.2.2.1) ?_
  intro v1 h1 hq
  obtain ⟨sh1, f1, g1, fR1, rfl, rfl, hM⟩ := hI.cls hq
  show WP _ _ _ _ _ kc ks 689 _ [.int (chanceS Z (xs (i + 1))).2] (sh1, f1, g1, fR1)
  refine S_aload_n (pc := 689) (i := 2) dL_689 rfl rfl ?_
  refine S_arg (pc := 690) (k := 1) dL_690 dL_691 dL_692 (by decide) dL_693 dL_694 hM.2.2.2.2.2.1 hL (by omega) (hM.2.2.2.2.2.2 _ (by omega)) ?_
  refine S_callV (S := [.int (chanceS Z (xs (i + 1))).2]) (As := [.int (xs (i + 1))]) (mc := 0) (ms := 0) (pc := 695) dL_695 miX12_chance mvX12_chance mlL_101 rfl (hM.2.2.1.1 0 _ rfl) rfl rfl rfl (d := 100) ⟨Nat.le_of_ble_eq_true rfl, Nat.le_of_ble_eq_true rfl⟩ (M_chance (d := 93) hM.2.2.1 hM.2.1 hM.2.2.2.1) ?_
  intro v2 h2 hq2
  obtain ⟨f2, g2, rfl, rfl, hI2⟩ := hM.ref hq2
  show WP _ _ _ _ _ kc ks 698 _ [.int (chanceS Z (xs (i + 1))).2, .int (chanceS Z (xs (i + 1))).2] (sh1, f2, g2, fR1)
  exact S_icmp_eq (pc := 698) (tgt := 874) dL_698 rfl (fun _ => K0 _ _ _ _ _ hI2) (fun z => absurd rfl z)
set_option maxRecDepth 4000 in
theorem LC_join (hL : L ≤ 3072) (hI : LInv L xs sh f g fR Z) (hi : i + 5 < L) (K0 : ∀ sh f g fR Z, LInv L xs sh f g fR Z → WP l G Z0' mLaw room_1 kc ks 874 [some (.ref 0), some (.ref 1), some (.ref 118), some (.int (nI i))] [] (sh, f, g, fR)) : WP l G Z0' mLaw room_1 (kc + 32) (ks + 8095) 703 [some (.ref 0), some (.ref 1), some (.ref 118), some (.int (nI i))] [] (sh, f, g, fR) := by
  refine S_aload_n (pc := 703) (i := 1) dL_703 rfl rfl ?_
  refine S_arg (pc := 704) (k := 1) dL_704 dL_705 dL_706 (by decide) dL_707 dL_708 hI.2.2.2.2.1 hL (by omega) (hI.2.2.2.2.2 _ (by omega)) ?_
  refine S_arg (pc := 709) (k := 2) dL_709 dL_710 dL_711 (by decide) dL_712 dL_713 hI.2.2.2.2.1 hL (by omega) (hI.2.2.2.2.2 _ (by omega)) ?_
  refine S_callV (As := [.int (xs (i + 1)), .int (xs (i + 2))]) (mc := 32) (ms := 8095) (pc := 714) dL_714 miX11_join mvX11_join mlL_102 rfl hI.1.shA rfl rfl rfl (d := 100) ⟨Nat.le_of_ble_eq_true rfl, Nat.le_of_ble_eq_true rfl⟩ (P_join (d := 96) hI.1 hI.2.2.2.1) ?_
  intro v1 h1 hq
  obtain ⟨sh1, f1, g1, fR1, rfl, rfl, hM⟩ := hI.cls hq
  show WP _ _ _ _ _ kc ks 717 _ [.int (joinZ Z (xs (i + 1)) (xs (i + 2))).2] (sh1, f1, g1, fR1)
  refine S_aload_n (pc := 717) (i := 2) dL_717 rfl rfl ?_
  refine S_arg (pc := 718) (k := 1) dL_718 dL_719 dL_720 (by decide) dL_721 dL_722 hM.2.2.2.2.2.1 hL (by omega) (hM.2.2.2.2.2.2 _ (by omega)) ?_
  refine S_arg (pc := 723) (k := 2) dL_723 dL_724 dL_725 (by decide) dL_726 dL_727 hM.2.2.2.2.2.1 hL (by omega) (hM.2.2.2.2.2.2 _ (by omega)) ?_
  refine S_callV (S := [.int (joinZ Z (xs (i + 1)) (xs (i + 2))).2]) (As := [.int (xs (i + 1)), .int (xs (i + 2))]) (mc := 0) (ms := 0) (pc := 728) dL_728 miX12_join mvX12_join mlL_106 rfl (hM.2.2.1.1 0 _ rfl) rfl rfl rfl (d := 100) ⟨Nat.le_of_ble_eq_true rfl, Nat.le_of_ble_eq_true rfl⟩ (M_join (d := 97) hM.2.2.1 hM.2.1 hM.2.2.2.1) ?_
  intro v2 h2 hq2
  obtain ⟨f2, g2, rfl, rfl, hI2⟩ := hM.ref hq2
  show WP _ _ _ _ _ kc ks 731 _ [.int (joinZ Z (xs (i + 1)) (xs (i + 2))).2, .int (joinZ Z (xs (i + 1)) (xs (i + 2))).2] (sh1, f2, g2, fR1)
  exact S_icmp_eq (pc := 731) (tgt := 874) dL_731 rfl (fun _ => K0 _ _ _ _ _ hI2) (fun z => absurd rfl z)
set_option maxRecDepth 4000 in
theorem LC_kill (hL : L ≤ 3072) (hI : LInv L xs sh f g fR Z) (hi : i + 5 < L) (K0 : ∀ sh f g fR Z, LInv L xs sh f g fR Z → WP l G Z0' mLaw room_1 kc ks 874 [some (.ref 0), some (.ref 1), some (.ref 118), some (.int (nI i))] [] (sh, f, g, fR)) : WP l G Z0' mLaw room_1 (kc + 32) (ks + 8095) 736 [some (.ref 0), some (.ref 1), some (.ref 118), some (.int (nI i))] [] (sh, f, g, fR) := by
  refine S_aload_n (pc := 736) (i := 1) dL_736 rfl rfl ?_
  refine S_arg (pc := 737) (k := 1) dL_737 dL_738 dL_739 (by decide) dL_740 dL_741 hI.2.2.2.2.1 hL (by omega) (hI.2.2.2.2.2 _ (by omega)) ?_
  refine S_callV (As := [.int (xs (i + 1))]) (mc := 32) (ms := 8095) (pc := 742) dL_742 miX11_kill mvX11_kill mlL_107 rfl hI.1.shA rfl rfl rfl (d := 100) ⟨Nat.le_of_ble_eq_true rfl, Nat.le_of_ble_eq_true rfl⟩ (P_kill (d := 96) hI.1 hI.2.2.2.1) ?_
  intro v1 h1 hq
  obtain ⟨sh1, f1, g1, fR1, rfl, rfl, hM⟩ := hI.cls hq
  show WP _ _ _ _ _ kc ks 745 _ [.int (killS Z (xs (i + 1))).2] (sh1, f1, g1, fR1)
  refine S_aload_n (pc := 745) (i := 2) dL_745 rfl rfl ?_
  refine S_arg (pc := 746) (k := 1) dL_746 dL_747 dL_748 (by decide) dL_749 dL_750 hM.2.2.2.2.2.1 hL (by omega) (hM.2.2.2.2.2.2 _ (by omega)) ?_
  refine S_callV (S := [.int (killS Z (xs (i + 1))).2]) (As := [.int (xs (i + 1))]) (mc := 0) (ms := 0) (pc := 751) dL_751 miX12_kill mvX12_kill mlL_110 rfl (hM.2.2.1.1 0 _ rfl) rfl rfl rfl (d := 100) ⟨Nat.le_of_ble_eq_true rfl, Nat.le_of_ble_eq_true rfl⟩ (M_kill (d := 97) hM.2.2.1 hM.2.1 hM.2.2.2.1) ?_
  intro v2 h2 hq2
  obtain ⟨f2, g2, rfl, rfl, hI2⟩ := hM.ref hq2
  show WP _ _ _ _ _ kc ks 754 _ [.int (killS Z (xs (i + 1))).2, .int (killS Z (xs (i + 1))).2] (sh1, f2, g2, fR1)
  exact S_icmp_eq (pc := 754) (tgt := 874) dL_754 rfl (fun _ => K0 _ _ _ _ _ hI2) (fun z => absurd rfl z)
set_option maxRecDepth 4000 in
theorem LC_spoil (hL : L ≤ 3072) (hI : LInv L xs sh f g fR Z) (hi : i + 5 < L) (K0 : ∀ sh f g fR Z, LInv L xs sh f g fR Z → WP l G Z0' mLaw room_1 kc ks 874 [some (.ref 0), some (.ref 1), some (.ref 118), some (.int (nI i))] [] (sh, f, g, fR)) : WP l G Z0' mLaw room_1 (kc + 32) (ks + 8095) 759 [some (.ref 0), some (.ref 1), some (.ref 118), some (.int (nI i))] [] (sh, f, g, fR) := by
  refine S_aload_n (pc := 759) (i := 1) dL_759 rfl rfl ?_
  refine S_arg (pc := 760) (k := 1) dL_760 dL_761 dL_762 (by decide) dL_763 dL_764 hI.2.2.2.2.1 hL (by omega) (hI.2.2.2.2.2 _ (by omega)) ?_
  refine S_callV (As := [.int (xs (i + 1))]) (mc := 32) (ms := 8095) (pc := 765) dL_765 miX11_spoil mvX11_spoil mlL_111 rfl hI.1.shA rfl rfl rfl (d := 100) ⟨Nat.le_of_ble_eq_true rfl, Nat.le_of_ble_eq_true rfl⟩ (P_spoil (d := 96) hI.1 hI.2.2.2.1) ?_
  intro v1 h1 hq
  obtain ⟨sh1, f1, g1, fR1, rfl, rfl, hM⟩ := hI.cls hq
  show WP _ _ _ _ _ kc ks 768 _ [.int (spoilS Z (xs (i + 1))).2] (sh1, f1, g1, fR1)
  refine S_aload_n (pc := 768) (i := 2) dL_768 rfl rfl ?_
  refine S_arg (pc := 769) (k := 1) dL_769 dL_770 dL_771 (by decide) dL_772 dL_773 hM.2.2.2.2.2.1 hL (by omega) (hM.2.2.2.2.2.2 _ (by omega)) ?_
  refine S_callV (S := [.int (spoilS Z (xs (i + 1))).2]) (As := [.int (xs (i + 1))]) (mc := 0) (ms := 0) (pc := 774) dL_774 miX12_spoil mvX12_spoil mlL_114 rfl (hM.2.2.1.1 0 _ rfl) rfl rfl rfl (d := 100) ⟨Nat.le_of_ble_eq_true rfl, Nat.le_of_ble_eq_true rfl⟩ (M_spoil (d := 97) hM.2.2.1 hM.2.1 hM.2.2.2.1) ?_
  intro v2 h2 hq2
  obtain ⟨f2, g2, rfl, rfl, hI2⟩ := hM.ref hq2
  show WP _ _ _ _ _ kc ks 777 _ [.int (spoilS Z (xs (i + 1))).2, .int (spoilS Z (xs (i + 1))).2] (sh1, f2, g2, fR1)
  exact S_icmp_eq (pc := 777) (tgt := 874) dL_777 rfl (fun _ => K0 _ _ _ _ _ hI2) (fun z => absurd rfl z)
set_option maxRecDepth 4000 in
theorem LC_undo (hL : L ≤ 3072) (hI : LInv L xs sh f g fR Z) (hi : i + 5 < L) (K0 : ∀ sh f g fR Z, LInv L xs sh f g fR Z → WP l G Z0' mLaw room_1 kc ks 874 [some (.ref 0), some (.ref 1), some (.ref 118), some (.int (nI i))] [] (sh, f, g, fR)) : WP l G Z0' mLaw room_1 (kc + 32) (ks + 8095) 782 [some (.ref 0), some (.ref 1), some (.ref 118), some (.int (nI i))] [] (sh, f, g, fR) := by
  refine S_wide (kc' := kc + 0) (ks' := ks + 0) (by omega) (by omega) ?_
  refine S_aload_n (pc := 782) (i := 1) dL_782 rfl rfl ?_
  refine S_callV (As := []) (mc := 0) (ms := 0) (pc := 783) dL_783 miX11_undo mvX11_undo mlL_115 rfl hI.1.shA rfl rfl rfl (d := 100) ⟨Nat.le_of_ble_eq_true rfl, Nat.le_of_ble_eq_true rfl⟩ (P_undo (d := 97) hI.1 hI.2.2.2.1) ?_
  intro v1 h1 hq
  obtain ⟨sh1, f1, g1, fR1, rfl, rfl, hM⟩ := hI.cls (RP.rg (z_undo hI.2.2.2.1) hq)
  show WP _ _ _ _ _ kc ks 786 _ [.int (undoS Z ).2] (sh1, f1, g1, fR1)
  refine S_aload_n (pc := 786) (i := 2) dL_786 rfl rfl ?_
  refine S_callV (S := [.int (undoS Z ).2]) (As := []) (mc := 0) (ms := 0) (pc := 787) dL_787 miX12_undo mvX12_undo mlL_119 rfl (hM.2.2.1.1 0 _ rfl) rfl rfl rfl (d := 100) ⟨Nat.le_of_ble_eq_true rfl, Nat.le_of_ble_eq_true rfl⟩ (M_undo (d := 98) hM.2.2.1 hM.2.1 hM.2.2.2.1) ?_
  intro v2 h2 hq2
  obtain ⟨f2, g2, rfl, rfl, hI2⟩ := hM.ref hq2
  show WP _ _ _ _ _ kc ks 790 _ [.int (undoS Z ).2, .int (undoS Z ).2] (sh1, f2, g2, fR1)
  exact S_icmp_eq (pc := 790) (tgt := 874) dL_790 rfl (fun _ => K0 _ _ _ _ _ hI2) (fun z => absurd rfl z)
set_option maxRecDepth 4000 in
theorem LC_seed (hL : L ≤ 3072) (hI : LInv L xs sh f g fR Z) (hi : i + 5 < L) (K0 : ∀ sh f g fR Z, LInv L xs sh f g fR Z → WP l G Z0' mLaw room_1 kc ks 874 [some (.ref 0), some (.ref 1), some (.ref 118), some (.int (nI i))] [] (sh, f, g, fR)) : WP l G Z0' mLaw room_1 (kc + 32) (ks + 8095) 795 [some (.ref 0), some (.ref 1), some (.ref 118), some (.int (nI i))] [] (sh, f, g, fR) := by
  refine S_wide (kc' := kc + 0) (ks' := ks + 0) (by omega) (by omega) ?_
  refine S_aload_n (pc := 795) (i := 1) dL_795 rfl rfl ?_
  refine S_arg (pc := 796) (k := 1) dL_796 dL_797 dL_798 (by decide) dL_799 dL_800 hI.2.2.2.2.1 hL (by omega) (hI.2.2.2.2.2 _ (by omega)) ?_
  refine S_callV (As := [.int (xs (i + 1))]) (mc := 0) (ms := 0) (pc := 801) dL_801 miX11_seed mvX11_seed mlL_120 rfl hI.1.shA rfl rfl rfl (d := 100) ⟨Nat.le_of_ble_eq_true rfl, Nat.le_of_ble_eq_true rfl⟩ (P_seed (d := 100) hI.1) ?_
  intro v1 h1 hq
  obtain ⟨sh1, f1, g1, fR1, rfl, rfl, hM⟩ := hI.cls (RP.rg (z_seed hI.2.2.2.1) hq)
  show WP _ _ _ _ _ kc ks 804 _ [.int (seedS Z (xs (i + 1))).2] (sh1, f1, g1, fR1)
  refine S_aload_n (pc := 804) (i := 2) dL_804 rfl rfl ?_
  refine S_arg (pc := 805) (k := 1) dL_805 dL_806 dL_807 (by decide) dL_808 dL_809 hM.2.2.2.2.2.1 hL (by omega) (hM.2.2.2.2.2.2 _ (by omega)) ?_
  refine S_callV (S := [.int (seedS Z (xs (i + 1))).2]) (As := [.int (xs (i + 1))]) (mc := 0) (ms := 0) (pc := 810) dL_810 miX12_seed mvX12_seed mlL_123 rfl (hM.2.2.1.1 0 _ rfl) rfl rfl rfl (d := 100) ⟨Nat.le_of_ble_eq_true rfl, Nat.le_of_ble_eq_true rfl⟩ (M_seed (d := 99) hM.2.2.1 hM.2.1) ?_
  intro v2 h2 hq2
  obtain ⟨f2, g2, rfl, rfl, hI2⟩ := hM.ref hq2
  show WP _ _ _ _ _ kc ks 813 _ [.int (seedS Z (xs (i + 1))).2, .int (seedS Z (xs (i + 1))).2] (sh1, f2, g2, fR1)
  exact S_icmp_eq (pc := 813) (tgt := 874) dL_813 rfl (fun _ => K0 _ _ _ _ _ hI2) (fun z => absurd rfl z)
set_option maxRecDepth 4000 in
theorem LC_kept (hL : L ≤ 3072) (hI : LInv L xs sh f g fR Z) (hi : i + 5 < L) (K0 : ∀ sh f g fR Z, LInv L xs sh f g fR Z → WP l G Z0' mLaw room_1 kc ks 874 [some (.ref 0), some (.ref 1), some (.ref 118), some (.int (nI i))] [] (sh, f, g, fR)) : WP l G Z0' mLaw room_1 (kc + 32) (ks + 8095) 818 [some (.ref 0), some (.ref 1), some (.ref 118), some (.int (nI i))] [] (sh, f, g, fR) := by
  refine S_wide (kc' := kc + 0) (ks' := ks + 0) (by omega) (by omega) ?_
  refine S_aload_n (pc := 818) (i := 1) dL_818 rfl rfl ?_
  refine S_arg (pc := 819) (k := 1) dL_819 dL_820 dL_821 (by decide) dL_822 dL_823 hI.2.2.2.2.1 hL (by omega) (hI.2.2.2.2.2 _ (by omega)) ?_
  refine S_arg (pc := 824) (k := 2) dL_824 dL_825 dL_826 (by decide) dL_827 dL_828 hI.2.2.2.2.1 hL (by omega) (hI.2.2.2.2.2 _ (by omega)) ?_
  refine S_callV (As := [.int (xs (i + 1)), .int (xs (i + 2))]) (mc := 0) (ms := 0) (pc := 829) dL_829 miX11_kept mvX11_kept mlL_124 rfl hI.1.shA rfl rfl rfl (d := 100) ⟨Nat.le_of_ble_eq_true rfl, Nat.le_of_ble_eq_true rfl⟩ (P_kept (d := 99) hI.1) ?_
  intro v1 h1 hq
  obtain ⟨sh1, f1, g1, fR1, rfl, rfl, hM⟩ := hI.cls (RP.rg hI.2.2.2.1 hq)
  show WP _ _ _ _ _ kc ks 832 _ [.int (keptS Z (xs (i + 1)) (xs (i + 2)))] (sh1, f1, g1, fR1)
  refine S_aload_n (pc := 832) (i := 2) dL_832 rfl rfl ?_
  refine S_arg (pc := 833) (k := 1) dL_833 dL_834 dL_835 (by decide) dL_836 dL_837 hM.2.2.2.2.2.1 hL (by omega) (hM.2.2.2.2.2.2 _ (by omega)) ?_
  refine S_arg (pc := 838) (k := 2) dL_838 dL_839 dL_840 (by decide) dL_841 dL_842 hM.2.2.2.2.2.1 hL (by omega) (hM.2.2.2.2.2.2 _ (by omega)) ?_
  refine S_callV (S := [.int (keptS Z (xs (i + 1)) (xs (i + 2)))]) (As := [.int (xs (i + 1)), .int (xs (i + 2))]) (mc := 0) (ms := 0) (pc := 843) dL_843 miX12_kept mvX12_kept mlL_127 rfl (hM.2.2.1.1 0 _ rfl) rfl rfl rfl (d := 100) ⟨Nat.le_of_ble_eq_true rfl, Nat.le_of_ble_eq_true rfl⟩ (M_kept (d := 99) hM.2.2.1 hM.2.1 hM.2.2.2.1) ?_
  intro v2 h2 hq2
  obtain ⟨f2, g2, rfl, rfl, hI2⟩ := hM.ref hq2
  show WP _ _ _ _ _ kc ks 846 _ [.int (keptS Z (xs (i + 1)) (xs (i + 2))), .int (keptS Z (xs (i + 1)) (xs (i + 2)))] (sh1, f2, g2, fR1)
  exact S_icmp_eq (pc := 846) (tgt := 874) dL_846 rfl (fun _ => K0 _ _ _ _ _ hI2) (fun z => absurd rfl z)
set_option maxRecDepth 4000 in
theorem LC_status (hL : L ≤ 3072) (hI : LInv L xs sh f g fR Z) (hi : i + 5 < L) (K0 : ∀ sh f g fR Z, LInv L xs sh f g fR Z → WP l G Z0' mLaw room_1 kc ks 874 [some (.ref 0), some (.ref 1), some (.ref 118), some (.int (nI i))] [] (sh, f, g, fR)) : WP l G Z0' mLaw room_1 (kc + 32) (ks + 8095) 851 [some (.ref 0), some (.ref 1), some (.ref 118), some (.int (nI i))] [] (sh, f, g, fR) := by
  refine S_wide (kc' := kc + 0) (ks' := ks + 0) (by omega) (by omega) ?_
  refine S_aload_n (pc := 851) (i := 1) dL_851 rfl rfl ?_
  refine S_arg (pc := 852) (k := 1) dL_852 dL_853 dL_854 (by decide) dL_855 dL_856 hI.2.2.2.2.1 hL (by omega) (hI.2.2.2.2.2 _ (by omega)) ?_
  refine S_callV (As := [.int (xs (i + 1))]) (mc := 0) (ms := 0) (pc := 857) dL_857 miX11_status mvX11_status mlL_128 rfl hI.1.shA rfl rfl rfl (d := 100) ⟨Nat.le_of_ble_eq_true rfl, Nat.le_of_ble_eq_true rfl⟩ (P_status (d := 100) hI.1) ?_
  intro v1 h1 hq
  obtain ⟨sh1, f1, g1, fR1, rfl, rfl, hM⟩ := hI.cls (RP.rg hI.2.2.2.1 hq)
  show WP _ _ _ _ _ kc ks 860 _ [.int (statusS Z (xs (i + 1)))] (sh1, f1, g1, fR1)
  refine S_aload_n (pc := 860) (i := 2) dL_860 rfl rfl ?_
  refine S_arg (pc := 861) (k := 1) dL_861 dL_862 dL_863 (by decide) dL_864 dL_865 hM.2.2.2.2.2.1 hL (by omega) (hM.2.2.2.2.2.2 _ (by omega)) ?_
  refine S_callV (S := [.int (statusS Z (xs (i + 1)))]) (As := [.int (xs (i + 1))]) (mc := 0) (ms := 0) (pc := 866) dL_866 miX12_status mvX12_status mlL_131 rfl (hM.2.2.1.1 0 _ rfl) rfl rfl rfl (d := 100) ⟨Nat.le_of_ble_eq_true rfl, Nat.le_of_ble_eq_true rfl⟩ (M_status (d := 99) hM.2.2.1 hM.2.1) ?_
  intro v2 h2 hq2
  obtain ⟨f2, g2, rfl, rfl, hI2⟩ := hM.ref hq2
  show WP _ _ _ _ _ kc ks 869 _ [.int (statusS Z (xs (i + 1))), .int (statusS Z (xs (i + 1)))] (sh1, f2, g2, fR1)
  exact S_icmp_eq (pc := 869) (tgt := 874) dL_869 rfl (fun _ => K0 _ _ _ _ _ hI2) (fun z => absurd rfl z)
end LAW
