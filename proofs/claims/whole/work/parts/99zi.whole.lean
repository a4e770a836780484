/-! THE CLAIM OUT OF ONE WALK OF THE LAW'S BODY. Your part is whole_start (and what it stands on); all else here is the same for every law, but numbers. -/
def R_law : String := "PathStreamLaw"
def lw_P (b : Addr) (xs : List Int32) (args : Array Value) (s : State) : Prop := args = #[.ref b] ∧ s.IntsAt b xs ∧ xs.length ≤ 3072 ∧ (Jvm.Cond.and given_1 narrow_1).before args s = true
def lw_Q (_ : Array Value) (s : State) (o : Outcome) (t : State) : Prop := o = .returned (some (.int 1)) ∧ Framed s o t [] 600000 7302250
def lw_Z (below : List Frame) (a : Array Value) (s : State) : State → Prop := fun t => ∃ o, t.status = .running ∧ Ended t below o ∧ lw_Q a s o t
/-- the law's own end, with 1 on the stack, nothing written that was there before, its room as the claim has it -/
theorem lw_ret {p : Program} {l : Launch} {e : Env} {s : State} {m : MethodId} {below : List Frame} {meth : Method} {c : Code} {b : Nat} (hx : p.tables.exec = Jvm.exec) (hb : c.code = code) (hr : meth.sig.returnType = ret) (hlocks : meth.locks = false) {pc : Nat} {H : Heap} {ls : Array Slot} (hdg : decode code pc = .ok (.ireturn, 1)) : W p l e room_1 s m #[Value.ref b] below meth c H [] 600000 7302250 (lw_Z below #[Value.ref b] s) (F0 m pc ls [.int 1]) := by
  intro T hT X
  obtain ⟨fs, hret, hrun, hended, hW, hframe⟩ := X.leave (v := some (.int 1)) (hlocks := hlocks) (fun h => by rw [hr] at h; cases h)
  have hmeth' : T.vm.method? m = some meth := X.method'
  refine ⟨T.setFrames fs, ?_, .returned (some (.int 1)), hrun, hended, rfl, ⟨_, rfl⟩, hW, hframe⟩
  jvm_step X.here [X.here.top, hx, hb, hdg, hmeth', hr, ret, narrow_b1]
  (try refine ⟨rfl, ?_⟩); (try refine ⟨rfl, ?_⟩)
  first | (intro acts; rw [hret _ acts rfl rfl rfl]) | rw [hret _ _ rfl rfl rfl]
  exact Steps.refl _
/-- what holds at the law's entry: the machine, the code, the tables' words (any of lw_tbl by 'hts w (by decide +kernel)'), the script of L ints xs at the cell b, what the Statement gives of the start (any of its parts by flat_of_before) -/
def lw_At (p : Program) (s : State) (m : MethodId) (meth : Method) (c : Code) (b L : Nat) (xs : Nat → Int32) : Prop :=
  p.tables.exec = Jvm.exec ∧ c.code = code ∧ meth.sig.returnType = ret ∧ c.maxLocals = 4 ∧ s.vm.findClass R_law = some m.cls ∧ (∀ w ∈ lw_tbl, w.before #[Value.ref b] s = true) ∧ va_X b L xs s s.heap ∧ b < s.heap.size ∧ meth.locks = false ∧ (Jvm.Cond.and given_1 narrow_1).before #[Value.ref b] s = true ∧ meth.name = x.name
def Zl (G : Gx) : Zt := fun below args s t => (args = #[.ref G.1] ∧ s.heap.size = G.2.1) → lw_Z below args s t
section LOOP
variable {l : Launch} {G : Gx} {L : Nat} {xs : Nat → Int32} {sh : Sh} {f : FI} {g : FL} {fR : FRt} {Z : Zs} {kc ks i x : Nat}
theorem L_end {LL : List (Option Value)} {h : Hp} : WP l G (Zl G) mLaw room_1 kc ks 880 LL [] h := by
  refine S_iconst (pc := 880) (v := 1) dL_880 rfl ?_
  intro p e s m args below meth c C ls H locs cells slots hl hh hS hc hk
  by_cases hg : args = #[.ref G.1] ∧ s.heap.size = G.2.1
  · obtain ⟨rfl, hsz⟩ := hg
    refine va_forget (fun q hq => by rw [hsz]; exact hS.2.2 q hq) ?_
    refine W.widen (k := 600000) (n := 7302250) (by have : room_1.cells = 600000 := rfl; omega) (by have : room_1.slots = 7302250 := rfl; omega) ?_
    have K := lw_ret (p := p) (l := l) (e := e) (s := s) (m := m) (below := below) (meth := meth) (c := c) (b := G.1) C.1 C.2.1 C.2.2.2.1 C.2.2.2.2.2.2.1 (pc := 881) (H := H) (ls := ls) dL_881
    intro T hT X
    obtain ⟨t, a1, a2⟩ := K T hT X
    exact ⟨t, a1, fun _ => a2⟩
  · intro T hT X
    exact ⟨_, Steps.refl _, fun z => absurd z hg⟩
theorem l_cond (hL : L ≤ 3072) (hi : i ≤ L) (h : ¬ nI L - nI 6 < nI i) : i + 5 < L := by
  refine Nat.not_le.mp fun hq => h ?_
  by_cases h6 : 6 ≤ L
  · have e : nI L - nI 6 = nI (L - 6) := by
      have := nI_add (L - 6) 6
      rw [Nat.sub_add_cancel h6] at this
      rw [← this, Int32.add_sub_cancel]
    rw [e]
    exact nI_lt (by omega) (by omega)
  · exact (by decide : ∀ L < 6, ∀ i < 6, nI L - nI 6 < nI i) L (by omega) i (by omega)
theorem L_head (hL : L ≤ 3072) (hI : LInv L xs sh f g fR Z) (hi : i ≤ L) (kk : i + 5 < L → WP l G (Zl G) mLaw room_1 kc ks 27 [some (.ref 0), some (.ref 1), some (.ref 118), some (.int (nI i))] [] (sh, f, g, fR)) : WP l G (Zl G) mLaw room_1 kc ks 18 [some (.ref 0), some (.ref 1), some (.ref 118), some (.int (nI i))] [] (sh, f, g, fR) := by
  refine S_iload_n (pc := 18) (i := 3) dL_18 rfl rfl ?_
  refine S_aload_n (pc := 19) (i := 0) dL_19 rfl rfl ?_
  refine S_slen (pc := 20) dL_20 hI.2.2.2.2.1 ?_
  refine S_bipush (pc := 21) (v := nI 6) dL_21 (by decide) ?_
  refine S_isub (pc := 23) dL_23 ?_
  exact S_icmp_gt (pc := 24) (tgt := 880) dL_24 rfl (fun _ => L_end) (fun q => kk (l_cond hL hi q))
theorem L_body (hL : L ≤ 3072) (hI : LInv L xs sh f g fR Z) (hi : i + 5 < L) (K0 : ∀ sh f g fR Z, LInv L xs sh f g fR Z → WP l G (Zl G) mLaw room_1 kc ks 874 [some (.ref 0), some (.ref 1), some (.ref 118), some (.int (nI i))] [] (sh, f, g, fR)) : WP l G (Zl G) mLaw room_1 (kc + 32) (ks + 8095) 27 [some (.ref 0), some (.ref 1), some (.ref 118), some (.int (nI i))] [] (sh, f, g, fR) := by
  refine S_aload_n (pc := 27) (i := 0) dL_27 rfl rfl ?_
  refine S_iload_n (pc := 28) (i := 3) dL_28 rfl rfl ?_
  refine S_sld (pc := 29) dL_29 hI.2.2.2.2.1 (inbN (by omega) (by omega)) ?_
  refine S_bipush (pc := 30) (v := nI 31) dL_30 (by decide) ?_
  refine S_iand (pc := 32) dL_32 ?_
  obtain ⟨j, hj, e⟩ := pk_andE ((sh, f, g, fR).2.1 0 (nI i).toNatClampNeg) (m := nI 31) 5 (by decide)
  rw [e]
  rcases (show j = 0 ∨ j = 1 ∨ j = 2 ∨ j = 3 ∨ j = 4 ∨ j = 5 ∨ j = 6 ∨ j = 7 ∨ j = 8 ∨ j = 9 ∨ j = 10 ∨ j = 11 ∨ j = 12 ∨ j = 13 ∨ j = 14 ∨ j = 15 ∨ j = 16 ∨ j = 17 ∨ j = 18 ∨ j = 19 ∨ j = 20 ∨ j = 21 ∨ j = 22 ∨ j = 23 ∨ j = 24 ∨ j = 25 ∨ j = 26 ∨ j = 27 ∨ j = 28 ∨ j = 29 ∨ j = 30 ∨ j = 31 by omega) with rfl | rfl | rfl | rfl | rfl | rfl | rfl | rfl | rfl | rfl | rfl | rfl | rfl | rfl | rfl | rfl | rfl | rfl | rfl | rfl | rfl | rfl | rfl | rfl | rfl | rfl | rfl | rfl | rfl | rfl | rfl | rfl
  · exact S_tsw (pc := 33) (tgt := 160) dL_33 (Or.inr ⟨by decide, by decide, 127, rfl, rfl⟩) (LC_feed hL hI hi K0)
  · exact S_tsw (pc := 33) (tgt := 223) dL_33 (Or.inr ⟨by decide, by decide, 190, rfl, rfl⟩) (LC_end hL hI hi K0)
  · exact S_tsw (pc := 33) (tgt := 246) dL_33 (Or.inr ⟨by decide, by decide, 213, rfl, rfl⟩) (LC_stream hL hI hi K0)
  · exact S_tsw (pc := 33) (tgt := 259) dL_33 (Or.inr ⟨by decide, by decide, 226, rfl, rfl⟩) (LC_fault hL hI hi K0)
  · exact S_tsw (pc := 33) (tgt := 282) dL_33 (Or.inr ⟨by decide, by decide, 249, rfl, rfl⟩) (LC_has hL hI hi K0)
  · exact S_tsw (pc := 33) (tgt := 305) dL_33 (Or.inr ⟨by decide, by decide, 272, rfl, rfl⟩) (LC_letter hL hI hi K0)
  · exact S_tsw (pc := 33) (tgt := 338) dL_33 (Or.inr ⟨by decide, by decide, 305, rfl, rfl⟩) (LC_path hL hI hi K0)
  · exact S_tsw (pc := 33) (tgt := 371) dL_33 (Or.inr ⟨by decide, by decide, 338, rfl, rfl⟩) (LC_segment hL hI hi K0)
  · exact S_tsw (pc := 33) (tgt := 404) dL_33 (Or.inr ⟨by decide, by decide, 371, rfl, rfl⟩) (LC_octet hL hI hi K0)
  · exact S_tsw (pc := 33) (tgt := 427) dL_33 (Or.inr ⟨by decide, by decide, 394, rfl, rfl⟩) (LC_refusals hL hI hi K0)
  · exact S_tsw (pc := 33) (tgt := 450) dL_33 (Or.inr ⟨by decide, by decide, 417, rfl, rfl⟩) (LC_later hL hI hi K0)
  · exact S_tsw (pc := 33) (tgt := 483) dL_33 (Or.inr ⟨by decide, by decide, 450, rfl, rfl⟩) (LC_finish hL hI hi K0)
  · exact S_tsw (pc := 33) (tgt := 496) dL_33 (Or.inr ⟨by decide, by decide, 463, rfl, rfl⟩) (LC_without hL hI hi K0)
  · exact S_tsw (pc := 33) (tgt := 519) dL_33 (Or.inr ⟨by decide, by decide, 486, rfl, rfl⟩) (LC_alone hL hI hi K0)
  · exact S_tsw (pc := 33) (tgt := 542) dL_33 (Or.inr ⟨by decide, by decide, 509, rfl, rfl⟩) (LC_window hL hI hi K0)
  · exact S_tsw (pc := 33) (tgt := 565) dL_33 (Or.inr ⟨by decide, by decide, 532, rfl, rfl⟩) (LC_odds hL hI hi K0)
  · exact S_tsw (pc := 33) (tgt := 588) dL_33 (Or.inr ⟨by decide, by decide, 555, rfl, rfl⟩) (LC_meet hL hI hi K0)
  · exact S_tsw (pc := 33) (tgt := 601) dL_33 (Or.inr ⟨by decide, by decide, 568, rfl, rfl⟩) (LC_delays hL hI hi K0)
  · exact S_tsw (pc := 33) (tgt := 624) dL_33 (Or.inr ⟨by decide, by decide, 591, rfl, rfl⟩) (LC_tells hL hI hi K0)
  · exact S_tsw (pc := 33) (tgt := 657) dL_33 (Or.inr ⟨by decide, by decide, 624, rfl, rfl⟩) (LC_ticks hL hI hi K0)
  · exact S_tsw (pc := 33) (tgt := 680) dL_33 (Or.inr ⟨by decide, by decide, 647, rfl, rfl⟩) (LC_chance hL hI hi K0)
  · exact S_tsw (pc := 33) (tgt := 703) dL_33 (Or.inr ⟨by decide, by decide, 670, rfl, rfl⟩) (LC_join hL hI hi K0)
  · exact S_tsw (pc := 33) (tgt := 736) dL_33 (Or.inr ⟨by decide, by decide, 703, rfl, rfl⟩) (LC_kill hL hI hi K0)
  · exact S_tsw (pc := 33) (tgt := 759) dL_33 (Or.inr ⟨by decide, by decide, 726, rfl, rfl⟩) (LC_spoil hL hI hi K0)
  · exact S_tsw (pc := 33) (tgt := 782) dL_33 (Or.inr ⟨by decide, by decide, 749, rfl, rfl⟩) (LC_undo hL hI hi K0)
  · exact S_tsw (pc := 33) (tgt := 795) dL_33 (Or.inr ⟨by decide, by decide, 762, rfl, rfl⟩) (LC_seed hL hI hi K0)
  · exact S_tsw (pc := 33) (tgt := 818) dL_33 (Or.inr ⟨by decide, by decide, 785, rfl, rfl⟩) (LC_kept hL hI hi K0)
  · exact S_tsw (pc := 33) (tgt := 851) dL_33 (Or.inr ⟨by decide, by decide, 818, rfl, rfl⟩) (LC_status hL hI hi K0)
  · exact S_tsw (pc := 33) (tgt := 874) dL_33 (Or.inl ⟨Or.inr (by decide), rfl⟩) (S_wide (by omega) (by omega) (K0 _ _ _ _ _ hI))
  · exact S_tsw (pc := 33) (tgt := 874) dL_33 (Or.inl ⟨Or.inr (by decide), rfl⟩) (S_wide (by omega) (by omega) (K0 _ _ _ _ _ hI))
  · exact S_tsw (pc := 33) (tgt := 874) dL_33 (Or.inl ⟨Or.inr (by decide), rfl⟩) (S_wide (by omega) (by omega) (K0 _ _ _ _ _ hI))
  · exact S_tsw (pc := 33) (tgt := 874) dL_33 (Or.inl ⟨Or.inr (by decide), rfl⟩) (S_wide (by omega) (by omega) (K0 _ _ _ _ _ hI))
theorem L_loop (hL : L ≤ 3072) : ∀ (n i : Nat) (sh : Sh) (f : FI) (g : FL) (fR : FRt) (Z : Zs), LInv L xs sh f g fR Z → i ≤ L → L ≤ i + 6 * n + 5 → WP l G (Zl G) mLaw room_1 (32 * n) (8095 * n) 18 [some (.ref 0), some (.ref 1), some (.ref 118), some (.int (nI i))] [] (sh, f, g, fR)
  | 0, i, sh, f, g, fR, Z, hI, hi, hn => L_head hL hI hi (fun q => absurd q (by omega))
  | n + 1, i, sh, f, g, fR, Z, hI, hi, hn => by
    refine L_head hL hI hi (fun q => ?_)
    rw [Nat.mul_succ, Nat.mul_succ]
    refine L_body hL hI q (fun sh' f' g' fR' Z' hI' => ?_)
    refine S_iinc (pc := 874) (i := 3) (v := nI 6) dL_874 rfl (by decide) rfl ?_
    refine S_goto (pc := 877) (tgt := 18) dL_877 rfl ?_
    show WP l G (Zl G) mLaw room_1 (32 * n) (8095 * n) 18 [some (.ref 0), some (.ref 1), some (.ref 118), some (.int (nI i + nI 6))] [] (sh', f', g', fR')
    rw [nI_add]
    exact L_loop hL n (i + 6) sh' f' g' fR' Z' hI' (by omega) (by omega)
theorem fi_one {α : Type} {f : Nat → Nat → α} {z : α} : zrow f x z = fi f z x 1 [] := by
  funext a b
  unfold zrow fi
  by_cases c : a = x
  · rw [if_pos c, if_pos (by omega)]; rfl
  · rw [if_neg c, if_neg (by omega)]
theorem rf_one : zrow fR x none = rf fR x 1 [] := by
  funext a b
  unfold zrow rf
  by_cases c : a = x
  · rw [if_pos c, if_pos (by omega)]; rfl
  · rw [if_neg c, if_neg (by omega)]
theorem nw_one {q : Nat × Nat} (hx : sh.length = x) : nw (sh, f, g, fR) q = gi sh f g fR x [q] [] [] [] := by
  show (sh ++ [q], zrow f sh.length 0, zrow g sh.length 0, zrow fR sh.length none) = (sh ++ [q], fi f 0 x 1 [], fi g 0 x 1 [], rf fR x 1 [])
  rw [hx, fi_one, fi_one, rf_one]
def shL (L : Nat) : Sh := [(30, L)] ++ NA1
theorem NA1_len : NA1.length = 117 := rfl
theorem shL_len : (shL L).length = 118 := rfl
theorem mSh_len : mSh.length = 38 := rfl
theorem LInv_made (hf : ∀ k, k < L → f 0 k = xs k) : LInv L xs (shL L ++ mSh) (fi (fA f 1) 0 118 38 IM0) (fi (gA g 1) 0 118 38 JM0) (rf (rA fR 1) 118 38 (RM0 118)) Z0 := by
  have hM := M_made (sh := shL L) (f := fA f 1) (g := gA g 1) (fR := rA fR 1) (x := 118) shL_len (by decide)
  refine ⟨?_, hM.2, hM.1, z0_ok, rfl, fun k hk => ?_⟩
  · refine P_made (sh := [(30, L)]) (f := f) (fR := fR) (A := 1) rfl (by decide) (fun i q hi => ?_) ?_ (fun i k hi => ?_) (fun i k hi => ?_)
    · have hlt := (List.getElem?_eq_some_iff.mp hi).1
      rw [NA1_len] at hlt
      rw [List.getElem?_append_left (by rw [shL_len]; omega)]
      unfold shL
      rw [List.getElem?_append_right (by simp), Nat.add_comm]
      exact hi
    · rw [List.length_append, shL_len, mSh_len]; decide
    · unfold fi
      rw [if_neg (by omega)]
    · show (if _ then _ else _) = _
      rw [if_neg (by omega)]
  · unfold fi
    rw [if_neg (by omega)]
    unfold fA fi cutx
    rw [if_neg (by omega), if_neg (by omega)]
    exact hf k hk
set_option maxRecDepth 30000 in
theorem clL7 : Cond.classLink RL 7 RX11 ∈ lw_good := gw 20 rfl rfl
set_option maxRecDepth 30000 in
theorem clL10 : Cond.classLink RL 10 RX12 ∈ lw_good := gw 1169 rfl rfl
theorem L_start (hL : L ≤ 3072) (hf : ∀ k, k < L → f 0 k = xs k) : WP l G (Zl G) mLaw room_1 600000 7302250 0 [some (.ref 0), none, none, none] [] ([(30, L)], f, g, fR) := by
  refine S_wide (kc' := 32 * 512 + 37 + 1 + 116 + 1) (ks' := 8095 * 512 + 182330 + 69 + 32793 + 16) (by omega) (by omega) ?_
  refine S_new (C0 := (RX11, TX11, 16)) (pc := 0) (ci := 11) dL_0 rfl clL7 gi21 (gw 1 rfl rfl) ?_
  rw [nw_one (x := 1) rfl]
  show WP _ _ _ _ _ _ _ 3 _ [.ref 1] (gi [(30, L)] f g fR 1 [(11, 16)] [] [] [])
  refine S_dup (pc := 3) dL_3 rfl ?_
  refine S_callI (S := [.ref 1]) (r := 1) (As := []) (mc := 116) (ms := 32793) (pc := 4) dL_4 miX11_init rfl rfl mvX11_init mlL_9 rfl rfl (d := 100) ⟨Nat.le_of_ble_eq_true rfl, Nat.le_of_ble_eq_true rfl⟩ (I_A (d := 95) rfl (by decide)) ?_
  intro v1 h1 hq
  obtain ⟨rfl, rfl⟩ := hq
  show WP _ _ _ _ _ _ _ 7 _ [.ref 1] (shL L, fA f 1, gA g 1, rA fR 1)
  refine S_astore_n (pc := 7) (i := 1) dL_7 rfl (by decide) rfl ?_
  refine S_new (C0 := (RX12, TX12, 69)) (pc := 8) (ci := 12) dL_8 rfl clL10 gi1170 (gw 17 rfl rfl) ?_
  rw [nw_one (x := 118) shL_len]
  show WP _ _ _ _ _ _ _ 11 [some (.ref 0), some (.ref 1), none, none] [.ref 118] (gi (shL L) (fA f 1) (gA g 1) (rA fR 1) 118 [(12, 69)] [] [] [])
  refine S_dup (pc := 11) dL_11 rfl ?_
  refine S_callI (S := [.ref 118]) (r := 118) (As := []) (mc := 37) (ms := 182330) (pc := 12) dL_12 miX12_init rfl rfl mvX12_init mlL_12 rfl rfl (d := 100) ⟨Nat.le_of_ble_eq_true rfl, Nat.le_of_ble_eq_true rfl⟩ (I_X12 (d := 99) shL_len (by decide)) ?_
  intro v2 h2 hq2
  obtain ⟨rfl, rfl⟩ := hq2
  show WP _ _ _ _ _ _ _ 15 [some (.ref 0), some (.ref 1), none, none] [.ref 118] (shL L ++ mSh, fi (fA f 1) 0 118 38 IM0, fi (gA g 1) 0 118 38 JM0, rf (rA fR 1) 118 38 (RM0 118))
  refine S_astore_n (pc := 15) (i := 2) dL_15 rfl (by decide) rfl ?_
  refine S_iconst (pc := 16) (v := nI 0) dL_16 rfl ?_
  refine S_istore_n (pc := 17) (i := 3) dL_17 rfl (by decide) rfl ?_
  exact L_loop hL 512 0 _ _ _ _ _ (LInv_made hf) (by omega) (by omega)
end LOOP
/-- from the entry, for every script of at most 3072 ints, the law comes to its end with true -/
theorem whole_start {p : Program} {e : Env} {s : State} {m : MethodId} {below : List Frame} {meth : Method} {c : Code} (l : Launch) (hflags : l.flags = flags0) {b L : Nat} {xs : Nat → Int32} (hL : L ≤ 3072) (C0 : lw_At p s m meth c b L xs) : W p l e room_1 s m #[Value.ref b] below meth c s.heap [] 0 0 (lw_Z below #[Value.ref b] s) (entryFrame m ([Value.ref b] : List Value).toArray 4) := by
  obtain ⟨h1, h2, h3, h4, h5, h6, h7, h8, h9, h10, h11⟩ := C0
  obtain ⟨D, hK⟩ := k0_start h6 h10 h8
  have hC : Cx (b, s.heap.size, D) mLaw p s m #[Value.ref b] meth c := ⟨h1, h2, h4, h3, h5, fun w hw => h6 w (good_tbl hw), h9, h11, hK⟩
  have hl := lv_entry [Value.ref b] (n := 4) (by show 1 ≤ 4; decide)
  rw [lg_entry_eq]
  have hLR : LR (b, s.heap.size, D) 4 [some (.ref 0), none, none, none] (lg_sl [Value.ref b] ++ List.replicate (4 - (lg_sl [Value.ref b]).length) Slot.unset).toArray := by
    refine ⟨rfl, hl.1, hl.2.1, fun i v hi => ?_⟩
    match i, hi with
    | 0, hi =>
      cases hi
      exact hl.2.2 (0, .ref b) List.mem_cons_self
    | 1, hi => cases hi
    | 2, hi => cases hi
    | 3, hi => cases hi
    | i + 4, hi => cases hi
  have hHR : HR (b, s.heap.size, D) s ([(30, L)], fun _ k => xs k, fun _ _ => 0, fun _ _ => none) s.heap := by
    refine ⟨rfl, Nat.one_pos, fun r q hq => ?_⟩
    match r, hq with
    | 0, hq =>
      cases hq
      unfold cellOK
      rw [if_neg (show ¬ ((30, L) : Nat × Nat).1 < 13 from Nat.not_lt.mpr (Nat.le_of_ble_eq_true rfl)), if_neg (show ¬ ((30, L) : Nat × Nat).1 < 30 from Nat.lt_irrefl 30)]
      exact h7
    | r + 1, hq => cases hq
  have K := L_start (l := l) (G := (b, s.heap.size, D)) (L := L) (xs := xs) (f := fun _ k => xs k) (g := fun _ _ => 0) (fR := fun _ _ => none) hL (fun _ _ => rfl) p e s m #[Value.ref b] below meth c hC _ s.heap [] 0 0 hLR hHR va_S.rf (Nat.le_of_ble_eq_true rfl) (Nat.le_of_ble_eq_true rfl)
  intro T hT X
  obtain ⟨t, a1, a2⟩ := K T hT X
  exact ⟨t, a1, a2 ⟨rfl, rfl⟩⟩
set_option maxHeartbeats 4000000 in
theorem lw_walk (l : Launch) (hflags : l.flags = flags0) (b : Addr) (xs : List Int32) : MetFree l x (headSpec (Jvm.Cond.code x code maxLocals ret :: tables_1) room_1) (lw_P b xs) (fun _ _ _ _ _ => True) lw_Q := by
  refine MetFree.of_bodyS (code := code) (maxLocals := maxLocals) (ret := ret) (by decide) ?_ ?_
  · intro args s m h hn
    obtain ⟨meth, c, h1, h2, h3, h4, h5, h6, -, -⟩ := Cond.code_spec hn (atoms_spec (ws := Jvm.Cond.code x code maxLocals ret :: tables_1) h _ List.mem_cons_self)
    exact ⟨meth, c, h1, h2, h3, h4, h5, h6⟩
  · intro p e s m args below meth c s₁ B hml0 hP _
    obtain ⟨rfl, hx, hbd, hgv⟩ := hP
    obtain ⟨scr, harrAt, hlist, hof, hsmall⟩ := hx
    obtain ⟨hcb, hkn, -, -⟩ := State.arrayAt?_spec harrAt
    have hown : s.vm.findClass R_law = some m.cls := findClass_of_methodNamed B.named
    have hts0 : ∀ c ∈ (Jvm.Cond.code x code maxLocals ret :: tables_1), c.before #[Value.ref b] s = true := atoms_spec (ws := Jvm.Cond.code x code maxLocals ret :: tables_1) B.pre
    have hts : ∀ w ∈ lw_tbl, w.before #[Value.ref b] s = true := k2_hts_sels lw_privs (fun w hw => hts0 w (List.mem_cons_of_mem _ hw)) lw_privs_ok
    have hml : c.maxLocals = 4 := B.maxLocals_eq (hts0 _ List.mem_cons_self)
    have X₀ : Stand p l e room_1 s m #[Value.ref b] below meth c s₁ [] 0 0 := Stand.of_body B
    have hh0 : s₁.heap = s.heap := by rw [B.state]; rfl
    have hsz : scr.slots.size = xs.length := by rw [← Array.length_toList, hlist, List.length_map]
    have hval : ∀ j : Nat, j < xs.length → scr.slots[j]? = some (.int (xs.getD j 0)) := fun j hj => by
      rw [← Array.getElem?_toList, hlist]
      simp [hj]
    have hbl : b < s.heap.size := (Array.getElem?_eq_some_iff.mp hcb).1
    have hX : va_X b xs.length (fun j => xs.getD j 0) s s.heap := ⟨scr, hcb, hof, hkn, hsz, hval⟩
    have K : W p l e room_1 s m #[Value.ref b] below meth c s₁.heap [] 0 0 (lw_Z below #[Value.ref b] s) (entryFrame m ([Value.ref b] : List Value).toArray 4) := by
      rw [hh0]
      exact whole_start l hflags hbd ⟨B.exec, B.bytes, B.returns, hml, hown, hts, hX, hbl, B.notSynchronized, hgv, (name_of_methodNamed B.named B.method).1⟩
    obtain ⟨t, a1, o, b1, b2, b3⟩ := K s₁ rfl X₀
    exact ⟨t, o, a1, b1, b2, b3⟩
theorem lw_pre_spec {args : Array Value} {s : State} (h : (Jvm.Cond.and given_1 narrow_1).before args s = true) (hr : rest_1_c.before args s = true) : ∃ (b : Addr) (xs : List Int32), lw_P b xs args s := by
  have hs := flat_of_before _ h
  have hq := flat_of_before _ hr
  have hc : (Cond.count 1).before args s = true := hs _ (by decide +kernel)
  have harr : (Cond.arrayOf (.arg 0) .int).before args s = true := hs _ (by decide +kernel)
  have hle : (Cond.le (.length (.arg 0)) (.int 3072)).before args s = true := hs _ (by decide +kernel)
  have hlen : (Cond.isInt (.length (.arg 0))).before args s = true := hq _ (by decide +kernel)
  have hall : (Cond.all (.arg 0) (.isInt (.elem (.arg 0) (.index 0)))).before args s = true := hq _ (by decide +kernel)
  obtain ⟨b, xs, hb, hx⟩ := State.ints_of_pre rfl harr hlen hall
  have hsm : xs.length < 2 ^ 31 := hx.choose_spec.2.2.2
  have hev : (Term.length (.arg 0)).eval args s none [] s = some (.int xs.length.toInt32) := hx.length_eval hb
  have hv := Cond.le_ints hev (show (Term.int 3072).eval args s none [] s = some (.int 3072) from rfl)
  have hd : xs.length.toInt32 ≤ 3072 := by
    simpa [Cond.before, Cond.holds, hv] using hle
  have hN : xs.length ≤ 3072 := (Int32.ofNat_le_ofNat hsm (by decide)).mp (show Int32.ofNat xs.length ≤ Int32.ofNat 3072 from hd)
  exact ⟨b, xs, Cond.one_arg hc (show args[0]? = some (.ref b) from hb), hx, hN, h⟩
theorem lw_comes (l : Launch) (hflags : l.flags = flags0) : Comes l x (Jvm.Cond.code x code maxLocals ret :: tables_1) room_1 (fun tb e args s => Calls_1 tb e args s ∧ rest_1 tb e args s ∧ Pre_1 tb e args s)
    (fun _ _ args s o t => lw_Q args s o t) := by
  intro p e ha hc hk s m args below hf hfit hheap happ hpre
  obtain ⟨b, xs, hP⟩ := lw_pre_spec hpre.2.2 hpre.2.1
  obtain ⟨k, o, h1, h2, h3, hQ⟩ := lw_walk l hflags b xs p e ha hc hk s m args below hf ((Spec.applies_iff_loose hf).mp happ).1 hP trivial
  exact ⟨k, o, h1, h2, h3, hQ⟩
theorem lw_frame {s t : State} {o : Outcome} {args : Array Value} (h : Framed s o t [] 600000 7302250) :
    Framed s o t (fieldLocs frame_1_writes args s ++ arrayLocs frame_1_arrays args s ++ staticLocs frame_1_statics s) 600000 7302250 := h
theorem lw_limb (L : Cond) (hL : ∀ (args : Array Value) (s t : State), L.after args s (.returned (some (.int 1))) t = true) :
    ArmFor flags0 classFile x code maxLocals ret World_1 tables_1 room_1 Calls_1 rest_1 Pre_1
      (fun tb e a s o t => postC L tb e a s o t ∧ Framed s o t (fieldLocs frame_1_writes a s ++ arrayLocs frame_1_arrays a s ++ staticLocs frame_1_statics s) 600000 7302250) := by
  intro l hflags _ _ p e ha hc hk s m args below hf hfit hheap happ hpre
  obtain ⟨k, o, h1, h2, h3, rfl, hF⟩ := lw_comes l hflags p e ha hc hk s m args below hf hfit hheap happ hpre
  exact ⟨k, _, h1, h2, h3, hL args s _, lw_frame hF⟩
theorem i_vc : Claimed_1_1 ∧ Claimed_1_2 := ⟨lw_limb limb_1_1 (fun args s t => by simp [limb_1_1, Cond.after, Cond.holds, Cond.value]), lw_limb limb_1_2 (fun args s t => Cond.after_iff.mpr (by
  first | (rw [show limb_1_2 = Cond.eq .result (.int 1) from rfl, Cond.eq_ints (x := 1) (y := 1) rfl rfl]; simp; done) | (simp [limb_1_2, Cond.value, Term.eval]; done)))⟩
