def lsub : List (Option Value) → List (Option Value) → Prop
  | [], [] => True
  | a :: as, b :: bs => (a = none ∨ a = b) ∧ lsub as bs
  | _, _ => False
theorem lsub_len : ∀ {L' L : List (Option Value)}, lsub L' L → L'.length = L.length
  | [], [], _ => rfl
  | a :: as, b :: bs, h => by rw [List.length_cons, List.length_cons, lsub_len h.2]
  | [], b :: bs, h => h.elim
  | a :: as, [], h => h.elim
theorem lsub_at : ∀ {L' L : List (Option Value)}, lsub L' L → ∀ (i : Nat) (v : Value), L'[i]? = some (some v) → L[i]? = some (some v)
  | [], [], _, i, v, h => by simp at h
  | a :: as, b :: bs, h, 0, v, e => by
    cases e
    rcases h.1 with z | z
    · cases z
    · rw [← z]; rfl
  | a :: as, b :: bs, h, i + 1, v, e => lsub_at h.2 i v e
  | [], b :: bs, h, _, _, _ => h.elim
  | a :: as, [], h, _, _, _ => h.elim
theorem ls_0 : lsub [] [] := trivial
theorem ls_e {a : Option Value} {as bs : List (Option Value)} (h : lsub as bs) : lsub (a :: as) (a :: bs) := ⟨Or.inr rfl, h⟩
theorem ls_n {b : Option Value} {as bs : List (Option Value)} (h : lsub as bs) : lsub (none :: as) (b :: bs) := ⟨Or.inl rfl, h⟩
section SX
variable {l : Launch} {G : Gx} {Z : Zt} {md : Md} {R : Room} {kc ks pc : Nat} {L : List (Option Value)} {S : List Value} {h : Hp}
theorem S_weak {L' : List (Option Value)} (hw : lsub L' L) (k : WP l G Z md R kc ks pc L' S h) : WP l G Z md R kc ks pc L S h := by
  intro p e s m args below meth c C ls H locs cells slots hl hh hs hc hk
  exact k p e s m args below meth c C ls H locs cells slots ⟨(lsub_len hw).trans hl.1, hl.2.1, hl.2.2.1, fun i v hi => hl.2.2.2 i v (lsub_at hw i v hi)⟩ hh hs hc hk
theorem lcmp0 (x y : Int64) : (lg_cmp x y = 0 ↔ x = y) ∧ (lg_cmp x y < 0 ↔ x < y) ∧ (0 ≤ lg_cmp x y ↔ y ≤ x) ∧ (0 < lg_cmp x y ↔ y < x) ∧ (lg_cmp x y ≤ 0 ↔ x ≤ y) := ⟨lg_cmp_eq x y, lg_cmp_lt x y, lg_cmp_ge x y, lg_cmp_gt x y, lg_cmp_le x y⟩
theorem S_lcmp_eq {x y : Int64} {off : Int} {tgt : Nat} (hd : decode md.2.1 pc = .ok (.lcmp, 1)) (hd2 : decode md.2.1 (pc + 1) = .ok (.ifCond .eq off, 3)) (ht : ((pc + 1 : Nat) : Int) + off = (tgt : Int)) (kt : x = y → WP l G Z md R kc ks tgt L S h) (kf : ¬ x = y → WP l G Z md R kc ks (pc + 1 + 3) L S h) : WP l G Z md R kc ks pc L (.long y :: .long x :: S) h :=
  S_lcmp hd (S_if_eq (pc := pc + 1) hd2 ht (fun q => kt ((lcmp0 x y).1.mp q)) (fun q => kf (fun z => q ((lcmp0 x y).1.mpr z))))
theorem S_lcmp_ne {x y : Int64} {off : Int} {tgt : Nat} (hd : decode md.2.1 pc = .ok (.lcmp, 1)) (hd2 : decode md.2.1 (pc + 1) = .ok (.ifCond .ne off, 3)) (ht : ((pc + 1 : Nat) : Int) + off = (tgt : Int)) (kt : ¬ x = y → WP l G Z md R kc ks tgt L S h) (kf : x = y → WP l G Z md R kc ks (pc + 1 + 3) L S h) : WP l G Z md R kc ks pc L (.long y :: .long x :: S) h :=
  S_lcmp hd (S_if_ne (pc := pc + 1) hd2 ht (fun q => kt (fun z => q ((lcmp0 x y).1.mpr z))) (fun q => kf ((lcmp0 x y).1.mp q)))
theorem S_lcmp_lt {x y : Int64} {off : Int} {tgt : Nat} (hd : decode md.2.1 pc = .ok (.lcmp, 1)) (hd2 : decode md.2.1 (pc + 1) = .ok (.ifCond .lt off, 3)) (ht : ((pc + 1 : Nat) : Int) + off = (tgt : Int)) (kt : x < y → WP l G Z md R kc ks tgt L S h) (kf : ¬ x < y → WP l G Z md R kc ks (pc + 1 + 3) L S h) : WP l G Z md R kc ks pc L (.long y :: .long x :: S) h :=
  S_lcmp hd (S_if_lt (pc := pc + 1) hd2 ht (fun q => kt ((lcmp0 x y).2.1.mp q)) (fun q => kf (fun z => q ((lcmp0 x y).2.1.mpr z))))
theorem S_lcmp_ge {x y : Int64} {off : Int} {tgt : Nat} (hd : decode md.2.1 pc = .ok (.lcmp, 1)) (hd2 : decode md.2.1 (pc + 1) = .ok (.ifCond .ge off, 3)) (ht : ((pc + 1 : Nat) : Int) + off = (tgt : Int)) (kt : y ≤ x → WP l G Z md R kc ks tgt L S h) (kf : ¬ y ≤ x → WP l G Z md R kc ks (pc + 1 + 3) L S h) : WP l G Z md R kc ks pc L (.long y :: .long x :: S) h :=
  S_lcmp hd (S_if_ge (pc := pc + 1) hd2 ht (fun q => kt ((lcmp0 x y).2.2.1.mp q)) (fun q => kf (fun z => q ((lcmp0 x y).2.2.1.mpr z))))
theorem S_lcmp_gt {x y : Int64} {off : Int} {tgt : Nat} (hd : decode md.2.1 pc = .ok (.lcmp, 1)) (hd2 : decode md.2.1 (pc + 1) = .ok (.ifCond .gt off, 3)) (ht : ((pc + 1 : Nat) : Int) + off = (tgt : Int)) (kt : y < x → WP l G Z md R kc ks tgt L S h) (kf : ¬ y < x → WP l G Z md R kc ks (pc + 1 + 3) L S h) : WP l G Z md R kc ks pc L (.long y :: .long x :: S) h :=
  S_lcmp hd (S_if_gt (pc := pc + 1) hd2 ht (fun q => kt ((lcmp0 x y).2.2.2.1.mp q)) (fun q => kf (fun z => q ((lcmp0 x y).2.2.2.1.mpr z))))
theorem S_lcmp_le {x y : Int64} {off : Int} {tgt : Nat} (hd : decode md.2.1 pc = .ok (.lcmp, 1)) (hd2 : decode md.2.1 (pc + 1) = .ok (.ifCond .le off, 3)) (ht : ((pc + 1 : Nat) : Int) + off = (tgt : Int)) (kt : x ≤ y → WP l G Z md R kc ks tgt L S h) (kf : ¬ x ≤ y → WP l G Z md R kc ks (pc + 1 + 3) L S h) : WP l G Z md R kc ks pc L (.long y :: .long x :: S) h :=
  S_lcmp hd (S_if_le (pc := pc + 1) hd2 ht (fun q => kt ((lcmp0 x y).2.2.2.2.mp q)) (fun q => kf (fun z => q ((lcmp0 x y).2.2.2.2.mpr z))))
def MJ (md : Md) (n : Nat) : Prop := Cond.code md.1 md.2.1 md.2.2.1 md.2.2.2 ∈ lw_good ∧ Cond.initialized md.1.cls ∈ lw_good ∧ md.1.cls ≠ "java/lang/invoke/MethodHandle" ∧ md.1.cls ≠ "java/lang/invoke/VarHandle" ∧ (parseMethodDescriptor md.1.desc).map (fun d => d.parameters.length) = some n
theorem Cl.ofF {d mc ms : Nat} {as : List Value} {Q : Option Value → Hp → Prop} {L0 : List (Option Value)} (hy : plainFor md.1 = true) (hlen : Nat.ble (la as).length md.2.2.1 = true) (hL : la as ++ List.replicate (md.2.2.1 - (la as).length) none = L0) (k : WP l G (Zq G mc ms Q) md (rmd d mc ms) mc ms 0 L0 [] h) : Cl l G d mc ms md as h Q := by
  have hlen := Nat.le_of_ble_eq_true hlen
  refine va_MetF (cc := md.2.1) (maxL := md.2.2.1) (ret := md.2.2.2) hy rfl ?_
  intro p e s m args below meth c s₁ B hml hv
  obtain ⟨rfl, hR, hK⟩ := hv
  have hts := atoms_spec (ws := wsm md) B.pre
  have hown : s.vm.findClass md.1.cls = some m.cls := findClass_of_methodNamed B.named
  have hC : Cx G md p s m (as.map (cv G)).toArray meth c := ⟨B.exec, B.bytes, hml, B.returns, hown, fun w hw => hts w (List.mem_cons_of_mem _ hw), B.notSynchronized, (name_of_methodNamed B.named B.method).1, hK⟩
  have hl := lv_entry (as.map (cv G)) (n := md.2.2.1) (by rw [la_len]; exact hlen)
  rw [lg_entry_eq]
  have hLR : LR G md.2.2.1 L0 (lg_sl (as.map (cv G)) ++ List.replicate (md.2.2.1 - (lg_sl (as.map (cv G))).length) Slot.unset).toArray := by
    refine ⟨?_, hl.1, hl.2.1, fun i v hi => ?_⟩
    · rw [← hL, List.length_append, List.length_replicate]
      omega
    · have h1 : (la as)[i]? = some (some v) := by
        rw [← hL] at hi
        by_cases hlt : i < (la as).length
        · rwa [List.getElem?_append_left hlt] at hi
        · rw [List.getElem?_append_right (by omega), List.getElem?_replicate] at hi
          split at hi <;> cases hi
      have h2 := la_mem (G := G) as 0 i v h1
      rw [Nat.zero_add] at h2
      exact hl.2.2 _ h2
  exact k p e s m _ below meth c hC _ s.heap [] 0 0 hLR hR va_S.rf (by show 0 + mc ≤ mc; omega) (by show 0 + ms ≤ ms; omega)
theorem S_callSJ {md' : Md} {d mc ms n idx : Nat} {As : List Value} {Q : Option Value → Hp → Prop} (hd : decode md.2.1 pc = .ok (.invokestatic idx, 3)) (hM : MJ md' n) (hV : Cond.static md'.1 ∈ lw_good) (hl : Cond.methodLink md.1.cls idx md'.1 ∈ lw_good) (hn : As.length = n) (hW : Nat.ble ((S.map fun v => v.category).sum) 8 = true) (hR : RmOK R d md')
    (hC : Cl l G d mc ms md' As h Q) (kk : ∀ (v : Option Value) (h' : Hp), Q v h' → WP l G Z md R kc ks (pc + 3) L (v.toList ++ S) h') : WP l G Z md R (kc + mc) (ks + ms) pc L (As.reverse ++ S) h := by
  intro p e s m args below meth c C ls H locs cells slots hL hh hS hc hk
  have hts := C.2.2.2.2.2.1
  have hG0 : GoodIn lw_good (wsm md') := good_good (fun w hw => by
    unfold wsm at hw
    rcases List.mem_cons.mp hw with rfl | hw
    · exact hM.1
    · exact hw)
  have cw := callB_of (R := R) (rm := rmd d mc ms) (own := md.1.cls) (index := idx) n hts hG0 rfl rfl rfl (hts _ hM.2.1) (hts _ hl) hM.2.2 hR
  have hrun := va_runS (p := p) (e := e) (m := m) (below := below) (meth := meth) (c := c) (cc := md.2.1) (nL := md.2.2.1) (H := H) (locs := locs) (cells := cells) (slots := slots) (As := As.map (cv G)) (rest := S.map (cv G)) (g := F0 m pc ls ((As.reverse ++ S).map (cv G))) ⟨C.1, C.2.1, C.2.2.1, C.2.2.2.2.1, hts⟩ hC ⟨cw, hts _ hV⟩
    ⟨PcOf.blind, fun U hU hWm => ⟨rfl, by rw [hU]; exact hh.moved hWm.alike, C.2.2.2.2.2.2.2.2.warm hWm (by rw [hU]; exact hS)⟩⟩ rfl (by rw [List.length_map]; exact hn) hL.2.1 (by rw [List.map_append, List.map_reverse]) (hW_of hW) hd ⟨by omega, by omega⟩
  refine callQ hrun hS (fun v h' H1 locs1 hQ hh1 hS1 => ?_)
  have K := kk v h' hQ p e s m args below meth c C ls H1 locs1 (cells + mc) (slots + ms) hL hh1 hS1 (by omega) (by omega)
  rw [List.map_append, ← toList_cv] at K
  exact K
theorem up2_r {α : Type} {f : Nat → Nat → α} {r k r' k' : Nat} {v : α} (h : r' ≠ r) : up2 f r k v r' k' = f r' k' := if_neg (fun z => h z.1)
theorem up2_k {α : Type} {f : Nat → Nat → α} {r k r' k' : Nat} {v : α} (h : k' ≠ k) : up2 f r k v r' k' = f r' k' := if_neg (fun z => h z.2)
theorem S_eqi {e x : Int32} (he : e = x) (k : WP l G Z md R kc ks pc L (.int x :: S) h) : WP l G Z md R kc ks pc L (.int e :: S) h := he ▸ k
theorem S_eql {e x : Int64} (he : e = x) (k : WP l G Z md R kc ks pc L (.long x :: S) h) : WP l G Z md R kc ks pc L (.long e :: S) h := he ▸ k
theorem S_namei {e : Int32} (k : ∀ x : Int32, x = e → WP l G Z md R kc ks pc L (.int x :: S) h) : WP l G Z md R kc ks pc L (.int e :: S) h := k e rfl
theorem S_namel {e : Int64} (k : ∀ x : Int64, x = e → WP l G Z md R kc ks pc L (.long x :: S) h) : WP l G Z md R kc ks pc L (.long e :: S) h := k e rfl
end SX
theorem tsw_out {x : Int32} {lo hi : Nat} (h : ∀ j : Nat, lo ≤ j → j ≤ hi → ¬ x = nI j) : x.toInt < (lo : Int) ∨ (hi : Int) < x.toInt := by
  by_cases q : x.toInt < (lo : Int)
  · exact Or.inl q
  · by_cases q2 : (hi : Int) < x.toInt
    · exact Or.inr q2
    · exfalso
      obtain ⟨j, hj, e⟩ := nI_of (x := x) (by
        intro z
        have := Int32.lt_iff_toInt_lt.mp z
        simp at this
        omega)
      have e2 : x.toInt = (j : Int) := by rw [e]; exact nI_toInt hj
      exact h j (by omega) (by omega) e
abbrev FI : Type := Nat → Nat → Int32
abbrev FL : Type := Nat → Nat → Int64
abbrev FRt : Type := Nat → Nat → Option Nat
abbrev Sh : Type := List (Nat × Nat)
def qi (sh : Sh) (fR : FRt) (K : Int32 → FI → FL → Prop) : Option Value → Hp → Prop := fun r h => ∃ (x : Int32) (f : FI) (g : FL), r = some (.int x) ∧ h = (sh, f, g, fR) ∧ K x f g
def ql (sh : Sh) (fR : FRt) (K : Int64 → FI → FL → Prop) : Option Value → Hp → Prop := fun r h => ∃ (x : Int64) (f : FI) (g : FL), r = some (.long x) ∧ h = (sh, f, g, fR) ∧ K x f g
def qv (sh : Sh) (fR : FRt) (K : FI → FL → Prop) : Option Value → Hp → Prop := fun r h => ∃ (f : FI) (g : FL), r = none ∧ h = (sh, f, g, fR) ∧ K f g
theorem nb0 : narrow .boolean (.int (nI 0)) = .int (nI 0) := rfl
theorem nb1 : narrow .boolean (.int (nI 1)) = .int (nI 1) := rfl
theorem nb_of {x : Int32} (h : x = 0 ∨ x = 1) : narrow .boolean (.int x) = .int x := by rcases h with rfl | rfl <;> rfl
theorem fb_of {x : Int32} (h : x = 0 ∨ x = 1) : fits .boolean (.int x) = true := by rcases h with rfl | rfl <;> rfl
set_option maxRecDepth 20000 in
theorem miO : Cond.instanceMethod objectInit ∈ lw_good := gw 26 rfl rfl
set_option maxRecDepth 20000 in
theorem mcO : Cond.code objectInit ⟨#[0xb1]⟩ 1 none ∈ lw_good := gw 27 rfl rfl
theorem icm8 : Int32.ofInt (-8) = (-8) := by decide
theorem icm7 : Int32.ofInt (-7) = (-7) := by decide
theorem icm6 : Int32.ofInt (-6) = (-6) := by decide
theorem icm5 : Int32.ofInt (-5) = (-5) := by decide
theorem icm4 : Int32.ofInt (-4) = (-4) := by decide
theorem icm3 : Int32.ofInt (-3) = (-3) := by decide
theorem icm2 : Int32.ofInt (-2) = (-2) := by decide
theorem icm1 : Int32.ofInt (-1) = (-1) := by decide
theorem ic0 : Int32.ofInt 0 = nI 0 := by decide
theorem ic1 : Int32.ofInt 1 = nI 1 := by decide
theorem ic2 : Int32.ofInt 2 = nI 2 := by decide
theorem ic3 : Int32.ofInt 3 = nI 3 := by decide
theorem ic4 : Int32.ofInt 4 = nI 4 := by decide
theorem ic5 : Int32.ofInt 5 = nI 5 := by decide
theorem ic6 : Int32.ofInt 6 = nI 6 := by decide
theorem ic7 : Int32.ofInt 7 = nI 7 := by decide
theorem ic8 : Int32.ofInt 8 = nI 8 := by decide
theorem ic9 : Int32.ofInt 9 = nI 9 := by decide
theorem ic10 : Int32.ofInt 10 = nI 10 := by decide
theorem ic11 : Int32.ofInt 11 = nI 11 := by decide
theorem ic12 : Int32.ofInt 12 = nI 12 := by decide
theorem ic13 : Int32.ofInt 13 = nI 13 := by decide
theorem ic14 : Int32.ofInt 14 = nI 14 := by decide
theorem ic15 : Int32.ofInt 15 = nI 15 := by decide
theorem ic16 : Int32.ofInt 16 = nI 16 := by decide
theorem ic17 : Int32.ofInt 17 = nI 17 := by decide
theorem ic18 : Int32.ofInt 18 = nI 18 := by decide
theorem ic19 : Int32.ofInt 19 = nI 19 := by decide
theorem ic20 : Int32.ofInt 20 = nI 20 := by decide
theorem ic21 : Int32.ofInt 21 = nI 21 := by decide
theorem ic22 : Int32.ofInt 22 = nI 22 := by decide
theorem ic23 : Int32.ofInt 23 = nI 23 := by decide
theorem ic24 : Int32.ofInt 24 = nI 24 := by decide
theorem ic25 : Int32.ofInt 25 = nI 25 := by decide
theorem ic26 : Int32.ofInt 26 = nI 26 := by decide
theorem ic27 : Int32.ofInt 27 = nI 27 := by decide
theorem ic28 : Int32.ofInt 28 = nI 28 := by decide
theorem ic29 : Int32.ofInt 29 = nI 29 := by decide
theorem ic30 : Int32.ofInt 30 = nI 30 := by decide
theorem ic31 : Int32.ofInt 31 = nI 31 := by decide
theorem ic32 : Int32.ofInt 32 = nI 32 := by decide
theorem ic33 : Int32.ofInt 33 = nI 33 := by decide
theorem ic34 : Int32.ofInt 34 = nI 34 := by decide
theorem ic35 : Int32.ofInt 35 = nI 35 := by decide
theorem ic36 : Int32.ofInt 36 = nI 36 := by decide
theorem ic37 : Int32.ofInt 37 = nI 37 := by decide
theorem ic38 : Int32.ofInt 38 = nI 38 := by decide
theorem ic39 : Int32.ofInt 39 = nI 39 := by decide
theorem ic40 : Int32.ofInt 40 = nI 40 := by decide
theorem ic41 : Int32.ofInt 41 = nI 41 := by decide
theorem ic42 : Int32.ofInt 42 = nI 42 := by decide
theorem ic43 : Int32.ofInt 43 = nI 43 := by decide
theorem ic44 : Int32.ofInt 44 = nI 44 := by decide
theorem ic45 : Int32.ofInt 45 = nI 45 := by decide
theorem ic46 : Int32.ofInt 46 = nI 46 := by decide
theorem ic47 : Int32.ofInt 47 = nI 47 := by decide
theorem ic48 : Int32.ofInt 48 = nI 48 := by decide
theorem ic49 : Int32.ofInt 49 = nI 49 := by decide
theorem ic50 : Int32.ofInt 50 = nI 50 := by decide
theorem ic51 : Int32.ofInt 51 = nI 51 := by decide
theorem ic52 : Int32.ofInt 52 = nI 52 := by decide
theorem ic53 : Int32.ofInt 53 = nI 53 := by decide
theorem ic54 : Int32.ofInt 54 = nI 54 := by decide
theorem ic55 : Int32.ofInt 55 = nI 55 := by decide
theorem ic56 : Int32.ofInt 56 = nI 56 := by decide
theorem ic57 : Int32.ofInt 57 = nI 57 := by decide
theorem ic58 : Int32.ofInt 58 = nI 58 := by decide
theorem ic59 : Int32.ofInt 59 = nI 59 := by decide
theorem ic60 : Int32.ofInt 60 = nI 60 := by decide
theorem ic61 : Int32.ofInt 61 = nI 61 := by decide
theorem ic62 : Int32.ofInt 62 = nI 62 := by decide
theorem ic63 : Int32.ofInt 63 = nI 63 := by decide
theorem ic64 : Int32.ofInt 64 = nI 64 := by decide
theorem ic65 : Int32.ofInt 65 = nI 65 := by decide
theorem ic66 : Int32.ofInt 66 = nI 66 := by decide
theorem ic67 : Int32.ofInt 67 = nI 67 := by decide
theorem ic68 : Int32.ofInt 68 = nI 68 := by decide
theorem ic69 : Int32.ofInt 69 = nI 69 := by decide
theorem ic70 : Int32.ofInt 70 = nI 70 := by decide
theorem ic71 : Int32.ofInt 71 = nI 71 := by decide
theorem ic72 : Int32.ofInt 72 = nI 72 := by decide
theorem ic73 : Int32.ofInt 73 = nI 73 := by decide
theorem ic74 : Int32.ofInt 74 = nI 74 := by decide
theorem ic75 : Int32.ofInt 75 = nI 75 := by decide
theorem ic76 : Int32.ofInt 76 = nI 76 := by decide
theorem ic77 : Int32.ofInt 77 = nI 77 := by decide
theorem ic78 : Int32.ofInt 78 = nI 78 := by decide
theorem ic79 : Int32.ofInt 79 = nI 79 := by decide
theorem bp6 : (Int8.ofInt 6).toInt32 = nI 6 := by decide
theorem bp7 : (Int8.ofInt 7).toInt32 = nI 7 := by decide
theorem bp8 : (Int8.ofInt 8).toInt32 = nI 8 := by decide
theorem bp9 : (Int8.ofInt 9).toInt32 = nI 9 := by decide
theorem bp10 : (Int8.ofInt 10).toInt32 = nI 10 := by decide
theorem bp11 : (Int8.ofInt 11).toInt32 = nI 11 := by decide
theorem bp12 : (Int8.ofInt 12).toInt32 = nI 12 := by decide
theorem bp13 : (Int8.ofInt 13).toInt32 = nI 13 := by decide
theorem bp14 : (Int8.ofInt 14).toInt32 = nI 14 := by decide
theorem bp15 : (Int8.ofInt 15).toInt32 = nI 15 := by decide
theorem bp16 : (Int8.ofInt 16).toInt32 = nI 16 := by decide
theorem bp17 : (Int8.ofInt 17).toInt32 = nI 17 := by decide
theorem bp20 : (Int8.ofInt 20).toInt32 = nI 20 := by decide
theorem bp22 : (Int8.ofInt 22).toInt32 = nI 22 := by decide
theorem bp23 : (Int8.ofInt 23).toInt32 = nI 23 := by decide
theorem bp24 : (Int8.ofInt 24).toInt32 = nI 24 := by decide
theorem bp25 : (Int8.ofInt 25).toInt32 = nI 25 := by decide
theorem bp26 : (Int8.ofInt 26).toInt32 = nI 26 := by decide
theorem bp27 : (Int8.ofInt 27).toInt32 = nI 27 := by decide
theorem bp28 : (Int8.ofInt 28).toInt32 = nI 28 := by decide
theorem bp29 : (Int8.ofInt 29).toInt32 = nI 29 := by decide
theorem bp30 : (Int8.ofInt 30).toInt32 = nI 30 := by decide
theorem bp31 : (Int8.ofInt 31).toInt32 = nI 31 := by decide
theorem bp32 : (Int8.ofInt 32).toInt32 = nI 32 := by decide
theorem bp33 : (Int8.ofInt 33).toInt32 = nI 33 := by decide
theorem bp34 : (Int8.ofInt 34).toInt32 = nI 34 := by decide
theorem bp35 : (Int8.ofInt 35).toInt32 = nI 35 := by decide
theorem bp36 : (Int8.ofInt 36).toInt32 = nI 36 := by decide
theorem bp37 : (Int8.ofInt 37).toInt32 = nI 37 := by decide
theorem bp38 : (Int8.ofInt 38).toInt32 = nI 38 := by decide
theorem bp39 : (Int8.ofInt 39).toInt32 = nI 39 := by decide
theorem bp40 : (Int8.ofInt 40).toInt32 = nI 40 := by decide
theorem bp41 : (Int8.ofInt 41).toInt32 = nI 41 := by decide
theorem bp42 : (Int8.ofInt 42).toInt32 = nI 42 := by decide
theorem bp43 : (Int8.ofInt 43).toInt32 = nI 43 := by decide
theorem bp44 : (Int8.ofInt 44).toInt32 = nI 44 := by decide
theorem bp45 : (Int8.ofInt 45).toInt32 = nI 45 := by decide
theorem bp47 : (Int8.ofInt 47).toInt32 = nI 47 := by decide
theorem bp48 : (Int8.ofInt 48).toInt32 = nI 48 := by decide
theorem bp57 : (Int8.ofInt 57).toInt32 = nI 57 := by decide
theorem bp59 : (Int8.ofInt 59).toInt32 = nI 59 := by decide
theorem bp60 : (Int8.ofInt 60).toInt32 = nI 60 := by decide
theorem bp61 : (Int8.ofInt 61).toInt32 = nI 61 := by decide
theorem bp62 : (Int8.ofInt 62).toInt32 = nI 62 := by decide
theorem bp64 : (Int8.ofInt 64).toInt32 = nI 64 := by decide
theorem bp91 : (Int8.ofInt 91).toInt32 = nI 91 := by decide
theorem bp93 : (Int8.ofInt 93).toInt32 = nI 93 := by decide
theorem bp96 : (Int8.ofInt 96).toInt32 = nI 96 := by decide
theorem bp97 : (Int8.ofInt 97).toInt32 = nI 97 := by decide
theorem bp99 : (Int8.ofInt 99).toInt32 = nI 99 := by decide
theorem bp100 : (Int8.ofInt 100).toInt32 = nI 100 := by decide
theorem bp120 : (Int8.ofInt 120).toInt32 = nI 120 := by decide
theorem bp122 : (Int8.ofInt 122).toInt32 = nI 122 := by decide
theorem sp200 : (Int16.ofInt 200).toInt32 = nI 200 := by decide
theorem sp230 : (Int16.ofInt 230).toInt32 = nI 230 := by decide
theorem sp251 : (Int16.ofInt 251).toInt32 = nI 251 := by decide
theorem sp255 : (Int16.ofInt 255).toInt32 = nI 255 := by decide
theorem sp354 : (Int16.ofInt 354).toInt32 = nI 354 := by decide
theorem sp480 : (Int16.ofInt 480).toInt32 = nI 480 := by decide
theorem sp500 : (Int16.ofInt 500).toInt32 = nI 500 := by decide
theorem sp512 : (Int16.ofInt 512).toInt32 = nI 512 := by decide
theorem sp520 : (Int16.ofInt 520).toInt32 = nI 520 := by decide
theorem sp880 : (Int16.ofInt 880).toInt32 = nI 880 := by decide
theorem sp960 : (Int16.ofInt 960).toInt32 = nI 960 := by decide
theorem sp999 : (Int16.ofInt 999).toInt32 = nI 999 := by decide
theorem sp1000 : (Int16.ofInt 1000).toInt32 = nI 1000 := by decide
theorem sp1220 : (Int16.ofInt 1220).toInt32 = nI 1220 := by decide
theorem sp1538 : (Int16.ofInt 1538).toInt32 = nI 1538 := by decide
theorem sp1600 : (Int16.ofInt 1600).toInt32 = nI 1600 := by decide
theorem sp1800 : (Int16.ofInt 1800).toInt32 = nI 1800 := by decide
theorem sp2000 : (Int16.ofInt 2000).toInt32 = nI 2000 := by decide
theorem sp2600 : (Int16.ofInt 2600).toInt32 = nI 2600 := by decide
theorem sp2640 : (Int16.ofInt 2640).toInt32 = nI 2640 := by decide
theorem sp3200 : (Int16.ofInt 3200).toInt32 = nI 3200 := by decide
theorem sp3840 : (Int16.ofInt 3840).toInt32 = nI 3840 := by decide
theorem sp4400 : (Int16.ofInt 4400).toInt32 = nI 4400 := by decide
theorem sp9999 : (Int16.ofInt 9999).toInt32 = nI 9999 := by decide
theorem sp21120 : (Int16.ofInt 21120).toInt32 = nI 21120 := by decide
theorem lc0 : Int64.ofNat ((0 : Fin 2) : Nat) = lN 0 := rfl
theorem lc1 : Int64.ofNat ((1 : Fin 2) : Nat) = lN 1 := rfl
theorem ff_0_0 {md : Md} (h1 : md.1.name = "<init>") (h2 : RX0 = md.1.cls) : ∀ C : vw_C, cls0[0]? = some C → (C.2.1 0).2.2.2 = false ∨ (md.1.name = "<init>" ∧ (C.2.1 0).1 = md.1.cls) := fun C e => Or.inr ⟨h1, by cases e; exact h2⟩
theorem ff_0_1 {md : Md} (h1 : md.1.name = "<init>") (h2 : RX0 = md.1.cls) : ∀ C : vw_C, cls0[0]? = some C → (C.2.1 1).2.2.2 = false ∨ (md.1.name = "<init>" ∧ (C.2.1 1).1 = md.1.cls) := fun C e => Or.inr ⟨h1, by cases e; exact h2⟩
theorem ff_0_2 {md : Md} (h1 : md.1.name = "<init>") (h2 : RX0 = md.1.cls) : ∀ C : vw_C, cls0[0]? = some C → (C.2.1 2).2.2.2 = false ∨ (md.1.name = "<init>" ∧ (C.2.1 2).1 = md.1.cls) := fun C e => Or.inr ⟨h1, by cases e; exact h2⟩
theorem ff_0_3 {md : Md} (h1 : md.1.name = "<init>") (h2 : RX0 = md.1.cls) : ∀ C : vw_C, cls0[0]? = some C → (C.2.1 3).2.2.2 = false ∨ (md.1.name = "<init>" ∧ (C.2.1 3).1 = md.1.cls) := fun C e => Or.inr ⟨h1, by cases e; exact h2⟩
theorem ff_0_4 {md : Md} (h1 : md.1.name = "<init>") (h2 : RX0 = md.1.cls) : ∀ C : vw_C, cls0[0]? = some C → (C.2.1 4).2.2.2 = false ∨ (md.1.name = "<init>" ∧ (C.2.1 4).1 = md.1.cls) := fun C e => Or.inr ⟨h1, by cases e; exact h2⟩
theorem nf_0_5 {md : Md} : ∀ C : vw_C, cls0[0]? = some C → (C.2.1 5).2.2.2 = false ∨ (md.1.name = "<init>" ∧ (C.2.1 5).1 = md.1.cls) := fun C e => Or.inl (by cases e; rfl)
theorem nf_1_0 {md : Md} : ∀ C : vw_C, cls0[1]? = some C → (C.2.1 0).2.2.2 = false ∨ (md.1.name = "<init>" ∧ (C.2.1 0).1 = md.1.cls) := fun C e => Or.inl (by cases e; rfl)
theorem ff_2_0 {md : Md} (h1 : md.1.name = "<init>") (h2 : RX2 = md.1.cls) : ∀ C : vw_C, cls0[2]? = some C → (C.2.1 0).2.2.2 = false ∨ (md.1.name = "<init>" ∧ (C.2.1 0).1 = md.1.cls) := fun C e => Or.inr ⟨h1, by cases e; exact h2⟩
theorem ff_2_1 {md : Md} (h1 : md.1.name = "<init>") (h2 : RX2 = md.1.cls) : ∀ C : vw_C, cls0[2]? = some C → (C.2.1 1).2.2.2 = false ∨ (md.1.name = "<init>" ∧ (C.2.1 1).1 = md.1.cls) := fun C e => Or.inr ⟨h1, by cases e; exact h2⟩
theorem ff_2_2 {md : Md} (h1 : md.1.name = "<init>") (h2 : RX2 = md.1.cls) : ∀ C : vw_C, cls0[2]? = some C → (C.2.1 2).2.2.2 = false ∨ (md.1.name = "<init>" ∧ (C.2.1 2).1 = md.1.cls) := fun C e => Or.inr ⟨h1, by cases e; exact h2⟩
theorem ff_2_3 {md : Md} (h1 : md.1.name = "<init>") (h2 : RX2 = md.1.cls) : ∀ C : vw_C, cls0[2]? = some C → (C.2.1 3).2.2.2 = false ∨ (md.1.name = "<init>" ∧ (C.2.1 3).1 = md.1.cls) := fun C e => Or.inr ⟨h1, by cases e; exact h2⟩
theorem ff_2_4 {md : Md} (h1 : md.1.name = "<init>") (h2 : RX2 = md.1.cls) : ∀ C : vw_C, cls0[2]? = some C → (C.2.1 4).2.2.2 = false ∨ (md.1.name = "<init>" ∧ (C.2.1 4).1 = md.1.cls) := fun C e => Or.inr ⟨h1, by cases e; exact h2⟩
theorem ff_2_5 {md : Md} (h1 : md.1.name = "<init>") (h2 : RX2 = md.1.cls) : ∀ C : vw_C, cls0[2]? = some C → (C.2.1 5).2.2.2 = false ∨ (md.1.name = "<init>" ∧ (C.2.1 5).1 = md.1.cls) := fun C e => Or.inr ⟨h1, by cases e; exact h2⟩
theorem ff_2_6 {md : Md} (h1 : md.1.name = "<init>") (h2 : RX2 = md.1.cls) : ∀ C : vw_C, cls0[2]? = some C → (C.2.1 6).2.2.2 = false ∨ (md.1.name = "<init>" ∧ (C.2.1 6).1 = md.1.cls) := fun C e => Or.inr ⟨h1, by cases e; exact h2⟩
theorem ff_2_7 {md : Md} (h1 : md.1.name = "<init>") (h2 : RX2 = md.1.cls) : ∀ C : vw_C, cls0[2]? = some C → (C.2.1 7).2.2.2 = false ∨ (md.1.name = "<init>" ∧ (C.2.1 7).1 = md.1.cls) := fun C e => Or.inr ⟨h1, by cases e; exact h2⟩
theorem nf_2_8 {md : Md} : ∀ C : vw_C, cls0[2]? = some C → (C.2.1 8).2.2.2 = false ∨ (md.1.name = "<init>" ∧ (C.2.1 8).1 = md.1.cls) := fun C e => Or.inl (by cases e; rfl)
theorem ff_3_0 {md : Md} (h1 : md.1.name = "<init>") (h2 : RX3 = md.1.cls) : ∀ C : vw_C, cls0[3]? = some C → (C.2.1 0).2.2.2 = false ∨ (md.1.name = "<init>" ∧ (C.2.1 0).1 = md.1.cls) := fun C e => Or.inr ⟨h1, by cases e; exact h2⟩
theorem ff_3_1 {md : Md} (h1 : md.1.name = "<init>") (h2 : RX3 = md.1.cls) : ∀ C : vw_C, cls0[3]? = some C → (C.2.1 1).2.2.2 = false ∨ (md.1.name = "<init>" ∧ (C.2.1 1).1 = md.1.cls) := fun C e => Or.inr ⟨h1, by cases e; exact h2⟩
theorem nf_3_2 {md : Md} : ∀ C : vw_C, cls0[3]? = some C → (C.2.1 2).2.2.2 = false ∨ (md.1.name = "<init>" ∧ (C.2.1 2).1 = md.1.cls) := fun C e => Or.inl (by cases e; rfl)
theorem ff_4_0 {md : Md} (h1 : md.1.name = "<init>") (h2 : RX4 = md.1.cls) : ∀ C : vw_C, cls0[4]? = some C → (C.2.1 0).2.2.2 = false ∨ (md.1.name = "<init>" ∧ (C.2.1 0).1 = md.1.cls) := fun C e => Or.inr ⟨h1, by cases e; exact h2⟩
theorem ff_4_1 {md : Md} (h1 : md.1.name = "<init>") (h2 : RX4 = md.1.cls) : ∀ C : vw_C, cls0[4]? = some C → (C.2.1 1).2.2.2 = false ∨ (md.1.name = "<init>" ∧ (C.2.1 1).1 = md.1.cls) := fun C e => Or.inr ⟨h1, by cases e; exact h2⟩
theorem ff_4_2 {md : Md} (h1 : md.1.name = "<init>") (h2 : RX4 = md.1.cls) : ∀ C : vw_C, cls0[4]? = some C → (C.2.1 2).2.2.2 = false ∨ (md.1.name = "<init>" ∧ (C.2.1 2).1 = md.1.cls) := fun C e => Or.inr ⟨h1, by cases e; exact h2⟩
theorem nf_4_3 {md : Md} : ∀ C : vw_C, cls0[4]? = some C → (C.2.1 3).2.2.2 = false ∨ (md.1.name = "<init>" ∧ (C.2.1 3).1 = md.1.cls) := fun C e => Or.inl (by cases e; rfl)
theorem nf_4_4 {md : Md} : ∀ C : vw_C, cls0[4]? = some C → (C.2.1 4).2.2.2 = false ∨ (md.1.name = "<init>" ∧ (C.2.1 4).1 = md.1.cls) := fun C e => Or.inl (by cases e; rfl)
theorem ff_5_0 {md : Md} (h1 : md.1.name = "<init>") (h2 : RX5 = md.1.cls) : ∀ C : vw_C, cls0[5]? = some C → (C.2.1 0).2.2.2 = false ∨ (md.1.name = "<init>" ∧ (C.2.1 0).1 = md.1.cls) := fun C e => Or.inr ⟨h1, by cases e; exact h2⟩
theorem ff_5_1 {md : Md} (h1 : md.1.name = "<init>") (h2 : RX5 = md.1.cls) : ∀ C : vw_C, cls0[5]? = some C → (C.2.1 1).2.2.2 = false ∨ (md.1.name = "<init>" ∧ (C.2.1 1).1 = md.1.cls) := fun C e => Or.inr ⟨h1, by cases e; exact h2⟩
theorem nf_5_2 {md : Md} : ∀ C : vw_C, cls0[5]? = some C → (C.2.1 2).2.2.2 = false ∨ (md.1.name = "<init>" ∧ (C.2.1 2).1 = md.1.cls) := fun C e => Or.inl (by cases e; rfl)
theorem nf_6_0 {md : Md} : ∀ C : vw_C, cls0[6]? = some C → (C.2.1 0).2.2.2 = false ∨ (md.1.name = "<init>" ∧ (C.2.1 0).1 = md.1.cls) := fun C e => Or.inl (by cases e; rfl)
theorem nf_6_1 {md : Md} : ∀ C : vw_C, cls0[6]? = some C → (C.2.1 1).2.2.2 = false ∨ (md.1.name = "<init>" ∧ (C.2.1 1).1 = md.1.cls) := fun C e => Or.inl (by cases e; rfl)
theorem nf_6_2 {md : Md} : ∀ C : vw_C, cls0[6]? = some C → (C.2.1 2).2.2.2 = false ∨ (md.1.name = "<init>" ∧ (C.2.1 2).1 = md.1.cls) := fun C e => Or.inl (by cases e; rfl)
theorem nf_6_3 {md : Md} : ∀ C : vw_C, cls0[6]? = some C → (C.2.1 3).2.2.2 = false ∨ (md.1.name = "<init>" ∧ (C.2.1 3).1 = md.1.cls) := fun C e => Or.inl (by cases e; rfl)
theorem nf_6_4 {md : Md} : ∀ C : vw_C, cls0[6]? = some C → (C.2.1 4).2.2.2 = false ∨ (md.1.name = "<init>" ∧ (C.2.1 4).1 = md.1.cls) := fun C e => Or.inl (by cases e; rfl)
theorem nf_6_5 {md : Md} : ∀ C : vw_C, cls0[6]? = some C → (C.2.1 5).2.2.2 = false ∨ (md.1.name = "<init>" ∧ (C.2.1 5).1 = md.1.cls) := fun C e => Or.inl (by cases e; rfl)
theorem nf_6_6 {md : Md} : ∀ C : vw_C, cls0[6]? = some C → (C.2.1 6).2.2.2 = false ∨ (md.1.name = "<init>" ∧ (C.2.1 6).1 = md.1.cls) := fun C e => Or.inl (by cases e; rfl)
theorem ff_6_7 {md : Md} (h1 : md.1.name = "<init>") (h2 : RX6 = md.1.cls) : ∀ C : vw_C, cls0[6]? = some C → (C.2.1 7).2.2.2 = false ∨ (md.1.name = "<init>" ∧ (C.2.1 7).1 = md.1.cls) := fun C e => Or.inr ⟨h1, by cases e; exact h2⟩
theorem ff_6_8 {md : Md} (h1 : md.1.name = "<init>") (h2 : RX6 = md.1.cls) : ∀ C : vw_C, cls0[6]? = some C → (C.2.1 8).2.2.2 = false ∨ (md.1.name = "<init>" ∧ (C.2.1 8).1 = md.1.cls) := fun C e => Or.inr ⟨h1, by cases e; exact h2⟩
theorem ff_6_9 {md : Md} (h1 : md.1.name = "<init>") (h2 : RX6 = md.1.cls) : ∀ C : vw_C, cls0[6]? = some C → (C.2.1 9).2.2.2 = false ∨ (md.1.name = "<init>" ∧ (C.2.1 9).1 = md.1.cls) := fun C e => Or.inr ⟨h1, by cases e; exact h2⟩
theorem ff_6_10 {md : Md} (h1 : md.1.name = "<init>") (h2 : RX6 = md.1.cls) : ∀ C : vw_C, cls0[6]? = some C → (C.2.1 10).2.2.2 = false ∨ (md.1.name = "<init>" ∧ (C.2.1 10).1 = md.1.cls) := fun C e => Or.inr ⟨h1, by cases e; exact h2⟩
theorem ff_6_11 {md : Md} (h1 : md.1.name = "<init>") (h2 : RX6 = md.1.cls) : ∀ C : vw_C, cls0[6]? = some C → (C.2.1 11).2.2.2 = false ∨ (md.1.name = "<init>" ∧ (C.2.1 11).1 = md.1.cls) := fun C e => Or.inr ⟨h1, by cases e; exact h2⟩
theorem ff_6_12 {md : Md} (h1 : md.1.name = "<init>") (h2 : RX6 = md.1.cls) : ∀ C : vw_C, cls0[6]? = some C → (C.2.1 12).2.2.2 = false ∨ (md.1.name = "<init>" ∧ (C.2.1 12).1 = md.1.cls) := fun C e => Or.inr ⟨h1, by cases e; exact h2⟩
theorem ff_6_13 {md : Md} (h1 : md.1.name = "<init>") (h2 : RX6 = md.1.cls) : ∀ C : vw_C, cls0[6]? = some C → (C.2.1 13).2.2.2 = false ∨ (md.1.name = "<init>" ∧ (C.2.1 13).1 = md.1.cls) := fun C e => Or.inr ⟨h1, by cases e; exact h2⟩
theorem ff_6_14 {md : Md} (h1 : md.1.name = "<init>") (h2 : RX6 = md.1.cls) : ∀ C : vw_C, cls0[6]? = some C → (C.2.1 14).2.2.2 = false ∨ (md.1.name = "<init>" ∧ (C.2.1 14).1 = md.1.cls) := fun C e => Or.inr ⟨h1, by cases e; exact h2⟩
theorem ff_7_0 {md : Md} (h1 : md.1.name = "<init>") (h2 : RX7 = md.1.cls) : ∀ C : vw_C, cls0[7]? = some C → (C.2.1 0).2.2.2 = false ∨ (md.1.name = "<init>" ∧ (C.2.1 0).1 = md.1.cls) := fun C e => Or.inr ⟨h1, by cases e; exact h2⟩
theorem ff_7_1 {md : Md} (h1 : md.1.name = "<init>") (h2 : RX7 = md.1.cls) : ∀ C : vw_C, cls0[7]? = some C → (C.2.1 1).2.2.2 = false ∨ (md.1.name = "<init>" ∧ (C.2.1 1).1 = md.1.cls) := fun C e => Or.inr ⟨h1, by cases e; exact h2⟩
theorem nf_7_2 {md : Md} : ∀ C : vw_C, cls0[7]? = some C → (C.2.1 2).2.2.2 = false ∨ (md.1.name = "<init>" ∧ (C.2.1 2).1 = md.1.cls) := fun C e => Or.inl (by cases e; rfl)
theorem nf_7_3 {md : Md} : ∀ C : vw_C, cls0[7]? = some C → (C.2.1 3).2.2.2 = false ∨ (md.1.name = "<init>" ∧ (C.2.1 3).1 = md.1.cls) := fun C e => Or.inl (by cases e; rfl)
theorem nf_7_4 {md : Md} : ∀ C : vw_C, cls0[7]? = some C → (C.2.1 4).2.2.2 = false ∨ (md.1.name = "<init>" ∧ (C.2.1 4).1 = md.1.cls) := fun C e => Or.inl (by cases e; rfl)
theorem nf_7_5 {md : Md} : ∀ C : vw_C, cls0[7]? = some C → (C.2.1 5).2.2.2 = false ∨ (md.1.name = "<init>" ∧ (C.2.1 5).1 = md.1.cls) := fun C e => Or.inl (by cases e; rfl)
theorem nf_8_0 {md : Md} : ∀ C : vw_C, cls0[8]? = some C → (C.2.1 0).2.2.2 = false ∨ (md.1.name = "<init>" ∧ (C.2.1 0).1 = md.1.cls) := fun C e => Or.inl (by cases e; rfl)
theorem nf_8_1 {md : Md} : ∀ C : vw_C, cls0[8]? = some C → (C.2.1 1).2.2.2 = false ∨ (md.1.name = "<init>" ∧ (C.2.1 1).1 = md.1.cls) := fun C e => Or.inl (by cases e; rfl)
theorem nf_8_2 {md : Md} : ∀ C : vw_C, cls0[8]? = some C → (C.2.1 2).2.2.2 = false ∨ (md.1.name = "<init>" ∧ (C.2.1 2).1 = md.1.cls) := fun C e => Or.inl (by cases e; rfl)
theorem nf_8_3 {md : Md} : ∀ C : vw_C, cls0[8]? = some C → (C.2.1 3).2.2.2 = false ∨ (md.1.name = "<init>" ∧ (C.2.1 3).1 = md.1.cls) := fun C e => Or.inl (by cases e; rfl)
theorem nf_8_4 {md : Md} : ∀ C : vw_C, cls0[8]? = some C → (C.2.1 4).2.2.2 = false ∨ (md.1.name = "<init>" ∧ (C.2.1 4).1 = md.1.cls) := fun C e => Or.inl (by cases e; rfl)
theorem nf_8_5 {md : Md} : ∀ C : vw_C, cls0[8]? = some C → (C.2.1 5).2.2.2 = false ∨ (md.1.name = "<init>" ∧ (C.2.1 5).1 = md.1.cls) := fun C e => Or.inl (by cases e; rfl)
theorem nf_8_6 {md : Md} : ∀ C : vw_C, cls0[8]? = some C → (C.2.1 6).2.2.2 = false ∨ (md.1.name = "<init>" ∧ (C.2.1 6).1 = md.1.cls) := fun C e => Or.inl (by cases e; rfl)
theorem nf_8_7 {md : Md} : ∀ C : vw_C, cls0[8]? = some C → (C.2.1 7).2.2.2 = false ∨ (md.1.name = "<init>" ∧ (C.2.1 7).1 = md.1.cls) := fun C e => Or.inl (by cases e; rfl)
theorem ff_9_0 {md : Md} (h1 : md.1.name = "<init>") (h2 : RX9 = md.1.cls) : ∀ C : vw_C, cls0[9]? = some C → (C.2.1 0).2.2.2 = false ∨ (md.1.name = "<init>" ∧ (C.2.1 0).1 = md.1.cls) := fun C e => Or.inr ⟨h1, by cases e; exact h2⟩
theorem nf_9_1 {md : Md} : ∀ C : vw_C, cls0[9]? = some C → (C.2.1 1).2.2.2 = false ∨ (md.1.name = "<init>" ∧ (C.2.1 1).1 = md.1.cls) := fun C e => Or.inl (by cases e; rfl)
theorem nf_9_2 {md : Md} : ∀ C : vw_C, cls0[9]? = some C → (C.2.1 2).2.2.2 = false ∨ (md.1.name = "<init>" ∧ (C.2.1 2).1 = md.1.cls) := fun C e => Or.inl (by cases e; rfl)
theorem ff_9_3 {md : Md} (h1 : md.1.name = "<init>") (h2 : RX9 = md.1.cls) : ∀ C : vw_C, cls0[9]? = some C → (C.2.1 3).2.2.2 = false ∨ (md.1.name = "<init>" ∧ (C.2.1 3).1 = md.1.cls) := fun C e => Or.inr ⟨h1, by cases e; exact h2⟩
theorem nf_9_4 {md : Md} : ∀ C : vw_C, cls0[9]? = some C → (C.2.1 4).2.2.2 = false ∨ (md.1.name = "<init>" ∧ (C.2.1 4).1 = md.1.cls) := fun C e => Or.inl (by cases e; rfl)
theorem nf_9_5 {md : Md} : ∀ C : vw_C, cls0[9]? = some C → (C.2.1 5).2.2.2 = false ∨ (md.1.name = "<init>" ∧ (C.2.1 5).1 = md.1.cls) := fun C e => Or.inl (by cases e; rfl)
theorem nf_9_6 {md : Md} : ∀ C : vw_C, cls0[9]? = some C → (C.2.1 6).2.2.2 = false ∨ (md.1.name = "<init>" ∧ (C.2.1 6).1 = md.1.cls) := fun C e => Or.inl (by cases e; rfl)
theorem nf_9_7 {md : Md} : ∀ C : vw_C, cls0[9]? = some C → (C.2.1 7).2.2.2 = false ∨ (md.1.name = "<init>" ∧ (C.2.1 7).1 = md.1.cls) := fun C e => Or.inl (by cases e; rfl)
theorem nf_9_8 {md : Md} : ∀ C : vw_C, cls0[9]? = some C → (C.2.1 8).2.2.2 = false ∨ (md.1.name = "<init>" ∧ (C.2.1 8).1 = md.1.cls) := fun C e => Or.inl (by cases e; rfl)
theorem nf_9_9 {md : Md} : ∀ C : vw_C, cls0[9]? = some C → (C.2.1 9).2.2.2 = false ∨ (md.1.name = "<init>" ∧ (C.2.1 9).1 = md.1.cls) := fun C e => Or.inl (by cases e; rfl)
theorem nf_9_10 {md : Md} : ∀ C : vw_C, cls0[9]? = some C → (C.2.1 10).2.2.2 = false ∨ (md.1.name = "<init>" ∧ (C.2.1 10).1 = md.1.cls) := fun C e => Or.inl (by cases e; rfl)
theorem nf_9_11 {md : Md} : ∀ C : vw_C, cls0[9]? = some C → (C.2.1 11).2.2.2 = false ∨ (md.1.name = "<init>" ∧ (C.2.1 11).1 = md.1.cls) := fun C e => Or.inl (by cases e; rfl)
theorem nf_9_12 {md : Md} : ∀ C : vw_C, cls0[9]? = some C → (C.2.1 12).2.2.2 = false ∨ (md.1.name = "<init>" ∧ (C.2.1 12).1 = md.1.cls) := fun C e => Or.inl (by cases e; rfl)
theorem nf_9_13 {md : Md} : ∀ C : vw_C, cls0[9]? = some C → (C.2.1 13).2.2.2 = false ∨ (md.1.name = "<init>" ∧ (C.2.1 13).1 = md.1.cls) := fun C e => Or.inl (by cases e; rfl)
theorem nf_9_14 {md : Md} : ∀ C : vw_C, cls0[9]? = some C → (C.2.1 14).2.2.2 = false ∨ (md.1.name = "<init>" ∧ (C.2.1 14).1 = md.1.cls) := fun C e => Or.inl (by cases e; rfl)
theorem ff_10_0 {md : Md} (h1 : md.1.name = "<init>") (h2 : RX10 = md.1.cls) : ∀ C : vw_C, cls0[10]? = some C → (C.2.1 0).2.2.2 = false ∨ (md.1.name = "<init>" ∧ (C.2.1 0).1 = md.1.cls) := fun C e => Or.inr ⟨h1, by cases e; exact h2⟩
theorem ff_10_1 {md : Md} (h1 : md.1.name = "<init>") (h2 : RX10 = md.1.cls) : ∀ C : vw_C, cls0[10]? = some C → (C.2.1 1).2.2.2 = false ∨ (md.1.name = "<init>" ∧ (C.2.1 1).1 = md.1.cls) := fun C e => Or.inr ⟨h1, by cases e; exact h2⟩
theorem ff_10_2 {md : Md} (h1 : md.1.name = "<init>") (h2 : RX10 = md.1.cls) : ∀ C : vw_C, cls0[10]? = some C → (C.2.1 2).2.2.2 = false ∨ (md.1.name = "<init>" ∧ (C.2.1 2).1 = md.1.cls) := fun C e => Or.inr ⟨h1, by cases e; exact h2⟩
theorem ff_10_3 {md : Md} (h1 : md.1.name = "<init>") (h2 : RX10 = md.1.cls) : ∀ C : vw_C, cls0[10]? = some C → (C.2.1 3).2.2.2 = false ∨ (md.1.name = "<init>" ∧ (C.2.1 3).1 = md.1.cls) := fun C e => Or.inr ⟨h1, by cases e; exact h2⟩
theorem ff_10_4 {md : Md} (h1 : md.1.name = "<init>") (h2 : RX10 = md.1.cls) : ∀ C : vw_C, cls0[10]? = some C → (C.2.1 4).2.2.2 = false ∨ (md.1.name = "<init>" ∧ (C.2.1 4).1 = md.1.cls) := fun C e => Or.inr ⟨h1, by cases e; exact h2⟩
theorem ff_10_5 {md : Md} (h1 : md.1.name = "<init>") (h2 : RX10 = md.1.cls) : ∀ C : vw_C, cls0[10]? = some C → (C.2.1 5).2.2.2 = false ∨ (md.1.name = "<init>" ∧ (C.2.1 5).1 = md.1.cls) := fun C e => Or.inr ⟨h1, by cases e; exact h2⟩
theorem ff_10_6 {md : Md} (h1 : md.1.name = "<init>") (h2 : RX10 = md.1.cls) : ∀ C : vw_C, cls0[10]? = some C → (C.2.1 6).2.2.2 = false ∨ (md.1.name = "<init>" ∧ (C.2.1 6).1 = md.1.cls) := fun C e => Or.inr ⟨h1, by cases e; exact h2⟩
theorem nf_10_7 {md : Md} : ∀ C : vw_C, cls0[10]? = some C → (C.2.1 7).2.2.2 = false ∨ (md.1.name = "<init>" ∧ (C.2.1 7).1 = md.1.cls) := fun C e => Or.inl (by cases e; rfl)
theorem nf_10_8 {md : Md} : ∀ C : vw_C, cls0[10]? = some C → (C.2.1 8).2.2.2 = false ∨ (md.1.name = "<init>" ∧ (C.2.1 8).1 = md.1.cls) := fun C e => Or.inl (by cases e; rfl)
theorem nf_10_9 {md : Md} : ∀ C : vw_C, cls0[10]? = some C → (C.2.1 9).2.2.2 = false ∨ (md.1.name = "<init>" ∧ (C.2.1 9).1 = md.1.cls) := fun C e => Or.inl (by cases e; rfl)
theorem nf_10_10 {md : Md} : ∀ C : vw_C, cls0[10]? = some C → (C.2.1 10).2.2.2 = false ∨ (md.1.name = "<init>" ∧ (C.2.1 10).1 = md.1.cls) := fun C e => Or.inl (by cases e; rfl)
theorem nf_10_11 {md : Md} : ∀ C : vw_C, cls0[10]? = some C → (C.2.1 11).2.2.2 = false ∨ (md.1.name = "<init>" ∧ (C.2.1 11).1 = md.1.cls) := fun C e => Or.inl (by cases e; rfl)
theorem nf_10_12 {md : Md} : ∀ C : vw_C, cls0[10]? = some C → (C.2.1 12).2.2.2 = false ∨ (md.1.name = "<init>" ∧ (C.2.1 12).1 = md.1.cls) := fun C e => Or.inl (by cases e; rfl)
theorem nf_10_13 {md : Md} : ∀ C : vw_C, cls0[10]? = some C → (C.2.1 13).2.2.2 = false ∨ (md.1.name = "<init>" ∧ (C.2.1 13).1 = md.1.cls) := fun C e => Or.inl (by cases e; rfl)
theorem nf_10_14 {md : Md} : ∀ C : vw_C, cls0[10]? = some C → (C.2.1 14).2.2.2 = false ∨ (md.1.name = "<init>" ∧ (C.2.1 14).1 = md.1.cls) := fun C e => Or.inl (by cases e; rfl)
theorem nf_10_15 {md : Md} : ∀ C : vw_C, cls0[10]? = some C → (C.2.1 15).2.2.2 = false ∨ (md.1.name = "<init>" ∧ (C.2.1 15).1 = md.1.cls) := fun C e => Or.inl (by cases e; rfl)
theorem ff_11_0 {md : Md} (h1 : md.1.name = "<init>") (h2 : RX11 = md.1.cls) : ∀ C : vw_C, cls0[11]? = some C → (C.2.1 0).2.2.2 = false ∨ (md.1.name = "<init>" ∧ (C.2.1 0).1 = md.1.cls) := fun C e => Or.inr ⟨h1, by cases e; exact h2⟩
theorem nf_11_1 {md : Md} : ∀ C : vw_C, cls0[11]? = some C → (C.2.1 1).2.2.2 = false ∨ (md.1.name = "<init>" ∧ (C.2.1 1).1 = md.1.cls) := fun C e => Or.inl (by cases e; rfl)
theorem ff_11_2 {md : Md} (h1 : md.1.name = "<init>") (h2 : RX11 = md.1.cls) : ∀ C : vw_C, cls0[11]? = some C → (C.2.1 2).2.2.2 = false ∨ (md.1.name = "<init>" ∧ (C.2.1 2).1 = md.1.cls) := fun C e => Or.inr ⟨h1, by cases e; exact h2⟩
theorem ff_11_3 {md : Md} (h1 : md.1.name = "<init>") (h2 : RX11 = md.1.cls) : ∀ C : vw_C, cls0[11]? = some C → (C.2.1 3).2.2.2 = false ∨ (md.1.name = "<init>" ∧ (C.2.1 3).1 = md.1.cls) := fun C e => Or.inr ⟨h1, by cases e; exact h2⟩
theorem nf_11_4 {md : Md} : ∀ C : vw_C, cls0[11]? = some C → (C.2.1 4).2.2.2 = false ∨ (md.1.name = "<init>" ∧ (C.2.1 4).1 = md.1.cls) := fun C e => Or.inl (by cases e; rfl)
theorem nf_11_5 {md : Md} : ∀ C : vw_C, cls0[11]? = some C → (C.2.1 5).2.2.2 = false ∨ (md.1.name = "<init>" ∧ (C.2.1 5).1 = md.1.cls) := fun C e => Or.inl (by cases e; rfl)
theorem nf_11_6 {md : Md} : ∀ C : vw_C, cls0[11]? = some C → (C.2.1 6).2.2.2 = false ∨ (md.1.name = "<init>" ∧ (C.2.1 6).1 = md.1.cls) := fun C e => Or.inl (by cases e; rfl)
theorem ff_11_7 {md : Md} (h1 : md.1.name = "<init>") (h2 : RX11 = md.1.cls) : ∀ C : vw_C, cls0[11]? = some C → (C.2.1 7).2.2.2 = false ∨ (md.1.name = "<init>" ∧ (C.2.1 7).1 = md.1.cls) := fun C e => Or.inr ⟨h1, by cases e; exact h2⟩
theorem ff_11_8 {md : Md} (h1 : md.1.name = "<init>") (h2 : RX11 = md.1.cls) : ∀ C : vw_C, cls0[11]? = some C → (C.2.1 8).2.2.2 = false ∨ (md.1.name = "<init>" ∧ (C.2.1 8).1 = md.1.cls) := fun C e => Or.inr ⟨h1, by cases e; exact h2⟩
theorem ff_11_9 {md : Md} (h1 : md.1.name = "<init>") (h2 : RX11 = md.1.cls) : ∀ C : vw_C, cls0[11]? = some C → (C.2.1 9).2.2.2 = false ∨ (md.1.name = "<init>" ∧ (C.2.1 9).1 = md.1.cls) := fun C e => Or.inr ⟨h1, by cases e; exact h2⟩
theorem ff_11_10 {md : Md} (h1 : md.1.name = "<init>") (h2 : RX11 = md.1.cls) : ∀ C : vw_C, cls0[11]? = some C → (C.2.1 10).2.2.2 = false ∨ (md.1.name = "<init>" ∧ (C.2.1 10).1 = md.1.cls) := fun C e => Or.inr ⟨h1, by cases e; exact h2⟩
theorem nf_11_11 {md : Md} : ∀ C : vw_C, cls0[11]? = some C → (C.2.1 11).2.2.2 = false ∨ (md.1.name = "<init>" ∧ (C.2.1 11).1 = md.1.cls) := fun C e => Or.inl (by cases e; rfl)
theorem nf_11_12 {md : Md} : ∀ C : vw_C, cls0[11]? = some C → (C.2.1 12).2.2.2 = false ∨ (md.1.name = "<init>" ∧ (C.2.1 12).1 = md.1.cls) := fun C e => Or.inl (by cases e; rfl)
theorem ff_11_13 {md : Md} (h1 : md.1.name = "<init>") (h2 : RX11 = md.1.cls) : ∀ C : vw_C, cls0[11]? = some C → (C.2.1 13).2.2.2 = false ∨ (md.1.name = "<init>" ∧ (C.2.1 13).1 = md.1.cls) := fun C e => Or.inr ⟨h1, by cases e; exact h2⟩
theorem nf_11_14 {md : Md} : ∀ C : vw_C, cls0[11]? = some C → (C.2.1 14).2.2.2 = false ∨ (md.1.name = "<init>" ∧ (C.2.1 14).1 = md.1.cls) := fun C e => Or.inl (by cases e; rfl)
theorem ff_11_15 {md : Md} (h1 : md.1.name = "<init>") (h2 : RX11 = md.1.cls) : ∀ C : vw_C, cls0[11]? = some C → (C.2.1 15).2.2.2 = false ∨ (md.1.name = "<init>" ∧ (C.2.1 15).1 = md.1.cls) := fun C e => Or.inr ⟨h1, by cases e; exact h2⟩
theorem ff_12_0 {md : Md} (h1 : md.1.name = "<init>") (h2 : RX12 = md.1.cls) : ∀ C : vw_C, cls0[12]? = some C → (C.2.1 0).2.2.2 = false ∨ (md.1.name = "<init>" ∧ (C.2.1 0).1 = md.1.cls) := fun C e => Or.inr ⟨h1, by cases e; exact h2⟩
theorem nf_12_1 {md : Md} : ∀ C : vw_C, cls0[12]? = some C → (C.2.1 1).2.2.2 = false ∨ (md.1.name = "<init>" ∧ (C.2.1 1).1 = md.1.cls) := fun C e => Or.inl (by cases e; rfl)
theorem nf_12_2 {md : Md} : ∀ C : vw_C, cls0[12]? = some C → (C.2.1 2).2.2.2 = false ∨ (md.1.name = "<init>" ∧ (C.2.1 2).1 = md.1.cls) := fun C e => Or.inl (by cases e; rfl)
theorem nf_12_3 {md : Md} : ∀ C : vw_C, cls0[12]? = some C → (C.2.1 3).2.2.2 = false ∨ (md.1.name = "<init>" ∧ (C.2.1 3).1 = md.1.cls) := fun C e => Or.inl (by cases e; rfl)
theorem nf_12_4 {md : Md} : ∀ C : vw_C, cls0[12]? = some C → (C.2.1 4).2.2.2 = false ∨ (md.1.name = "<init>" ∧ (C.2.1 4).1 = md.1.cls) := fun C e => Or.inl (by cases e; rfl)
theorem nf_12_5 {md : Md} : ∀ C : vw_C, cls0[12]? = some C → (C.2.1 5).2.2.2 = false ∨ (md.1.name = "<init>" ∧ (C.2.1 5).1 = md.1.cls) := fun C e => Or.inl (by cases e; rfl)
theorem nf_12_6 {md : Md} : ∀ C : vw_C, cls0[12]? = some C → (C.2.1 6).2.2.2 = false ∨ (md.1.name = "<init>" ∧ (C.2.1 6).1 = md.1.cls) := fun C e => Or.inl (by cases e; rfl)
theorem nf_12_7 {md : Md} : ∀ C : vw_C, cls0[12]? = some C → (C.2.1 7).2.2.2 = false ∨ (md.1.name = "<init>" ∧ (C.2.1 7).1 = md.1.cls) := fun C e => Or.inl (by cases e; rfl)
theorem nf_12_8 {md : Md} : ∀ C : vw_C, cls0[12]? = some C → (C.2.1 8).2.2.2 = false ∨ (md.1.name = "<init>" ∧ (C.2.1 8).1 = md.1.cls) := fun C e => Or.inl (by cases e; rfl)
theorem nf_12_9 {md : Md} : ∀ C : vw_C, cls0[12]? = some C → (C.2.1 9).2.2.2 = false ∨ (md.1.name = "<init>" ∧ (C.2.1 9).1 = md.1.cls) := fun C e => Or.inl (by cases e; rfl)
theorem nf_12_10 {md : Md} : ∀ C : vw_C, cls0[12]? = some C → (C.2.1 10).2.2.2 = false ∨ (md.1.name = "<init>" ∧ (C.2.1 10).1 = md.1.cls) := fun C e => Or.inl (by cases e; rfl)
theorem nf_12_11 {md : Md} : ∀ C : vw_C, cls0[12]? = some C → (C.2.1 11).2.2.2 = false ∨ (md.1.name = "<init>" ∧ (C.2.1 11).1 = md.1.cls) := fun C e => Or.inl (by cases e; rfl)
theorem nf_12_12 {md : Md} : ∀ C : vw_C, cls0[12]? = some C → (C.2.1 12).2.2.2 = false ∨ (md.1.name = "<init>" ∧ (C.2.1 12).1 = md.1.cls) := fun C e => Or.inl (by cases e; rfl)
theorem nf_12_13 {md : Md} : ∀ C : vw_C, cls0[12]? = some C → (C.2.1 13).2.2.2 = false ∨ (md.1.name = "<init>" ∧ (C.2.1 13).1 = md.1.cls) := fun C e => Or.inl (by cases e; rfl)
theorem ff_12_14 {md : Md} (h1 : md.1.name = "<init>") (h2 : RX12 = md.1.cls) : ∀ C : vw_C, cls0[12]? = some C → (C.2.1 14).2.2.2 = false ∨ (md.1.name = "<init>" ∧ (C.2.1 14).1 = md.1.cls) := fun C e => Or.inr ⟨h1, by cases e; exact h2⟩
theorem ff_12_15 {md : Md} (h1 : md.1.name = "<init>") (h2 : RX12 = md.1.cls) : ∀ C : vw_C, cls0[12]? = some C → (C.2.1 15).2.2.2 = false ∨ (md.1.name = "<init>" ∧ (C.2.1 15).1 = md.1.cls) := fun C e => Or.inr ⟨h1, by cases e; exact h2⟩
theorem ff_12_16 {md : Md} (h1 : md.1.name = "<init>") (h2 : RX12 = md.1.cls) : ∀ C : vw_C, cls0[12]? = some C → (C.2.1 16).2.2.2 = false ∨ (md.1.name = "<init>" ∧ (C.2.1 16).1 = md.1.cls) := fun C e => Or.inr ⟨h1, by cases e; exact h2⟩
theorem ff_12_17 {md : Md} (h1 : md.1.name = "<init>") (h2 : RX12 = md.1.cls) : ∀ C : vw_C, cls0[12]? = some C → (C.2.1 17).2.2.2 = false ∨ (md.1.name = "<init>" ∧ (C.2.1 17).1 = md.1.cls) := fun C e => Or.inr ⟨h1, by cases e; exact h2⟩
theorem ff_12_18 {md : Md} (h1 : md.1.name = "<init>") (h2 : RX12 = md.1.cls) : ∀ C : vw_C, cls0[12]? = some C → (C.2.1 18).2.2.2 = false ∨ (md.1.name = "<init>" ∧ (C.2.1 18).1 = md.1.cls) := fun C e => Or.inr ⟨h1, by cases e; exact h2⟩
theorem ff_12_19 {md : Md} (h1 : md.1.name = "<init>") (h2 : RX12 = md.1.cls) : ∀ C : vw_C, cls0[12]? = some C → (C.2.1 19).2.2.2 = false ∨ (md.1.name = "<init>" ∧ (C.2.1 19).1 = md.1.cls) := fun C e => Or.inr ⟨h1, by cases e; exact h2⟩
theorem ff_12_20 {md : Md} (h1 : md.1.name = "<init>") (h2 : RX12 = md.1.cls) : ∀ C : vw_C, cls0[12]? = some C → (C.2.1 20).2.2.2 = false ∨ (md.1.name = "<init>" ∧ (C.2.1 20).1 = md.1.cls) := fun C e => Or.inr ⟨h1, by cases e; exact h2⟩
theorem ff_12_21 {md : Md} (h1 : md.1.name = "<init>") (h2 : RX12 = md.1.cls) : ∀ C : vw_C, cls0[12]? = some C → (C.2.1 21).2.2.2 = false ∨ (md.1.name = "<init>" ∧ (C.2.1 21).1 = md.1.cls) := fun C e => Or.inr ⟨h1, by cases e; exact h2⟩
theorem ff_12_22 {md : Md} (h1 : md.1.name = "<init>") (h2 : RX12 = md.1.cls) : ∀ C : vw_C, cls0[12]? = some C → (C.2.1 22).2.2.2 = false ∨ (md.1.name = "<init>" ∧ (C.2.1 22).1 = md.1.cls) := fun C e => Or.inr ⟨h1, by cases e; exact h2⟩
theorem ff_12_23 {md : Md} (h1 : md.1.name = "<init>") (h2 : RX12 = md.1.cls) : ∀ C : vw_C, cls0[12]? = some C → (C.2.1 23).2.2.2 = false ∨ (md.1.name = "<init>" ∧ (C.2.1 23).1 = md.1.cls) := fun C e => Or.inr ⟨h1, by cases e; exact h2⟩
theorem ff_12_24 {md : Md} (h1 : md.1.name = "<init>") (h2 : RX12 = md.1.cls) : ∀ C : vw_C, cls0[12]? = some C → (C.2.1 24).2.2.2 = false ∨ (md.1.name = "<init>" ∧ (C.2.1 24).1 = md.1.cls) := fun C e => Or.inr ⟨h1, by cases e; exact h2⟩
theorem ff_12_25 {md : Md} (h1 : md.1.name = "<init>") (h2 : RX12 = md.1.cls) : ∀ C : vw_C, cls0[12]? = some C → (C.2.1 25).2.2.2 = false ∨ (md.1.name = "<init>" ∧ (C.2.1 25).1 = md.1.cls) := fun C e => Or.inr ⟨h1, by cases e; exact h2⟩
theorem ff_12_26 {md : Md} (h1 : md.1.name = "<init>") (h2 : RX12 = md.1.cls) : ∀ C : vw_C, cls0[12]? = some C → (C.2.1 26).2.2.2 = false ∨ (md.1.name = "<init>" ∧ (C.2.1 26).1 = md.1.cls) := fun C e => Or.inr ⟨h1, by cases e; exact h2⟩
theorem ff_12_27 {md : Md} (h1 : md.1.name = "<init>") (h2 : RX12 = md.1.cls) : ∀ C : vw_C, cls0[12]? = some C → (C.2.1 27).2.2.2 = false ∨ (md.1.name = "<init>" ∧ (C.2.1 27).1 = md.1.cls) := fun C e => Or.inr ⟨h1, by cases e; exact h2⟩
theorem nf_12_28 {md : Md} : ∀ C : vw_C, cls0[12]? = some C → (C.2.1 28).2.2.2 = false ∨ (md.1.name = "<init>" ∧ (C.2.1 28).1 = md.1.cls) := fun C e => Or.inl (by cases e; rfl)
theorem nf_12_29 {md : Md} : ∀ C : vw_C, cls0[12]? = some C → (C.2.1 29).2.2.2 = false ∨ (md.1.name = "<init>" ∧ (C.2.1 29).1 = md.1.cls) := fun C e => Or.inl (by cases e; rfl)
theorem nf_12_30 {md : Md} : ∀ C : vw_C, cls0[12]? = some C → (C.2.1 30).2.2.2 = false ∨ (md.1.name = "<init>" ∧ (C.2.1 30).1 = md.1.cls) := fun C e => Or.inl (by cases e; rfl)
theorem ff_12_31 {md : Md} (h1 : md.1.name = "<init>") (h2 : RX12 = md.1.cls) : ∀ C : vw_C, cls0[12]? = some C → (C.2.1 31).2.2.2 = false ∨ (md.1.name = "<init>" ∧ (C.2.1 31).1 = md.1.cls) := fun C e => Or.inr ⟨h1, by cases e; exact h2⟩
theorem ff_12_32 {md : Md} (h1 : md.1.name = "<init>") (h2 : RX12 = md.1.cls) : ∀ C : vw_C, cls0[12]? = some C → (C.2.1 32).2.2.2 = false ∨ (md.1.name = "<init>" ∧ (C.2.1 32).1 = md.1.cls) := fun C e => Or.inr ⟨h1, by cases e; exact h2⟩
theorem ff_12_33 {md : Md} (h1 : md.1.name = "<init>") (h2 : RX12 = md.1.cls) : ∀ C : vw_C, cls0[12]? = some C → (C.2.1 33).2.2.2 = false ∨ (md.1.name = "<init>" ∧ (C.2.1 33).1 = md.1.cls) := fun C e => Or.inr ⟨h1, by cases e; exact h2⟩
theorem ff_12_34 {md : Md} (h1 : md.1.name = "<init>") (h2 : RX12 = md.1.cls) : ∀ C : vw_C, cls0[12]? = some C → (C.2.1 34).2.2.2 = false ∨ (md.1.name = "<init>" ∧ (C.2.1 34).1 = md.1.cls) := fun C e => Or.inr ⟨h1, by cases e; exact h2⟩
theorem ff_12_35 {md : Md} (h1 : md.1.name = "<init>") (h2 : RX12 = md.1.cls) : ∀ C : vw_C, cls0[12]? = some C → (C.2.1 35).2.2.2 = false ∨ (md.1.name = "<init>" ∧ (C.2.1 35).1 = md.1.cls) := fun C e => Or.inr ⟨h1, by cases e; exact h2⟩
theorem nf_12_36 {md : Md} : ∀ C : vw_C, cls0[12]? = some C → (C.2.1 36).2.2.2 = false ∨ (md.1.name = "<init>" ∧ (C.2.1 36).1 = md.1.cls) := fun C e => Or.inl (by cases e; rfl)
theorem nf_12_37 {md : Md} : ∀ C : vw_C, cls0[12]? = some C → (C.2.1 37).2.2.2 = false ∨ (md.1.name = "<init>" ∧ (C.2.1 37).1 = md.1.cls) := fun C e => Or.inl (by cases e; rfl)
theorem ff_12_38 {md : Md} (h1 : md.1.name = "<init>") (h2 : RX12 = md.1.cls) : ∀ C : vw_C, cls0[12]? = some C → (C.2.1 38).2.2.2 = false ∨ (md.1.name = "<init>" ∧ (C.2.1 38).1 = md.1.cls) := fun C e => Or.inr ⟨h1, by cases e; exact h2⟩
theorem nf_12_39 {md : Md} : ∀ C : vw_C, cls0[12]? = some C → (C.2.1 39).2.2.2 = false ∨ (md.1.name = "<init>" ∧ (C.2.1 39).1 = md.1.cls) := fun C e => Or.inl (by cases e; rfl)
theorem nf_12_40 {md : Md} : ∀ C : vw_C, cls0[12]? = some C → (C.2.1 40).2.2.2 = false ∨ (md.1.name = "<init>" ∧ (C.2.1 40).1 = md.1.cls) := fun C e => Or.inl (by cases e; rfl)
theorem nf_12_41 {md : Md} : ∀ C : vw_C, cls0[12]? = some C → (C.2.1 41).2.2.2 = false ∨ (md.1.name = "<init>" ∧ (C.2.1 41).1 = md.1.cls) := fun C e => Or.inl (by cases e; rfl)
theorem ff_12_42 {md : Md} (h1 : md.1.name = "<init>") (h2 : RX12 = md.1.cls) : ∀ C : vw_C, cls0[12]? = some C → (C.2.1 42).2.2.2 = false ∨ (md.1.name = "<init>" ∧ (C.2.1 42).1 = md.1.cls) := fun C e => Or.inr ⟨h1, by cases e; exact h2⟩
theorem ff_12_43 {md : Md} (h1 : md.1.name = "<init>") (h2 : RX12 = md.1.cls) : ∀ C : vw_C, cls0[12]? = some C → (C.2.1 43).2.2.2 = false ∨ (md.1.name = "<init>" ∧ (C.2.1 43).1 = md.1.cls) := fun C e => Or.inr ⟨h1, by cases e; exact h2⟩
theorem ff_12_44 {md : Md} (h1 : md.1.name = "<init>") (h2 : RX12 = md.1.cls) : ∀ C : vw_C, cls0[12]? = some C → (C.2.1 44).2.2.2 = false ∨ (md.1.name = "<init>" ∧ (C.2.1 44).1 = md.1.cls) := fun C e => Or.inr ⟨h1, by cases e; exact h2⟩
theorem ff_12_45 {md : Md} (h1 : md.1.name = "<init>") (h2 : RX12 = md.1.cls) : ∀ C : vw_C, cls0[12]? = some C → (C.2.1 45).2.2.2 = false ∨ (md.1.name = "<init>" ∧ (C.2.1 45).1 = md.1.cls) := fun C e => Or.inr ⟨h1, by cases e; exact h2⟩
theorem ff_12_46 {md : Md} (h1 : md.1.name = "<init>") (h2 : RX12 = md.1.cls) : ∀ C : vw_C, cls0[12]? = some C → (C.2.1 46).2.2.2 = false ∨ (md.1.name = "<init>" ∧ (C.2.1 46).1 = md.1.cls) := fun C e => Or.inr ⟨h1, by cases e; exact h2⟩
theorem ff_12_47 {md : Md} (h1 : md.1.name = "<init>") (h2 : RX12 = md.1.cls) : ∀ C : vw_C, cls0[12]? = some C → (C.2.1 47).2.2.2 = false ∨ (md.1.name = "<init>" ∧ (C.2.1 47).1 = md.1.cls) := fun C e => Or.inr ⟨h1, by cases e; exact h2⟩
theorem ff_12_48 {md : Md} (h1 : md.1.name = "<init>") (h2 : RX12 = md.1.cls) : ∀ C : vw_C, cls0[12]? = some C → (C.2.1 48).2.2.2 = false ∨ (md.1.name = "<init>" ∧ (C.2.1 48).1 = md.1.cls) := fun C e => Or.inr ⟨h1, by cases e; exact h2⟩
theorem nf_12_49 {md : Md} : ∀ C : vw_C, cls0[12]? = some C → (C.2.1 49).2.2.2 = false ∨ (md.1.name = "<init>" ∧ (C.2.1 49).1 = md.1.cls) := fun C e => Or.inl (by cases e; rfl)
theorem nf_12_50 {md : Md} : ∀ C : vw_C, cls0[12]? = some C → (C.2.1 50).2.2.2 = false ∨ (md.1.name = "<init>" ∧ (C.2.1 50).1 = md.1.cls) := fun C e => Or.inl (by cases e; rfl)
theorem nf_12_51 {md : Md} : ∀ C : vw_C, cls0[12]? = some C → (C.2.1 51).2.2.2 = false ∨ (md.1.name = "<init>" ∧ (C.2.1 51).1 = md.1.cls) := fun C e => Or.inl (by cases e; rfl)
theorem nf_12_52 {md : Md} : ∀ C : vw_C, cls0[12]? = some C → (C.2.1 52).2.2.2 = false ∨ (md.1.name = "<init>" ∧ (C.2.1 52).1 = md.1.cls) := fun C e => Or.inl (by cases e; rfl)
theorem ff_12_53 {md : Md} (h1 : md.1.name = "<init>") (h2 : RX12 = md.1.cls) : ∀ C : vw_C, cls0[12]? = some C → (C.2.1 53).2.2.2 = false ∨ (md.1.name = "<init>" ∧ (C.2.1 53).1 = md.1.cls) := fun C e => Or.inr ⟨h1, by cases e; exact h2⟩
theorem ff_12_54 {md : Md} (h1 : md.1.name = "<init>") (h2 : RX12 = md.1.cls) : ∀ C : vw_C, cls0[12]? = some C → (C.2.1 54).2.2.2 = false ∨ (md.1.name = "<init>" ∧ (C.2.1 54).1 = md.1.cls) := fun C e => Or.inr ⟨h1, by cases e; exact h2⟩
theorem ff_12_55 {md : Md} (h1 : md.1.name = "<init>") (h2 : RX12 = md.1.cls) : ∀ C : vw_C, cls0[12]? = some C → (C.2.1 55).2.2.2 = false ∨ (md.1.name = "<init>" ∧ (C.2.1 55).1 = md.1.cls) := fun C e => Or.inr ⟨h1, by cases e; exact h2⟩
theorem ff_12_56 {md : Md} (h1 : md.1.name = "<init>") (h2 : RX12 = md.1.cls) : ∀ C : vw_C, cls0[12]? = some C → (C.2.1 56).2.2.2 = false ∨ (md.1.name = "<init>" ∧ (C.2.1 56).1 = md.1.cls) := fun C e => Or.inr ⟨h1, by cases e; exact h2⟩
theorem nf_12_57 {md : Md} : ∀ C : vw_C, cls0[12]? = some C → (C.2.1 57).2.2.2 = false ∨ (md.1.name = "<init>" ∧ (C.2.1 57).1 = md.1.cls) := fun C e => Or.inl (by cases e; rfl)
theorem ff_12_58 {md : Md} (h1 : md.1.name = "<init>") (h2 : RX12 = md.1.cls) : ∀ C : vw_C, cls0[12]? = some C → (C.2.1 58).2.2.2 = false ∨ (md.1.name = "<init>" ∧ (C.2.1 58).1 = md.1.cls) := fun C e => Or.inr ⟨h1, by cases e; exact h2⟩
theorem nf_12_59 {md : Md} : ∀ C : vw_C, cls0[12]? = some C → (C.2.1 59).2.2.2 = false ∨ (md.1.name = "<init>" ∧ (C.2.1 59).1 = md.1.cls) := fun C e => Or.inl (by cases e; rfl)
theorem nf_12_60 {md : Md} : ∀ C : vw_C, cls0[12]? = some C → (C.2.1 60).2.2.2 = false ∨ (md.1.name = "<init>" ∧ (C.2.1 60).1 = md.1.cls) := fun C e => Or.inl (by cases e; rfl)
theorem nf_12_61 {md : Md} : ∀ C : vw_C, cls0[12]? = some C → (C.2.1 61).2.2.2 = false ∨ (md.1.name = "<init>" ∧ (C.2.1 61).1 = md.1.cls) := fun C e => Or.inl (by cases e; rfl)
theorem nf_12_62 {md : Md} : ∀ C : vw_C, cls0[12]? = some C → (C.2.1 62).2.2.2 = false ∨ (md.1.name = "<init>" ∧ (C.2.1 62).1 = md.1.cls) := fun C e => Or.inl (by cases e; rfl)
theorem nf_12_63 {md : Md} : ∀ C : vw_C, cls0[12]? = some C → (C.2.1 63).2.2.2 = false ∨ (md.1.name = "<init>" ∧ (C.2.1 63).1 = md.1.cls) := fun C e => Or.inl (by cases e; rfl)
theorem nf_12_64 {md : Md} : ∀ C : vw_C, cls0[12]? = some C → (C.2.1 64).2.2.2 = false ∨ (md.1.name = "<init>" ∧ (C.2.1 64).1 = md.1.cls) := fun C e => Or.inl (by cases e; rfl)
theorem ff_12_65 {md : Md} (h1 : md.1.name = "<init>") (h2 : RX12 = md.1.cls) : ∀ C : vw_C, cls0[12]? = some C → (C.2.1 65).2.2.2 = false ∨ (md.1.name = "<init>" ∧ (C.2.1 65).1 = md.1.cls) := fun C e => Or.inr ⟨h1, by cases e; exact h2⟩
theorem ff_12_66 {md : Md} (h1 : md.1.name = "<init>") (h2 : RX12 = md.1.cls) : ∀ C : vw_C, cls0[12]? = some C → (C.2.1 66).2.2.2 = false ∨ (md.1.name = "<init>" ∧ (C.2.1 66).1 = md.1.cls) := fun C e => Or.inr ⟨h1, by cases e; exact h2⟩
theorem ff_12_67 {md : Md} (h1 : md.1.name = "<init>") (h2 : RX12 = md.1.cls) : ∀ C : vw_C, cls0[12]? = some C → (C.2.1 67).2.2.2 = false ∨ (md.1.name = "<init>" ∧ (C.2.1 67).1 = md.1.cls) := fun C e => Or.inr ⟨h1, by cases e; exact h2⟩
theorem ff_12_68 {md : Md} (h1 : md.1.name = "<init>") (h2 : RX12 = md.1.cls) : ∀ C : vw_C, cls0[12]? = some C → (C.2.1 68).2.2.2 = false ∨ (md.1.name = "<init>" ∧ (C.2.1 68).1 = md.1.cls) := fun C e => Or.inr ⟨h1, by cases e; exact h2⟩
def yJ_floorDiv : MethodName := ⟨"java/lang/Math", "floorDiv", "(II)I"⟩
abbrev mJ_floorDiv : Md := (yJ_floorDiv, prog_15_method_47_code, 3, some .int)
set_option maxRecDepth 20000 in
theorem miJ_floorDiv : MJ mJ_floorDiv 2 := ⟨gw 805 rfl rfl, gw 18 rfl rfl, by decide, by decide, by decide +kernel⟩
set_option maxRecDepth 20000 in
theorem mvJ_floorDiv : Cond.static yJ_floorDiv ∈ lw_good := gw 804 rfl rfl
def yJ_floorMod : MethodName := ⟨"java/lang/Math", "floorMod", "(II)I"⟩
abbrev mJ_floorMod : Md := (yJ_floorMod, prog_15_method_50_code, 3, some .int)
set_option maxRecDepth 20000 in
theorem miJ_floorMod : MJ mJ_floorMod 2 := ⟨gw 808 rfl rfl, gw 18 rfl rfl, by decide, by decide, by decide +kernel⟩
set_option maxRecDepth 20000 in
theorem mvJ_floorMod : Cond.static yJ_floorMod ∈ lw_good := gw 807 rfl rfl
def yJ_max : MethodName := ⟨"java/lang/Math", "max", "(II)I"⟩
abbrev mJ_max : Md := (yJ_max, prog_15_method_65_code, 2, some .int)
set_option maxRecDepth 20000 in
theorem miJ_max : MJ mJ_max 2 := ⟨gw 816 rfl rfl, gw 18 rfl rfl, by decide, by decide, by decide +kernel⟩
set_option maxRecDepth 20000 in
theorem mvJ_max : Cond.static yJ_max ∈ lw_good := gw 815 rfl rfl
def yJ_min : MethodName := ⟨"java/lang/Math", "min", "(II)I"⟩
abbrev mJ_min : Md := (yJ_min, prog_15_method_69_code, 2, some .int)
set_option maxRecDepth 20000 in
theorem miJ_min : MJ mJ_min 2 := ⟨gw 813 rfl rfl, gw 18 rfl rfl, by decide, by decide, by decide +kernel⟩
set_option maxRecDepth 20000 in
theorem mvJ_min : Cond.static yJ_min ∈ lw_good := gw 812 rfl rfl
set_option maxRecDepth 20000 in
theorem mlX11_1 : Cond.methodLink RX11 1 objectInit ∈ lw_good := gw 25 rfl rfl
set_option maxRecDepth 20000 in
theorem mlX11_306 : Cond.methodLink RX11 306 yJ_min ∈ lw_good := gw 1097 rfl rfl
set_option maxRecDepth 20000 in
theorem mlX11_311 : Cond.methodLink RX11 311 yJ_max ∈ lw_good := gw 1092 rfl rfl
set_option maxRecDepth 20000 in
theorem mlX0_1 : Cond.methodLink RX0 1 objectInit ∈ lw_good := gw 343 rfl rfl
set_option maxRecDepth 20000 in
theorem mlX1_1 : Cond.methodLink RX1 1 objectInit ∈ lw_good := gw 33 rfl rfl
set_option maxRecDepth 20000 in
theorem mlX2_3 : Cond.methodLink RX2 3 objectInit ∈ lw_good := gw 294 rfl rfl
set_option maxRecDepth 20000 in
theorem mlX3_3 : Cond.methodLink RX3 3 objectInit ∈ lw_good := gw 51 rfl rfl
set_option maxRecDepth 20000 in
theorem mlX3_27 : Cond.methodLink RX3 27 yJ_floorDiv ∈ lw_good := gw 803 rfl rfl
set_option maxRecDepth 20000 in
theorem mlX3_33 : Cond.methodLink RX3 33 yJ_floorMod ∈ lw_good := gw 806 rfl rfl
set_option maxRecDepth 20000 in
theorem mlX4_1 : Cond.methodLink RX4 1 objectInit ∈ lw_good := gw 394 rfl rfl
set_option maxRecDepth 20000 in
theorem mlX4_32 : Cond.methodLink RX4 32 yJ_min ∈ lw_good := gw 967 rfl rfl
set_option maxRecDepth 20000 in
theorem mlX5_1 : Cond.methodLink RX5 1 objectInit ∈ lw_good := gw 375 rfl rfl
set_option maxRecDepth 20000 in
theorem mlX6_3 : Cond.methodLink RX6 3 objectInit ∈ lw_good := gw 45 rfl rfl
set_option maxRecDepth 20000 in
theorem mlX7_3 : Cond.methodLink RX7 3 objectInit ∈ lw_good := gw 259 rfl rfl
set_option maxRecDepth 20000 in
theorem mlX8_1 : Cond.methodLink RX8 1 objectInit ∈ lw_good := gw 419 rfl rfl
set_option maxRecDepth 20000 in
theorem mlX8_40 : Cond.methodLink RX8 40 yJ_min ∈ lw_good := gw 918 rfl rfl
set_option maxRecDepth 20000 in
theorem mlX8_46 : Cond.methodLink RX8 46 yJ_max ∈ lw_good := gw 993 rfl rfl
set_option maxRecDepth 20000 in
theorem mlX9_3 : Cond.methodLink RX9 3 objectInit ∈ lw_good := gw 147 rfl rfl
set_option maxRecDepth 20000 in
theorem mlX10_3 : Cond.methodLink RX10 3 objectInit ∈ lw_good := gw 251 rfl rfl
set_option maxRecDepth 20000 in
theorem mlX10_156 : Cond.methodLink RX10 156 yJ_min ∈ lw_good := gw 811 rfl rfl
set_option maxRecDepth 20000 in
theorem mlX10_162 : Cond.methodLink RX10 162 yJ_max ∈ lw_good := gw 814 rfl rfl
set_option maxRecDepth 20000 in
theorem mlX12_1 : Cond.methodLink RX12 1 objectInit ∈ lw_good := gw 1174 rfl rfl
