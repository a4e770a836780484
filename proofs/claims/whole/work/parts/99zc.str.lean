/-! strings: length and charAt of the reader's own words -/
def Gd0 (G : Gx) : Gx := (0, 1, G.2.2)
theorem ad_id {G : Gx} {r : Nat} : ad (Gd0 G) r = r := by
  unfold ad Gd0
  split
  · rename_i z; exact z.symm
  · show 1 + (r - 1) = r; omega
theorem cv_id {G : Gx} (v : Value) : cv (Gd0 G) v = v := by
  cases v <;> first | rfl | (show Value.ref (ad (Gd0 G) _) = _; rw [ad_id])
theorem map_cvid {G : Gx} (l : List Value) : l.map (cv (Gd0 G)) = l := by
  induction l with
  | nil => rfl
  | cons a t ih => rw [List.map_cons, cv_id, ih]
def SFq (G : Gx) (q v : Nat) (U : State) : Prop := vk_S 1 [150] [sBy] (fun _ => q) (fun _ => v) (fun a => G.2.1 ≤ a) U U.heap ∧ va_Z "java/lang/String" "COMPACT_STRINGS" "Z" (.int 1) (fun a => G.2.1 ≤ a) U U.heap ∧ va_Zq "jdk/internal/util/Preconditions" "SIOOBE_FORMATTER" "Ljava/util/function/BiFunction;" (fun a => G.2.1 ≤ a) U U.heap
theorem SFq.warm {G : Gx} {q v : Nat} {s U : State} {locs : List Loc} (hW : s.WarmedH U.vm) (hS : va_S (fun q => G.2.1 ≤ q) s.heap U.heap locs) (h : SFq G q v s) : SFq G q v U := ⟨(h.1.moved hW.alike).kept hS.2.1, (h.2.1.moved hW.alike).kept hS.2.1, (h.2.2.moved hW.alike).kept hS.2.1⟩
theorem SFq.calling {G : Gx} {q v : Nat} {U : State} {g : JFrame} {mk : MethodId} {a : Array Value} (h : SFq G q v U) : SFq G q v (U.calling g mk a) :=
  ⟨vk_S.moved (u := U) (U := U.calling g mk a) (Vm.Alike.refl U.vm) h.1, va_Z.moved (u := U) (U := U.calling g mk a) (Vm.Alike.refl U.vm) h.2.1, va_Zq.moved (u := U) (U := U.calling g mk a) (Vm.Alike.refl U.vm) h.2.2⟩
def PcS (G : Gx) (as : List Value) (h : Hp) (q v : Nat) : Array Value → State → Prop := fun a U => a = as.toArray ∧ HR G U h U.heap ∧ Kn0 G U ∧ SFq G q v U
theorem PcS.blind {G : Gx} {as : List Value} {h : Hp} {q v : Nat} : FrameBlind (PcS G as h q v) := fun a U g mk z => ⟨z.1, HR.moved (u := U) (U := U.calling g mk a) (Vm.Alike.refl U.vm) z.2.1, z.2.2.1.calling, z.2.2.2.calling⟩
def ClS (l : Launch) (G : Gx) (d : Nat) (md : Md) (as : List Value) (h : Hp) (q v : Nat) (Q : Option Value → Hp → Prop) : Prop := Met l md.1 (wsm md) (rmd d 0 0) (PcS G as h q v) (QcOf G Q) 0 0 (fun q => G.2.1 ≤ q)
def WPs (l : Launch) (G : Gx) (Z : Zt) (md : Md) (R : Room) (pc : Nat) (L : List (Option Value)) (S : List Value) (h : Hp) (q v : Nat) : Prop :=
  ∀ (p : Program) (e : Env) (s : State) (m : MethodId) (args : Array Value) (below : List Frame) (meth : Method) (c : Code), Cx G md p s m args meth c → SFq G q v s → ∀ (ls : Array Slot) (H : Heap) (locs : List Loc) (cells slots : Nat), LR (Gd0 G) md.2.2.1 L ls → HR G s h H → va_S (fun q => G.2.1 ≤ q) s.heap H locs → cells + 0 ≤ R.cells → slots + 0 ≤ R.slots → W p l e R s m args below meth c H locs cells slots (Z below args s) (F0 m pc ls S)
set_option maxRecDepth 30000 in
theorem gw1914 : Cond.fieldLink "java/lang/String" 9 "java/lang/String" "value" "[B" ∈ lw_good := gw 1914 rfl rfl
set_option maxRecDepth 30000 in
theorem gw1915 : Cond.fieldLink "java/lang/String" 15 "java/lang/String" "coder" "B" ∈ lw_good := gw 1915 rfl rfl
section STG
variable {l : Launch} {G : Gx} {Z : Zt} {md : Md} {R : Room} {pc : Nat} {L : List (Option Value)} {S : List Value} {h : Hp} {q v : Nat}
theorem LR.raw {n i : Nat} {ls : Array Slot} {x : Value} (hl : LR (Gd0 G) n L ls) (hx : L[i]? = some (some x)) : ls[i]? = some (.val x) := by
  have := hl.2.2.2 i x hx
  rw [cv_id] at this
  exact this
theorem ClS.of {d : Nat} {as : List Value} {Q : Option Value → Hp → Prop} {L0 : List (Option Value)} (hy : plainFor md.1 = true) (hlen : Nat.ble (la as).length md.2.2.1 = true) (hL : la as ++ List.replicate (md.2.2.1 - (la as).length) none = L0) (k : WPs l G (Zq G 0 0 Q) md (rmd d 0 0) 0 L0 [] h q v) : ClS l G d md as h q v Q := by
  have hlen := Nat.le_of_ble_eq_true hlen
  refine va_MetF (cc := md.2.1) (maxL := md.2.2.1) (ret := md.2.2.2) hy rfl ?_
  intro p e s m args below meth c s₁ B hml hv
  obtain ⟨rfl, hR, hK, hSF⟩ := hv
  have hts := atoms_spec (ws := wsm md) B.pre
  have hown : s.vm.findClass md.1.cls = some m.cls := findClass_of_methodNamed B.named
  have hC : Cx G md p s m as.toArray meth c := ⟨B.exec, B.bytes, hml, B.returns, hown, fun w hw => hts w (List.mem_cons_of_mem _ hw), B.notSynchronized, (name_of_methodNamed B.named B.method).1, hK⟩
  have hll := la_len (G := Gd0 G) as
  rw [map_cvid] at hll
  have hl := lv_entry as (n := md.2.2.1) (by rw [hll]; exact hlen)
  rw [lg_entry_eq]
  have hLR : LR (Gd0 G) md.2.2.1 L0 (lg_sl as ++ List.replicate (md.2.2.1 - (lg_sl as).length) Slot.unset).toArray := by
    refine ⟨?_, hl.1, hl.2.1, fun i v hi => ?_⟩
    · rw [← hL, List.length_append, List.length_replicate]
      omega
    · have h1 : (la as)[i]? = some (some v) := by
        rw [← hL] at hi
        by_cases hlt : i < (la as).length
        · rwa [List.getElem?_append_left hlt] at hi
        · rw [List.getElem?_append_right (by omega), List.getElem?_replicate] at hi
          split at hi <;> cases hi
      have h2 := la_mem (G := Gd0 G) as 0 i v h1
      rw [Nat.zero_add, map_cvid] at h2
      exact hl.2.2 _ h2
  exact k p e s m _ below meth c hC hSF _ s.heap [] 0 0 hLR hR va_S.rf (Nat.zero_le _) (Nat.zero_le _)
theorem Q_iconst {n : Int} {x : Int32} (hd : decode md.2.1 pc = .ok (.iconst n, 1)) (hv : Int32.ofInt n = x) (k : WPs l G Z md R (pc + 1) L (.int x :: S) h q v) : WPs l G Z md R pc L S h q v := by
  intro p e s m args below meth c C hF ls H locs cells slots hl hh hs hc hk
  exact lv_iconst C.1 C.2.1 hd hv (k p e s m args below meth c C hF ls H locs cells slots hl hh hs hc hk)
theorem Q_sipush {n : Int} {x : Int32} (hd : decode md.2.1 pc = .ok (.sipush n, 3)) (hv : (Int16.ofInt n).toInt32 = x) (k : WPs l G Z md R (pc + 3) L (.int x :: S) h q v) : WPs l G Z md R pc L S h q v := by
  intro p e s m args below meth c C hF ls H locs cells slots hl hh hs hc hk
  exact lv_sipush C.1 C.2.1 hd hv (k p e s m args below meth c C hF ls H locs cells slots hl hh hs hc hk)
theorem Q_iand {x y : Int32} (hd : decode md.2.1 pc = .ok (.iand, 1)) (k : WPs l G Z md R (pc + 1) L (.int (x &&& y) :: S) h q v) : WPs l G Z md R pc L (.int y :: .int x :: S) h q v := by
  intro p e s m args below meth c C hF ls H locs cells slots hl hh hs hc hk
  exact lv_iand C.1 C.2.1 hd (k p e s m args below meth c C hF ls H locs cells slots hl hh hs hc hk)
theorem Q_ishr {x y : Int32} (hd : decode md.2.1 pc = .ok (.ishr, 1)) (k : WPs l G Z md R (pc + 1) L (.int (x >>> (y &&& 31)) :: S) h q v) : WPs l G Z md R pc L (.int y :: .int x :: S) h q v := by
  intro p e s m args below meth c C hF ls H locs cells slots hl hh hs hc hk
  exact lv_ishr C.1 C.2.1 hd (k p e s m args below meth c C hF ls H locs cells slots hl hh hs hc hk)
theorem Q_i2c {x y : Int32} (hd : decode md.2.1 pc = .ok (.i2c, 1)) (hv : (x.toUInt32 % 65536).toInt32 = y) (k : WPs l G Z md R (pc + 1) L (.int y :: S) h q v) : WPs l G Z md R pc L (.int x :: S) h q v := by
  intro p e s m args below meth c C hF ls H locs cells slots hl hh hs hc hk
  exact lv_i2c C.1 C.2.1 hd hv (k p e s m args below meth c C hF ls H locs cells slots hl hh hs hc hk)
theorem Q_pop {x : Int32} (hd : decode md.2.1 pc = .ok (.pop, 1)) (k : WPs l G Z md R (pc + 1) L S h q v) : WPs l G Z md R pc L (.int x :: S) h q v := by
  intro p e s m args below meth c C hF ls H locs cells slots hl hh hs hc hk
  exact lv_pop C.1 C.2.1 hd rfl (k p e s m args below meth c C hF ls H locs cells slots hl hh hs hc hk)
theorem Q_goto {off : Int} {tgt : Nat} (hd : decode md.2.1 pc = .ok (.goto off, 3)) (ht : (pc : Int) + off = (tgt : Int)) (k : WPs l G Z md R tgt L S h q v) : WPs l G Z md R pc L S h q v := by
  intro p e s m args below meth c C hF ls H locs cells slots hl hh hs hc hk
  exact lv_goto C.1 C.2.1 hd ht (k p e s m args below meth c C hF ls H locs cells slots hl hh hs hc hk)
theorem Q_if_eq {x : Int32} {off : Int} {tgt : Nat} (hd : decode md.2.1 pc = .ok (.ifCond .eq off, 3)) (ht : (pc : Int) + off = (tgt : Int)) (kt : x = 0 → WPs l G Z md R tgt L S h q v) (kf : ¬ x = 0 → WPs l G Z md R (pc + 3) L S h q v) : WPs l G Z md R pc L (.int x :: S) h q v := by
  intro p e s m args below meth c C hF ls H locs cells slots hl hh hs hc hk
  exact lv_if_eq C.1 C.2.1 hd ht (fun z => kt z p e s m args below meth c C hF ls H locs cells slots hl hh hs hc hk) (fun z => kf z p e s m args below meth c C hF ls H locs cells slots hl hh hs hc hk)
theorem Q_if_ne {x : Int32} {off : Int} {tgt : Nat} (hd : decode md.2.1 pc = .ok (.ifCond .ne off, 3)) (ht : (pc : Int) + off = (tgt : Int)) (kt : ¬ x = 0 → WPs l G Z md R tgt L S h q v) (kf : x = 0 → WPs l G Z md R (pc + 3) L S h q v) : WPs l G Z md R pc L (.int x :: S) h q v := by
  intro p e s m args below meth c C hF ls H locs cells slots hl hh hs hc hk
  exact lv_if_ne C.1 C.2.1 hd ht (fun z => kt z p e s m args below meth c C hF ls H locs cells slots hl hh hs hc hk) (fun z => kf z p e s m args below meth c C hF ls H locs cells slots hl hh hs hc hk)
theorem Q_if_lt {x : Int32} {off : Int} {tgt : Nat} (hd : decode md.2.1 pc = .ok (.ifCond .lt off, 3)) (ht : (pc : Int) + off = (tgt : Int)) (kt : x < 0 → WPs l G Z md R tgt L S h q v) (kf : ¬ x < 0 → WPs l G Z md R (pc + 3) L S h q v) : WPs l G Z md R pc L (.int x :: S) h q v := by
  intro p e s m args below meth c C hF ls H locs cells slots hl hh hs hc hk
  exact lv_if_lt C.1 C.2.1 hd ht (fun z => kt z p e s m args below meth c C hF ls H locs cells slots hl hh hs hc hk) (fun z => kf z p e s m args below meth c C hF ls H locs cells slots hl hh hs hc hk)
theorem Q_icmp_lt {x y : Int32} {off : Int} {tgt : Nat} (hd : decode md.2.1 pc = .ok (.if_icmp .lt off, 3)) (ht : (pc : Int) + off = (tgt : Int)) (kt : x < y → WPs l G Z md R tgt L S h q v) (kf : ¬ x < y → WPs l G Z md R (pc + 3) L S h q v) : WPs l G Z md R pc L (.int y :: .int x :: S) h q v := by
  intro p e s m args below meth c C hF ls H locs cells slots hl hh hs hc hk
  exact lv_icmp_lt C.1 C.2.1 hd ht (fun z => kt z p e s m args below meth c C hF ls H locs cells slots hl hh hs hc hk) (fun z => kf z p e s m args below meth c C hF ls H locs cells slots hl hh hs hc hk)
theorem Q_iload_n {j : Fin 4} {i : Nat} {x : Int32} (hd : decode md.2.1 pc = .ok (.iload_n j, 1)) (hi : (j : Nat) = i) (hx : L[i]? = some (some (.int x))) (k : WPs l G Z md R (pc + 1) L (.int x :: S) h q v) : WPs l G Z md R pc L S h q v := by
  intro p e s m args below meth c C hF ls H locs cells slots hl hh hs hc hk
  exact lv_iload_n C.1 C.2.1 hd hi (hl.raw hx) (k p e s m args below meth c C hF ls H locs cells slots hl hh hs hc hk)
theorem Q_aload_n {j : Fin 4} {i : Nat} {x : Nat} (hd : decode md.2.1 pc = .ok (.aload_n j, 1)) (hi : (j : Nat) = i) (hx : L[i]? = some (some (.ref x))) (k : WPs l G Z md R (pc + 1) L (.ref x :: S) h q v) : WPs l G Z md R pc L S h q v := by
  intro p e s m args below meth c C hF ls H locs cells slots hl hh hs hc hk
  exact lv_aload_n C.1 C.2.1 hd hi (hl.raw hx) (k p e s m args below meth c C hF ls H locs cells slots hl hh hs hc hk)
theorem Q_gets (hc0 : md.1.cls = "java/lang/String") (hd : decode md.2.1 pc = .ok (.getstatic 38, 3)) (k : WPs l G Z md R (pc + 3) L (.int 1 :: S) h q v) : WPs l G Z md R pc L S h q v := by
  intro p e s m args below meth c C hF ls H locs cells slots hl hh hs hc hk
  exact va_gets C.1 C.2.1 hF.2.1 hs (by rw [← hc0]; exact C.2.2.2.2.1) (C.2.2.2.2.2.1 _ (gw 157 rfl rfl)) (fun x z => z) hd (k p e s m args below meth c C hF ls H locs cells slots hl hh hs hc hk)
theorem Q_getq (hc0 : md.1.cls = "java/lang/String") (hd : decode md.2.1 pc = .ok (.getstatic 1053, 3)) (k : ∀ x : Value, x = .null ∨ (∃ t, x = .ref t) → WPs l G Z md R (pc + 3) L (x :: S) h q v) : WPs l G Z md R pc L S h q v := by
  intro p e s m args below meth c C hF ls H locs cells slots hl hh hs hc hk
  rcases hF.2.2 with z | ⟨t, z⟩
  · exact va_gets C.1 C.2.1 z hs (by rw [← hc0]; exact C.2.2.2.2.1) (C.2.2.2.2.2.1 _ (gw 173 rfl rfl)) (fun x z => z) hd (k _ (Or.inl rfl) p e s m args below meth c C hF ls H locs cells slots hl hh hs hc hk)
  · exact va_gets C.1 C.2.1 z hs (by rw [← hc0]; exact C.2.2.2.2.1) (C.2.2.2.2.2.1 _ (gw 173 rfl rfl)) (fun x z => z) hd (k _ (Or.inr ⟨t, rfl⟩) p e s m args below meth c C hF ls H locs cells slots hl hh hs hc hk)
theorem Q_getv (hc0 : md.1.cls = "java/lang/String") (hd : decode md.2.1 pc = .ok (.getfield 9, 3)) (k : WPs l G Z md R (pc + 3) L (.ref v :: S) h q v) : WPs l G Z md R pc L (.ref q :: S) h q v := by
  intro p e s m args below meth c C hF ls H locs cells slots hl hh hs hc hk
  exact vk_getf C.1 C.2.1 (hF.1.1 0 (by decide)).2.2.1 hs (by rw [← hc0]; exact C.2.2.2.2.1) (C.2.2.2.2.2.1 _ gw1914) (fun x z => z) hd (k p e s m args below meth c C hF ls H locs cells slots hl hh hs hc hk)
theorem Q_getc (hc0 : md.1.cls = "java/lang/String") (hd : decode md.2.1 pc = .ok (.getfield 15, 3)) (k : WPs l G Z md R (pc + 3) L (.int 0 :: S) h q v) : WPs l G Z md R pc L (.ref q :: S) h q v := by
  intro p e s m args below meth c C hF ls H locs cells slots hl hh hs hc hk
  exact vk_getf C.1 C.2.1 (hF.1.1 0 (by decide)).2.1 hs (by rw [← hc0]; exact C.2.2.2.2.1) (C.2.2.2.2.2.1 _ gw1915) (fun x z => z) hd (k p e s m args below meth c C hF ls H locs cells slots hl hh hs hc hk)
theorem Q_alen (hd : decode md.2.1 pc = .ok (.arraylength, 1)) (k : WPs l G Z md R (pc + 1) L (.int (nI 150) :: S) h q v) : WPs l G Z md R pc L (.ref v :: S) h q v := by
  intro p e s m args below meth c C hF ls H locs cells slots hl hh hs hc hk
  exact va_tlen C.1 C.2.1 (hF.1.1 0 (by decide)).2.2.2 hs rfl hd (k p e s m args below meth c C hF ls H locs cells slots hl hh hs hc hk)
theorem Q_baload {i : Nat} (hi : i < 150) (hd : decode md.2.1 pc = .ok (.baload, 1)) (k : WPs l G Z md R (pc + 1) L (.int (sBy.getD i 0) :: S) h q v) : WPs l G Z md R pc L (.int (nI i) :: .ref v :: S) h q v := by
  intro p e s m args below meth c C hF ls H locs cells slots hl hh hs hc hk
  exact va_tb C.1 C.2.1 (hF.1.1 0 (by decide)).2.2.2 hs (vp_in_nI hi (by decide)) (by rw [clN (by omega)]; rfl) hd (k p e s m args below meth c C hF ls H locs cells slots hl hh hs hc hk)
theorem Q_ret {x : Int32} {ty : FieldType} {Q : Option Value → Hp → Prop} (hd : decode md.2.1 pc = .ok (.ireturn, 1)) (hr : md.2.2.2 = some ty) (hn : narrow ty (.int x) = .int x) (hq : Q (some (.int x)) h) : WPs l G (Zq G R.cells R.slots Q) md R pc L [.int x] h q v := by
  intro p e s m args below meth c C hF ls H locs cells slots hL hh hS hc hk
  refine W.widen (k := R.cells) (n := R.slots) (by omega) (by omega) ?_
  exact W.zret C.1 C.2.1 (C.2.2.2.1.trans hr) hn (fun t ht hW => ⟨some (.int x), h, rfl, hq, by rw [ht]; exact hh.moved hW.alike, hS.F ht⟩) hS.2.2 hd (hlocks := C.2.2.2.2.2.2.1)
theorem Q_vret {Q : Option Value → Hp → Prop} (hd : decode md.2.1 pc = .ok (.return_, 1)) (hr : md.2.2.2 = none) (hq : Q none h) : WPs l G (Zq G R.cells R.slots Q) md R pc L [] h q v := by
  intro p e s m args below meth c C hF ls H locs cells slots hL hh hS hc hk
  refine W.widen (k := R.cells) (n := R.slots) (by omega) (by omega) ?_
  exact W.vret C.1 C.2.1 (C.2.2.2.1.trans hr) (fun t ht hW => ⟨none, h, rfl, hq, by rw [ht]; exact hh.moved hW.alike, hS.F ht⟩) hS.2.2 hd (hlocks := C.2.2.2.2.2.2.1)
/-- a call on the string -/
theorem Q_runV {md' : Md} {d n idx : Nat} {As rest : List Value} {Q : Option Value → Hp → Prop} {p : Program} {e : Env} {s : State} {m : MethodId} {args : Array Value} {below : List Frame} {meth : Method} {c : Code} {ls : Array Slot} {H : Heap} {locs : List Loc} {cells slots : Nat} (hd : decode md.2.1 pc = .ok (.invokevirtual idx, 3)) (hM : MJ md' n) (hV : MV md') (hcl : md'.1.cls = "java/lang/String") (hl : Cond.methodLink md.1.cls idx md'.1 ∈ lw_good) (hn : As.length = n) (hW : ((rest.map fun v => v.category).sum) ≤ 8) (hR : RmOK R d md') (hC : ClS l G d md' (.ref q :: As) h q v Q)
    (C : Cx G md p s m args meth c) (hF : SFq G q v s) (hsz : ls.size = md.2.2.1) (hh : HR G s h H) (hS : va_S (fun q => G.2.1 ≤ q) s.heap H locs) (hc : cells ≤ R.cells) (hk : slots ≤ R.slots) : va_Run p l e R s m args below meth c H locs cells slots 0 0 (F0 m pc ls (As.reverse ++ .ref q :: rest)) rest (QcOf G Q (Value.ref q :: As).toArray) (fun q => G.2.1 ≤ q) := by
  have hts := C.2.2.2.2.2.1
  have hG0 : GoodIn lw_good (wsV md.1.cls idx md'.1.cls md'.1 (wsm md')) := good_good (fun w hw => by
    unfold wsV wsm at hw
    rcases List.mem_append.mp hw with hw | hw
    · simp only [List.mem_cons, List.not_mem_nil, or_false] at hw
      rcases hw with rfl | rfl | rfl | rfl
      · exact hl
      · exact hV.1
      · exact hV.2
      · exact hM.2.1
    · rcases List.mem_cons.mp hw with rfl | hw
      · exact hM.1
      · exact hw)
  have cw := cwV (R := R) (rm := rmd d 0 0) n hts hG0 rfl rfl rfl ⟨rfl, hM.2.2⟩ hR
  obtain ⟨cell, q1, q2, q3⟩ := vk_recv hF.1 (i := 0) (by decide) hS
  exact va_runV (p := p) (e := e) (m := m) (below := below) (meth := meth) (c := c) (cc := md.2.1) (nL := md.2.2.1) (H := H) (locs := locs) (cells := cells) (slots := slots) (b := q) (As := As) (rest := rest) (g := F0 m pc ls (As.reverse ++ .ref q :: rest)) ⟨C.1, C.2.1, C.2.2.1, C.2.2.2.2.1, hts⟩ hC cw
    ⟨PcS.blind, ⟨cell, q1, q2, by rw [hcl]; exact q3⟩, fun U hU hWm => ⟨rfl, by rw [hU]; exact hh.moved hWm.alike, C.2.2.2.2.2.2.2.2.warm hWm (by rw [hU]; exact hS), hF.warm hWm (by rw [hU]; exact hS)⟩⟩ rfl hn hsz rfl (lv_room hW) hd ⟨by omega, by omega⟩
theorem Q_callV {md' : Md} {d n idx : Nat} {As : List Value} {Q : Option Value → Hp → Prop} (hd : decode md.2.1 pc = .ok (.invokevirtual idx, 3)) (hM : MJ md' n) (hV : MV md') (hcl : md'.1.cls = "java/lang/String") (hl : Cond.methodLink md.1.cls idx md'.1 ∈ lw_good) (hn : As.length = n) (hW : Nat.ble ((S.map fun v => v.category).sum) 8 = true) (hR : RmOK R d md') (hC : ClS l G d md' (.ref q :: As) h q v Q) (kk : ∀ (x : Option Value) (h' : Hp), Q x h' → WPs l G Z md R (pc + 3) L ((x.map (cv G)).toList ++ S) h' q v) : WPs l G Z md R pc L (As.reverse ++ .ref q :: S) h q v := by
  intro p e s m args below meth c C hF ls H locs cells slots hL hh hS hc hk
  have hrun := Q_runV (e := e) (below := below) (rest := S) hd hM hV hcl hl hn (Nat.le_of_ble_eq_true hW) hR hC C hF hL.2.1 hh hS hc hk
  exact callQ hrun hS (fun x h' H1 locs1 hQ hh1 hS1 => kk x h' hQ p e s m args below meth c C hF ls H1 locs1 (cells + 0) (slots + 0) hL hh1 hS1 (by omega) (by omega))
theorem Q_callS {md' : Md} {d n idx : Nat} {As : List Value} {Q : Option Value → Hp → Prop} (hd : decode md.2.1 pc = .ok (.invokestatic idx, 3)) (hM : MJ md' n) (hV : Cond.static md'.1 ∈ lw_good) (hl : Cond.methodLink md.1.cls idx md'.1 ∈ lw_good) (hn : As.length = n) (hW : Nat.ble ((S.map fun v => v.category).sum) 8 = true) (hR : RmOK R d md') (hC : ClS l G d md' As h q v Q) (kk : ∀ (x : Option Value) (h' : Hp), Q x h' → WPs l G Z md R (pc + 3) L ((x.map (cv G)).toList ++ S) h' q v) : WPs l G Z md R pc L (As.reverse ++ S) h q v := by
  intro p e s m args below meth c C hF ls H locs cells slots hL hh hS hc hk
  have hts := C.2.2.2.2.2.1
  have hG0 : GoodIn lw_good (wsm md') := good_good (fun w hw => by
    unfold wsm at hw
    rcases List.mem_cons.mp hw with rfl | hw
    · exact hM.1
    · exact hw)
  have cw := callB_of (R := R) (rm := rmd d 0 0) (own := md.1.cls) (index := idx) n hts hG0 rfl rfl rfl (hts _ hM.2.1) (hts _ hl) hM.2.2 hR
  have hrun := va_runS (p := p) (e := e) (m := m) (below := below) (meth := meth) (c := c) (cc := md.2.1) (nL := md.2.2.1) (H := H) (locs := locs) (cells := cells) (slots := slots) (As := As) (rest := S) (g := F0 m pc ls (As.reverse ++ S)) ⟨C.1, C.2.1, C.2.2.1, C.2.2.2.2.1, hts⟩ hC ⟨cw, hts _ hV⟩
    ⟨PcS.blind, fun U hU hWm => ⟨rfl, by rw [hU]; exact hh.moved hWm.alike, C.2.2.2.2.2.2.2.2.warm hWm (by rw [hU]; exact hS), hF.warm hWm (by rw [hU]; exact hS)⟩⟩ rfl hn hL.2.1 rfl (lv_room (Nat.le_of_ble_eq_true hW)) hd ⟨by omega, by omega⟩
  exact callQ hrun hS (fun x h' H1 locs1 hQ hh1 hS1 => kk x h' hQ p e s m args below meth c C hF ls H1 locs1 (cells + 0) (slots + 0) hL hh1 hS1 (by omega) (by omega))
end STG
/-! the methods -/
def yS_len : MethodName := { cls := "java/lang/String", name := "length", desc := "()I" }
def yS_cod : MethodName := { cls := "java/lang/String", name := "coder", desc := "()B" }
def yS_chr : MethodName := { cls := "java/lang/String", name := "charAt", desc := "(I)C" }
def yS_lat : MethodName := { cls := "java/lang/String", name := "isLatin1", desc := "()Z" }
def yS_lch : MethodName := { cls := "java/lang/StringLatin1", name := "charAt", desc := "([BI)C" }
def yS_chk : MethodName := { cls := "java/lang/String", name := "checkIndex", desc := "(II)V" }
def yS_pck : MethodName := { cls := "jdk/internal/util/Preconditions", name := "checkIndex", desc := "(IILjava/util/function/BiFunction;)I" }
abbrev mS_len : Md := (yS_len, prog_16_method_54_code, 1, some .int)
abbrev mS_cod : Md := (yS_cod, prog_16_method_152_code, 1, some .byte)
abbrev mS_chr : Md := (yS_chr, prog_16_method_56_code, 2, some .char)
abbrev mS_lat : Md := (yS_lat, prog_16_method_154_code, 1, some .boolean)
abbrev mS_lch : Md := (yS_lch, prog_17_method_2_code, 2, some .char)
abbrev mS_chk : Md := (yS_chk, prog_16_method_155_code, 2, none)
abbrev mS_pck : Md := (yS_pck, prog_20_method_11_code, 3, some .int)
theorem miS_len : MJ mS_len 0 := ⟨gw 152 rfl rfl, gw 6 rfl rfl, by decide, by decide, by decide +kernel⟩
theorem miS_cod : MJ mS_cod 0 := ⟨gw 156 rfl rfl, gw 6 rfl rfl, by decide, by decide, by decide +kernel⟩
theorem miS_chr : MJ mS_chr 1 := ⟨gw 162 rfl rfl, gw 6 rfl rfl, by decide, by decide, by decide +kernel⟩
theorem miS_lat : MJ mS_lat 0 := ⟨gw 166 rfl rfl, gw 6 rfl rfl, by decide, by decide, by decide +kernel⟩
theorem miS_lch : MJ mS_lch 2 := ⟨gw 169 rfl rfl, gw 7 rfl rfl, by decide, by decide, by decide +kernel⟩
theorem miS_chk : MJ mS_chk 2 := ⟨gw 172 rfl rfl, gw 6 rfl rfl, by decide, by decide, by decide +kernel⟩
theorem miS_pck : MJ mS_pck 3 := ⟨gw 177 rfl rfl, gw 8 rfl rfl, by decide, by decide, by decide +kernel⟩
theorem mvS_len : MV mS_len := ⟨gw 150 rfl rfl, gw 151 rfl rfl⟩
theorem mvS_cod : MV mS_cod := ⟨gw 154 rfl rfl, gw 155 rfl rfl⟩
theorem mvS_chr : MV mS_chr := ⟨gw 160 rfl rfl, gw 161 rfl rfl⟩
theorem mvS_lat : MV mS_lat := ⟨gw 164 rfl rfl, gw 165 rfl rfl⟩
def chS (i : Nat) : Int32 := sBy.getD i 0
theorem chS_c : ∀ i, i < 150 → ((chS i &&& 255).toUInt32 % 65536).toInt32 = chS i := by decide +kernel
theorem chS_n : ∀ i, i < 150 → (chS i).toUInt32.toUInt16.toUInt32.toInt32 = chS i := by decide +kernel
section SMT
variable {l : Launch} {G : Gx} {d : Nat} {h : Hp} {q v : Nat}
theorem D_cod : ClS l G d mS_cod [.ref q] h q v (fun r h' => r = some (.int 0) ∧ h' = h) := by
  refine ClS.of (L0 := [some (.ref q)]) (by decide +kernel) rfl rfl ?_
  refine Q_gets (pc := 0) rfl (by decide +kernel) ?_
  refine Q_if_eq (pc := 3) (off := 10) (tgt := 13) (by decide +kernel) rfl (fun z => absurd z (by decide)) (fun _ => ?_)
  refine Q_aload_n (pc := 6) (j := 0) (by decide +kernel) rfl rfl ?_
  refine Q_getc (pc := 7) rfl (by decide +kernel) ?_
  refine Q_goto (pc := 10) (off := 4) (tgt := 14) (by decide +kernel) rfl ?_
  exact Q_ret (pc := 14) (R := rmd d 0 0) (ty := .byte) (by decide +kernel) rfl rfl ⟨rfl, rfl⟩
theorem D_len : ClS l G (d + 1) mS_len [.ref q] h q v (fun r h' => r = some (.int (nI 150)) ∧ h' = h) := by
  refine ClS.of (L0 := [some (.ref q)]) (by decide +kernel) rfl rfl ?_
  refine Q_aload_n (pc := 0) (j := 0) (by decide +kernel) rfl rfl ?_
  refine Q_getv (pc := 1) rfl (by decide +kernel) ?_
  refine Q_alen (pc := 4) (by decide +kernel) ?_
  refine Q_aload_n (pc := 5) (j := 0) (by decide +kernel) rfl rfl ?_
  refine Q_callV (pc := 6) (As := []) (by decide +kernel) miS_cod mvS_cod rfl (gw 153 rfl rfl) rfl rfl (RmOK.of rfl) D_cod ?_
  rintro _ _ ⟨rfl, rfl⟩
  refine Q_ishr (x := nI 150) (y := 0) (pc := 9) (by decide +kernel) ?_
  have e : nI 150 >>> ((0 : Int32) &&& 31) = nI 150 := by decide
  rw [e]
  exact Q_ret (pc := 10) (R := rmd (d + 1) 0 0) (ty := .int) (by decide +kernel) rfl rfl ⟨rfl, rfl⟩
theorem D_lat : ClS l G d mS_lat [.ref q] h q v (fun r h' => r = some (.int 1) ∧ h' = h) := by
  refine ClS.of (L0 := [some (.ref q)]) (by decide +kernel) rfl rfl ?_
  refine Q_gets (pc := 0) rfl (by decide +kernel) ?_
  refine Q_if_eq (pc := 3) (off := 14) (tgt := 17) (by decide +kernel) rfl (fun z => absurd z (by decide)) (fun _ => ?_)
  refine Q_aload_n (pc := 6) (j := 0) (by decide +kernel) rfl rfl ?_
  refine Q_getc (pc := 7) rfl (by decide +kernel) ?_
  refine Q_if_ne (pc := 10) (off := 7) (tgt := 17) (by decide +kernel) rfl (fun z => absurd rfl z) (fun _ => ?_)
  refine Q_iconst (pc := 13) (n := 1) (x := 1) (by decide +kernel) rfl ?_
  refine Q_goto (pc := 14) (off := 4) (tgt := 18) (by decide +kernel) rfl ?_
  exact Q_ret (pc := 18) (R := rmd d 0 0) (ty := .boolean) (by decide +kernel) rfl rfl ⟨rfl, rfl⟩
theorem D_pck {i : Nat} {x : Value} (hi : i < 150) (hx : x = .null ∨ ∃ t, x = .ref t) : ClS l G d mS_pck [.int (nI i), .int (nI 150), x] h q v (fun r h' => r = some (.int (nI i)) ∧ h' = h) := by
  have hcat : x.category = 1 := by rcases hx with rfl | ⟨t, rfl⟩ <;> rfl
  have hla : la [.int (nI i), .int (nI 150), x] = [some (.int (nI i)), some (.int (nI 150)), some x] := by
    show some _ :: some _ :: (if x.category = 2 then some x :: none :: la [] else some x :: la []) = _
    rw [hcat]; rfl
  refine ClS.of (L0 := [some (.int (nI i)), some (.int (nI 150)), some x]) (by decide +kernel) (by rw [hla]; rfl) (by rw [hla]; rfl) ?_
  refine Q_iload_n (pc := 0) (j := 0) (by decide +kernel) rfl rfl ?_
  refine Q_if_lt (pc := 1) (off := 8) (tgt := 9) (by decide +kernel) rfl (fun z => absurd z (nI_pos (by omega))) (fun _ => ?_)
  refine Q_iload_n (pc := 4) (j := 0) (by decide +kernel) rfl rfl ?_
  refine Q_iload_n (pc := 5) (j := 1) (by decide +kernel) rfl rfl ?_
  refine Q_icmp_lt (pc := 6) (off := 10) (tgt := 16) (by decide +kernel) rfl (fun _ => ?_) (fun z => absurd (nI_lt hi (by decide)) z)
  refine Q_iload_n (pc := 16) (j := 0) (by decide +kernel) rfl rfl ?_
  exact Q_ret (pc := 17) (R := rmd d 0 0) (ty := .int) (by decide +kernel) rfl rfl ⟨rfl, rfl⟩
theorem D_chk {i : Nat} (hi : i < 150) : ClS l G (d + 1) mS_chk [.int (nI i), .int (nI 150)] h q v (fun r h' => r = none ∧ h' = h) := by
  refine ClS.of (L0 := [some (.int (nI i)), some (.int (nI 150))]) (by decide +kernel) rfl rfl ?_
  refine Q_iload_n (pc := 0) (j := 0) (by decide +kernel) rfl rfl ?_
  refine Q_iload_n (pc := 1) (j := 1) (by decide +kernel) rfl rfl ?_
  refine Q_getq (pc := 2) rfl (by decide +kernel) (fun x hx => ?_)
  refine Q_callS (pc := 5) (As := [.int (nI i), .int (nI 150), x]) (S := []) (by decide +kernel) miS_pck (gw 176 rfl rfl) (gw 175 rfl rfl) rfl rfl (RmOK.of rfl) (D_pck hi hx) ?_
  rintro _ _ ⟨rfl, rfl⟩
  refine Q_pop (x := nI i) (pc := 8) (by decide +kernel) ?_
  exact Q_vret (pc := 9) (R := rmd (d + 1) 0 0) (by decide +kernel) rfl ⟨rfl, rfl⟩
theorem D_lch {i : Nat} (hi : i < 150) : ClS l G (d + 2) mS_lch [.ref v, .int (nI i)] h q v (fun r h' => r = some (.int (chS i)) ∧ h' = h) := by
  refine ClS.of (L0 := [some (.ref v), some (.int (nI i))]) (by decide +kernel) rfl rfl ?_
  refine Q_iload_n (pc := 0) (j := 1) (by decide +kernel) rfl rfl ?_
  refine Q_aload_n (pc := 1) (j := 0) (by decide +kernel) rfl rfl ?_
  refine Q_alen (pc := 2) (by decide +kernel) ?_
  refine Q_callS (pc := 3) (As := [.int (nI i), .int (nI 150)]) (S := []) (by decide +kernel) miS_chk (gw 171 rfl rfl) (gw 170 rfl rfl) rfl rfl (RmOK.of rfl) (D_chk hi) ?_
  rintro _ _ ⟨rfl, rfl⟩
  refine Q_aload_n (pc := 6) (j := 0) (by decide +kernel) rfl rfl ?_
  refine Q_iload_n (pc := 7) (j := 1) (by decide +kernel) rfl rfl ?_
  refine Q_baload (pc := 8) hi (by decide +kernel) ?_
  refine Q_sipush (pc := 9) (n := 255) (x := 255) (by decide +kernel) rfl ?_
  refine Q_iand (pc := 12) (by decide +kernel) ?_
  refine Q_i2c (y := chS i) (pc := 13) (by decide +kernel) (chS_c i hi) ?_
  exact Q_ret (pc := 14) (R := rmd (d + 2) 0 0) (ty := .char) (by decide +kernel) rfl (congrArg Value.int (chS_n i hi)) ⟨rfl, rfl⟩
theorem D_chr {i : Nat} (hi : i < 150) : ClS l G (d + 3) mS_chr [.ref q, .int (nI i)] h q v (fun r h' => r = some (.int (chS i)) ∧ h' = h) := by
  refine ClS.of (L0 := [some (.ref q), some (.int (nI i))]) (by decide +kernel) rfl rfl ?_
  refine Q_aload_n (pc := 0) (j := 0) (by decide +kernel) rfl rfl ?_
  refine Q_callV (pc := 1) (As := []) (by decide +kernel) miS_lat mvS_lat rfl (gw 163 rfl rfl) rfl rfl (RmOK.of rfl) D_lat ?_
  rintro _ _ ⟨rfl, rfl⟩
  refine Q_if_eq (x := 1) (pc := 4) (off := 12) (tgt := 16) (by decide +kernel) rfl (fun z => absurd z (by decide)) (fun _ => ?_)
  refine Q_aload_n (pc := 7) (j := 0) (by decide +kernel) rfl rfl ?_
  refine Q_getv (pc := 8) rfl (by decide +kernel) ?_
  refine Q_iload_n (pc := 11) (j := 1) (by decide +kernel) rfl rfl ?_
  refine Q_callS (pc := 12) (As := [.ref v, .int (nI i)]) (S := []) (by decide +kernel) miS_lch (gw 168 rfl rfl) (gw 167 rfl rfl) rfl rfl (RmOK.of rfl) (D_lch hi) ?_
  rintro _ _ ⟨rfl, rfl⟩
  exact Q_ret (x := chS i) (pc := 15) (R := rmd (d + 3) 0 0) (ty := .char) (by decide +kernel) rfl (congrArg Value.int (chS_n i hi)) ⟨rfl, rfl⟩
end SMT
/-! in the class' reader -/
section SRD
variable {l : Launch} {G : Gx} {Z : Zt} {md : Md} {R : Room} {kc ks pc d : Nat} {L : List (Option Value)} {S : List Value} {h : Hp}
theorem S_strLen (hcls : md.1.cls = RX9) (hd : decode md.2.1 pc = .ok (.ldc 31, 2)) (hd2 : decode md.2.1 (pc + 2) = .ok (.invokevirtual 33, 3)) (hW : Nat.ble ((S.map fun v => v.category).sum) 8 = true) (hR : RmOK R (d + 1) mS_len) (k : WP l G Z md R kc ks (pc + 2 + 3) L (.int (nI 150) :: S) h) : WP l G Z md R kc ks pc L S h := by
  intro p e s m args below meth c C ls H locs cells slots hL hh hS hc hk
  obtain ⟨q, v, h1, h2, h3, h4⟩ := C.2.2.2.2.2.2.2.2.2.2.2.2.2.2.2
  have hF : SFq G q v s := ⟨h2, h3, h4⟩
  refine va_ldcS C.1 C.2.1 (by rw [← hcls]; exact C.2.2.2.2.1) h1 hd ?_
  have hrun := Q_runV (e := e) (below := below) (cells := cells) (slots := slots) (pc := pc + 2) (As := []) (rest := S.map (cv G)) hd2 miS_len mvS_len rfl (by rw [hcls]; exact gw 149 rfl rfl) rfl (by rw [cv_cats]; exact Nat.le_of_ble_eq_true hW) hR (D_len (l := l) (d := d) (h := h)) C hF hL.2.1 hh hS (by omega) (by omega)
  refine callQ hrun hS (fun x h' H1 locs1 hQ hh1 hS1 => ?_)
  obtain ⟨rfl, rfl⟩ := hQ
  exact k p e s m args below meth c C ls H1 locs1 (cells + 0) (slots + 0) hL hh1 hS1 (by omega) (by omega)
theorem S_strChr {i j : Nat} (hi : i < 150) (hcls : md.1.cls = RX9) (hd : decode md.2.1 pc = .ok (.ldc 31, 2)) (hd1 : decode md.2.1 (pc + 2) = .ok (.iload j, 2)) (hj : L[j]? = some (some (.int (nI i)))) (hd2 : decode md.2.1 (pc + 2 + 2) = .ok (.invokevirtual 39, 3)) (hW : Nat.ble ((S.map fun v => v.category).sum) 8 = true) (hR : RmOK R (d + 3) mS_chr) (k : WP l G Z md R kc ks (pc + 2 + 2 + 3) L (.int (chS i) :: S) h) : WP l G Z md R kc ks pc L S h := by
  intro p e s m args below meth c C ls H locs cells slots hL hh hS hc hk
  obtain ⟨q, v, h1, h2, h3, h4⟩ := C.2.2.2.2.2.2.2.2.2.2.2.2.2.2.2
  have hF : SFq G q v s := ⟨h2, h3, h4⟩
  refine va_ldcS C.1 C.2.1 (by rw [← hcls]; exact C.2.2.2.2.1) h1 hd ?_
  refine lv_iload C.1 C.2.1 hd1 (hL.2.2.2 _ _ hj) ?_
  have hrun := Q_runV (e := e) (below := below) (cells := cells) (slots := slots) (pc := pc + 2 + 2) (As := [.int (nI i)]) (rest := S.map (cv G)) hd2 miS_chr mvS_chr rfl (by rw [hcls]; exact gw 159 rfl rfl) rfl (by rw [cv_cats]; exact Nat.le_of_ble_eq_true hW) hR (D_chr (l := l) (d := d) (h := h) hi) C hF hL.2.1 hh hS (by omega) (by omega)
  refine callQ hrun hS (fun x h' H1 locs1 hQ hh1 hS1 => ?_)
  obtain ⟨rfl, rfl⟩ := hQ
  exact k p e s m args below meth c C ls H1 locs1 (cells + 0) (slots + 0) hL hh1 hS1 (by omega) (by omega)
end SRD
