/-! calls and returns over WP; the judgement of a method, Cl -/
def rmd (d mc ms : Nat) : Room := { frames := d, cells := mc, slots := ms, locals := 64 * d }
def wsm (md : Md) : List Cond := .code md.1 md.2.1 md.2.2.1 md.2.2.2 :: lw_good
def PcOf (G : Gx) (as : List Value) (h : Hp) : Array Value → State → Prop := fun a U => a = (as.map (cv G)).toArray ∧ HR G U h U.heap ∧ Kn0 G U
def QcOf (G : Gx) (Q : Option Value → Hp → Prop) : Array Value → State → Outcome → State → Prop := fun _ st o t => ∃ (r : Option Value) (h' : Hp), o = .returned (r.map (cv G)) ∧ Q r h' ∧ HR G t h' t.heap ∧ va_F (fun q => G.2.1 ≤ q) st t
def Cl (l : Launch) (G : Gx) (d mc ms : Nat) (md : Md) (as : List Value) (h : Hp) (Q : Option Value → Hp → Prop) : Prop := Met l md.1 (wsm md) (rmd d mc ms) (PcOf G as h) (QcOf G Q) mc ms (fun q => G.2.1 ≤ q)
def Zq (G : Gx) (mc ms : Nat) (Q : Option Value → Hp → Prop) : Zt := fun below args s => MQ below (QcOf G Q) args s mc ms (fun q => G.2.1 ≤ q)
def la : List Value → List (Option Value)
  | [] => []
  | v :: vs => if v.category = 2 then some v :: none :: la vs else some v :: la vs
theorem la_mem {G : Gx} : ∀ (as : List Value) (b i : Nat) (v : Value), (la as)[i]? = some (some v) → (b + i, cv G v) ∈ lv_args b (as.map (cv G))
  | [], b, i, v, h => by simp [la] at h
  | w :: vs, b, i, v, h => by
    rw [List.map_cons]
    unfold lv_args
    unfold la at h
    rw [cv_cat]
    by_cases hc : w.category = 2
    · rw [if_pos hc] at h ⊢
      match i, h with
      | 0, h => cases h; exact List.mem_cons_self
      | 1, h => cases h
      | i + 2, h =>
        have := la_mem (G := G) vs (b + 2) i v h
        rw [show b + 2 + i = b + (i + 2) by omega] at this
        exact List.mem_cons_of_mem _ this
    · rw [if_neg hc] at h ⊢
      match i, h with
      | 0, h => cases h; exact List.mem_cons_self
      | i + 1, h =>
        have := la_mem (G := G) vs (b + 1) i v h
        rw [show b + 1 + i = b + (i + 1) by omega] at this
        exact List.mem_cons_of_mem _ this
theorem la_len {G : Gx} : ∀ as : List Value, (lg_sl (as.map (cv G))).length = (la as).length
  | [] => rfl
  | w :: vs => by
    have ih := la_len (G := G) vs
    unfold lg_sl at ih ⊢
    rw [List.map_cons, List.flatMap_cons, List.length_append, ih, cv_cat]
    rw [la]
    by_cases hc : w.category = 2
    · rw [if_pos hc, if_pos hc]
      simp only [List.length_cons, List.length_nil]
      omega
    · rw [if_neg hc, if_neg hc]
      simp only [List.length_cons, List.length_nil]
      omega
theorem Kn0.calling {G : Gx} {U : State} {g : JFrame} {mk : MethodId} {a : Array Value} (h : Kn0 G U) : Kn0 G (U.calling g mk a) :=
  ⟨fun c q hq => u_Kn_moved (Vm.Alike.refl U.vm) (h.1 c q hq), h.2.1, h.2.2.1, Xt.same (s := U) rfl rfl h.2.2.2⟩
theorem PcOf.blind {G : Gx} {as : List Value} {h : Hp} : FrameBlind (PcOf G as h) := fun a U g mk q => ⟨q.1, HR.moved (u := U) (U := U.calling g mk a) (Vm.Alike.refl U.vm) q.2.1, q.2.2.calling⟩
theorem Kn0.warm {G : Gx} {s U : State} {locs : List Loc} (hW : s.WarmedH U.vm) (hS : va_S (fun q => G.2.1 ≤ q) s.heap U.heap locs) (h : Kn0 G s) : Kn0 G U :=
  ⟨fun c q hq => u_Kn_moved hW.alike (h.1 c q hq), h.2.1, Nat.le_trans h.2.2.1 hS.1, h.2.2.2.warm hW hS.2.1⟩
/-- what a call asks of the tables -/
def MI (md : Md) (n : Nat) : Prop := Cond.code md.1 md.2.1 md.2.2.1 md.2.2.2 ∈ lw_good ∧ Cond.initialized md.1.cls ∈ lw_good ∧ (md.1.cls ≠ "java/lang/invoke/MethodHandle" ∧ md.1.cls ≠ "java/lang/invoke/VarHandle" ∧ (parseMethodDescriptor md.1.desc).map (fun d => d.parameters.length) = some n) ∧ plainName md.1.cls = true
def MV (md : Md) : Prop := Cond.instanceMethod md.1 ∈ lw_good ∧ Cond.selects md.1.cls md.1 md.1 ∈ lw_good
def RmOK (R : Room) (d : Nat) (md : Md) : Prop := d + 1 ≤ R.frames ∧ 8 + (md.2.2.1 + 11) + 64 * d ≤ R.locals
theorem RmOK.of {d mc ms : Nat} {md : Md} (h : Nat.ble md.2.2.1 45 = true) : RmOK (rmd (d + 1) mc ms) d md := by
  have h1 := Nat.le_of_ble_eq_true h
  refine ⟨Nat.le_refl _, ?_⟩
  show _ ≤ 64 * (d + 1)
  omega
section SC
variable {l : Launch} {G : Gx} {Z : Zt} {md : Md} {R : Room} {kc ks pc : Nat} {L : List (Option Value)} {S : List Value} {h : Hp}
theorem Cl.of {d mc ms n : Nat} {as : List Value} {Q : Option Value → Hp → Prop} {L0 : List (Option Value)} (hM : MI md n) (hlen : Nat.ble (la as).length md.2.2.1 = true) (hL : la as ++ List.replicate (md.2.2.1 - (la as).length) none = L0) (k : WP l G (Zq G mc ms Q) md (rmd d mc ms) mc ms 0 L0 [] h) : Cl l G d mc ms md as h Q := by
  have hlen := Nat.le_of_ble_eq_true hlen
  refine Met.ofW (cc := md.2.1) (maxL := md.2.2.1) (ret := md.2.2.2) hM.2.2.2 rfl ?_
  intro p e s m args below meth c s₁ B hml hv
  obtain ⟨rfl, hR, hK⟩ := hv
  have hts := atoms_spec (ws := wsm md) B.pre
  have hown : s.vm.findClass md.1.cls = some m.cls := findClass_of_methodNamed B.named
  have hC : Cx G md p s m (as.map (cv G)).toArray meth c := ⟨B.exec, B.bytes, hml, B.returns, hown, fun w hw => hts w (List.mem_cons_of_mem _ hw), B.notSynchronized, (name_of_methodNamed B.named B.method).1, hK⟩
  have hl := lv_entry (as.map (cv G)) (n := md.2.2.1) (by rw [la_len]; exact hlen)
  rw [lg_entry_eq]
  have hLR : LR G md.2.2.1 L0 (lg_sl (as.map (cv G)) ++ List.replicate (md.2.2.1 - (lg_sl (as.map (cv G))).length) Slot.unset).toArray := by
    refine ⟨?_, hl.1, hl.2.1, fun i v hi => ?_⟩
    · rw [← hL, List.length_append, List.length_replicate]
      omega
    · have h1 : (la as)[i]? = some (some v) := by
        rw [← hL] at hi
        by_cases hlt : i < (la as).length
        · rwa [List.getElem?_append_left hlt] at hi
        · rw [List.getElem?_append_right (by omega), List.getElem?_replicate] at hi
          split at hi <;> cases hi
      have h2 := la_mem (G := G) as 0 i v h1
      rw [Nat.zero_add] at h2
      exact hl.2.2 _ h2
  exact k p e s m _ below meth c hC _ s.heap [] 0 0 hLR hR va_S.rf (by show 0 + mc ≤ mc; omega) (by show 0 + ms ≤ ms; omega)
theorem Cl.mono {d mc ms : Nat} {as : List Value} {Q Q' : Option Value → Hp → Prop} (hQ : ∀ r h', Q r h' → Q' r h') (k : Cl l G d mc ms md as h Q) : Cl l G d mc ms md as h Q' := by
  intro p e ha hc hk s m args below hf happ hpre htr
  obtain ⟨t, o, h1, h2, h3, ⟨r, h', q1, q2, q3⟩, q4⟩ := k p e ha hc hk s m args below hf happ hpre htr
  exact ⟨t, o, h1, h2, h3, ⟨r, h', q1, hQ _ _ q2, q3⟩, q4⟩
/-- behind any call -/
theorem callQ {p : Program} {e : Env} {s : State} {m : MethodId} {args : Array Value} {below : List Frame} {meth : Method} {c : Code} {H : Heap} {locs : List Loc} {cells slots mc ms : Nat} {Qs : State → Prop} {ls : Array Slot} {rest st0 : List Value} {a : Array Value} {Q : Option Value → Hp → Prop}
    (hr : va_Run p l e R s m args below meth c H locs cells slots mc ms (F0 m pc ls st0) rest (QcOf G Q a) (fun q => G.2.1 ≤ q)) (hS : va_S (fun q => G.2.1 ≤ q) s.heap H locs)
    (kk : ∀ (r : Option Value) (h' : Hp) (H1 : Heap) (locs1 : List Loc), Q r h' → HR G s h' H1 → va_S (fun q => G.2.1 ≤ q) s.heap H1 locs1 → W p l e R s m args below meth c H1 locs1 (cells + mc) (slots + ms) Qs (F0 m (pc + 3) ls ((r.map (cv G)).toList ++ rest))) : W p l e R s m args below meth c H locs cells slots Qs (F0 m pc ls st0) := by
  intro T hT X
  obtain ⟨v, st₀, t, T', L, h0, X', hL, e1, e2, ⟨r, h', hv, hq, hh, hz, hk⟩, st⟩ := hr T hT X
  cases hv
  rw [h0] at hz hk
  have hA : t.vm.Alike s.vm := by rw [← e2]; exact X'.warmed.alike.symm
  obtain ⟨t2, a1, b1⟩ := kk r h' T'.heap (locs ++ L) hq (by rw [e1]; exact hh.moved hA)
    ⟨Nat.le_trans hS.1 (by rw [e1]; exact hz), fun q h1 h2 => by rw [e1, hk q (Nat.lt_of_lt_of_le h1 hS.1) h2]; exact hS.2.1 q h1 h2, fun q hq => by
      rcases List.mem_append.mp hq with h | h
      · exact hS.2.2 q h
      · exact hL q h⟩ T' rfl X'
  exact ⟨t2, st t2 a1, b1⟩
theorem toList_cv (r : Option Value) : (r.map (cv G)).toList = r.toList.map (cv G) := by cases r <;> rfl
theorem hW_of {m : MethodId} {ls : Array Slot} {st0 : List Value} (hW : Nat.ble ((S.map fun v => v.category).sum) 8 = true) : 2 * (F0 m pc ls st0).monitorRoom + ((S.map (cv G)).map fun v => v.category).sum ≤ 8 := by
  rw [cv_cats]
  exact lv_room (Nat.le_of_ble_eq_true hW)
theorem S_callV {md' : Md} {d mc ms n idx r ci nr : Nat} {As : List Value} {C0 : vw_C} {Q : Option Value → Hp → Prop} (hd : decode md.2.1 pc = .ok (.invokevirtual idx, 3)) (hM : MI md' n) (hV : MV md') (hl : Cond.methodLink md.1.cls idx md'.1 ∈ lw_good) (hn : As.length = n) (hs : h.1[r]? = some (ci, nr)) (hC0 : cls0[ci]? = some C0) (hcl : C0.1 = md'.1.cls) (hW : Nat.ble ((S.map fun v => v.category).sum) 8 = true) (hR : RmOK R d md')
    (hC : Cl l G d mc ms md' (.ref r :: As) h Q) (kk : ∀ (v : Option Value) (h' : Hp), Q v h' → WP l G Z md R kc ks (pc + 3) L (v.toList ++ S) h') : WP l G Z md R (kc + mc) (ks + ms) pc L (As.reverse ++ .ref r :: S) h := by
  intro p e s m args below meth c C ls H locs cells slots hL hh hS hc hk
  have hts := C.2.2.2.2.2.1
  have hci : ci < 13 := by
    have := (List.getElem?_eq_some_iff.mp hC0).1
    simpa using this
  have hG0 : GoodIn lw_good (wsV md.1.cls idx md'.1.cls md'.1 (wsm md')) := good_good (fun w hw => by
    unfold wsV wsm at hw
    rcases List.mem_append.mp hw with hw | hw
    · simp only [List.mem_cons, List.not_mem_nil, or_false] at hw
      rcases hw with rfl | rfl | rfl | rfl
      · exact hl
      · exact hV.1
      · exact hV.2
      · exact hM.2.1
    · rcases List.mem_cons.mp hw with rfl | hw
      · exact hM.1
      · exact hw)
  have cw := cwV (R := R) (rm := rmd d mc ms) n hts hG0 rfl rfl rfl ⟨rfl, hM.2.2.1⟩ hR
  obtain ⟨C1, hC1, hn1, cell, q1, q2, q3, -⟩ := hh.obj hs hci
  cases hC0.symm.trans hC1
  have hrun := va_runV (p := p) (e := e) (m := m) (below := below) (meth := meth) (c := c) (cc := md.2.1) (nL := md.2.2.1) (H := H) (locs := locs) (cells := cells) (slots := slots) (b := ad G r) (As := As.map (cv G)) (rest := S.map (cv G)) (g := F0 m pc ls ((As.reverse ++ .ref r :: S).map (cv G))) ⟨C.1, C.2.1, C.2.2.1, C.2.2.2.2.1, hts⟩ hC cw
    ⟨PcOf.blind, ⟨cell, q1, by rw [q3]; rfl, by rw [q2, ← hcl]; exact (C.2.2.2.2.2.2.2.2.1 ci _ hC0).2.1⟩, fun U hU hWm => ⟨rfl, by rw [hU]; exact hh.moved hWm.alike, C.2.2.2.2.2.2.2.2.warm hWm (by rw [hU]; exact hS)⟩⟩ rfl (by rw [List.length_map]; exact hn) hL.2.1 (by rw [List.map_append, List.map_reverse]; rfl) (hW_of hW) hd ⟨by omega, by omega⟩
  refine callQ hrun hS (fun v h' H1 locs1 hQ hh1 hS1 => ?_)
  have K := kk v h' hQ p e s m args below meth c C ls H1 locs1 (cells + mc) (slots + ms) hL hh1 hS1 (by omega) (by omega)
  rw [List.map_append, ← toList_cv] at K
  exact K
theorem S_callS {md' : Md} {d mc ms n idx : Nat} {As : List Value} {Q : Option Value → Hp → Prop} (hd : decode md.2.1 pc = .ok (.invokestatic idx, 3)) (hM : MI md' n) (hV : Cond.static md'.1 ∈ lw_good) (hl : Cond.methodLink md.1.cls idx md'.1 ∈ lw_good) (hn : As.length = n) (hW : Nat.ble ((S.map fun v => v.category).sum) 8 = true) (hR : RmOK R d md')
    (hC : Cl l G d mc ms md' As h Q) (kk : ∀ (v : Option Value) (h' : Hp), Q v h' → WP l G Z md R kc ks (pc + 3) L (v.toList ++ S) h') : WP l G Z md R (kc + mc) (ks + ms) pc L (As.reverse ++ S) h := by
  intro p e s m args below meth c C ls H locs cells slots hL hh hS hc hk
  have hts := C.2.2.2.2.2.1
  have hG0 : GoodIn lw_good (wsm md') := good_good (fun w hw => by
    unfold wsm at hw
    rcases List.mem_cons.mp hw with rfl | hw
    · exact hM.1
    · exact hw)
  have cw := callB_of (R := R) (rm := rmd d mc ms) (own := md.1.cls) (index := idx) n hts hG0 rfl rfl rfl (hts _ hM.2.1) (hts _ hl) hM.2.2.1 hR
  have hrun := va_runS (p := p) (e := e) (m := m) (below := below) (meth := meth) (c := c) (cc := md.2.1) (nL := md.2.2.1) (H := H) (locs := locs) (cells := cells) (slots := slots) (As := As.map (cv G)) (rest := S.map (cv G)) (g := F0 m pc ls ((As.reverse ++ S).map (cv G))) ⟨C.1, C.2.1, C.2.2.1, C.2.2.2.2.1, hts⟩ hC ⟨cw, hts _ hV⟩
    ⟨PcOf.blind, fun U hU hWm => ⟨rfl, by rw [hU]; exact hh.moved hWm.alike, C.2.2.2.2.2.2.2.2.warm hWm (by rw [hU]; exact hS)⟩⟩ rfl (by rw [List.length_map]; exact hn) hL.2.1 (by rw [List.map_append, List.map_reverse]) (hW_of hW) hd ⟨by omega, by omega⟩
  refine callQ hrun hS (fun v h' H1 locs1 hQ hh1 hS1 => ?_)
  have K := kk v h' hQ p e s m args below meth c C ls H1 locs1 (cells + mc) (slots + ms) hL hh1 hS1 (by omega) (by omega)
  rw [List.map_append, ← toList_cv] at K
  exact K
theorem S_callI {md' : Md} {d mc ms n idx r : Nat} {As : List Value} {Q : Option Value → Hp → Prop} (hd : decode md.2.1 pc = .ok (.invokespecial idx, 3)) (hM : MI md' n) (hret : md'.2.2.2 = none) (hnm : md'.1.name = "<init>") (hV : Cond.instanceMethod md'.1 ∈ lw_good) (hl : Cond.methodLink md.1.cls idx md'.1 ∈ lw_good) (hn : As.length = n) (hW : Nat.ble ((S.map fun v => v.category).sum) 8 = true) (hR : RmOK R d md')
    (hC : Cl l G d mc ms md' (.ref r :: As) h Q) (kk : ∀ (v : Option Value) (h' : Hp), Q v h' → WP l G Z md R kc ks (pc + 3) L (v.toList ++ S) h') : WP l G Z md R (kc + mc) (ks + ms) pc L (As.reverse ++ .ref r :: S) h := by
  intro p e s m args below meth c C ls H locs cells slots hL hh hS hc hk
  have hts := C.2.2.2.2.2.1
  have hG0 : GoodIn lw_good (wsm md') := good_good (fun w hw => by
    unfold wsm at hw
    rcases List.mem_cons.mp hw with rfl | hw
    · exact hM.1
    · exact hw)
  have cw := cwI (R := R) (rm := rmd d mc ms) (own := md.1.cls) (index := idx) (bytes := md'.2.1) (maxL := md'.2.2.1) (mc := mc) (ms := ms) (ws' := lw_good) n hts hG0 (by unfold wsm; rw [hret]) rfl rfl (hts _ hM.2.1) (hts _ hl) (hts _ hV) hnm hM.2.2.1 hR
  have hrun := va_runI (p := p) (e := e) (m := m) (below := below) (meth := meth) (c := c) (cc := md.2.1) (nL := md.2.2.1) (H := H) (locs := locs) (cells := cells) (slots := slots) (b := ad G r) (As := As.map (cv G)) (rest := S.map (cv G)) (g := F0 m pc ls ((As.reverse ++ .ref r :: S).map (cv G))) ⟨C.1, C.2.1, C.2.2.1, C.2.2.2.2.1, hts⟩ hC cw
    ⟨PcOf.blind, fun U hU hWm => ⟨rfl, by rw [hU]; exact hh.moved hWm.alike, C.2.2.2.2.2.2.2.2.warm hWm (by rw [hU]; exact hS)⟩⟩ rfl (by rw [List.length_map]; exact hn) hL.2.1 (by rw [List.map_append, List.map_reverse]; rfl) (hW_of hW) hd ⟨by omega, by omega⟩
  refine callQ hrun hS (fun v h' H1 locs1 hQ hh1 hS1 => ?_)
  have K := kk v h' hQ p e s m args below meth c C ls H1 locs1 (cells + mc) (slots + ms) hL hh1 hS1 (by omega) (by omega)
  rw [List.map_append, ← toList_cv] at K
  exact K
theorem S_callN {md' : Md} {d mc ms n idx r : Nat} {host : String} {As : List Value} {Q : Option Value → Hp → Prop} (hd : decode md.2.1 pc = .ok (.invokespecial idx, 3)) (hM : MI md' n) (hret : md'.2.2.2 = none) (hnm : md'.1.name = "<init>") (hV : Cond.instanceMethod md'.1 ∈ lw_good) (hl : (md.1.cls, idx, md'.1, host) ∈ nestw) (hn : As.length = n) (hW : Nat.ble ((S.map fun v => v.category).sum) 8 = true) (hR : RmOK R d md')
    (hC : Cl l G d mc ms md' (.ref r :: As) h Q) (kk : ∀ (v : Option Value) (h' : Hp), Q v h' → WP l G Z md R kc ks (pc + 3) L (v.toList ++ S) h') : WP l G Z md R (kc + mc) (ks + ms) pc L (As.reverse ++ .ref r :: S) h := by
  intro p e s m args below meth c C ls H locs cells slots hL hh hS hc hk
  have hts := C.2.2.2.2.2.1
  have hG0 : GoodIn lw_good (wsm md') := good_good (fun w hw => by
    unfold wsm at hw
    rcases List.mem_cons.mp hw with rfl | hw
    · exact hM.1
    · exact hw)
  have hNw : va_Nw (.methodLinkNest md.1.cls idx md'.1 host) s := C.2.2.2.2.2.2.2.2.2.2.2.1 _ hl
  have cw := va_cnB (args := args) (s := s) (R := R) (rm := rmd d mc ms) (own := md.1.cls) (host := host) (index := idx) (y := md'.1) (bytes := md'.2.1) (maxL := md'.2.2.1) (ret := none) (mc := mc) (ms := ms) (ws' := lw_good) n hts hG0 (by unfold wsm; rw [hret]) rfl rfl hNw (hts _ hM.2.1) hM.2.2.1 hR
  have hrun := va_runIN (p := p) (e := e) (m := m) (below := below) (meth := meth) (c := c) (cc := md.2.1) (nL := md.2.2.1) (H := H) (locs := locs) (cells := cells) (slots := slots) (b := ad G r) (As := As.map (cv G)) (rest := S.map (cv G)) (g := F0 m pc ls ((As.reverse ++ .ref r :: S).map (cv G))) ⟨C.1, C.2.1, C.2.2.1, C.2.2.2.2.1, hts⟩ hC ⟨cw, hnm, hts _ hV⟩
    ⟨PcOf.blind, fun U hU hWm => ⟨rfl, by rw [hU]; exact hh.moved hWm.alike, C.2.2.2.2.2.2.2.2.warm hWm (by rw [hU]; exact hS)⟩⟩ rfl (by rw [List.length_map]; exact hn) hL.2.1 (by rw [List.map_append, List.map_reverse]; rfl) (hW_of hW) hd ⟨by omega, by omega⟩
  refine callQ hrun hS (fun v h' H1 locs1 hQ hh1 hS1 => ?_)
  have K := kk v h' hQ p e s m args below meth c C ls H1 locs1 (cells + mc) (slots + ms) hL hh1 hS1 (by omega) (by omega)
  rw [List.map_append, ← toList_cv] at K
  exact K
theorem S_objInit {idx r : Nat} (hd : decode md.2.1 pc = .ok (.invokespecial idx, 3)) (hl : Cond.methodLink md.1.cls idx objectInit ∈ lw_good) (hi : Cond.instanceMethod objectInit ∈ lw_good) (hc0 : Cond.code objectInit ⟨#[0xb1]⟩ 1 none ∈ lw_good) (hR : 1 ≤ R.frames ∧ (S.map fun v => v.category).sum + 12 ≤ R.locals) (kk : WP l G Z md R kc ks (pc + 3) L S h) : WP l G Z md R kc ks pc L (.ref r :: S) h := by
  intro p e s m args below meth c C ls H locs cells slots hL hh hS hc hk
  have hts := C.2.2.2.2.2.1
  exact W.objInit C.1 C.2.1 C.2.2.2.2.1 (hts _ hl) (hts _ hi) (hts _ hc0) rfl (by rw [C.2.2.1]; exact hL.2.1) (g := F0 m pc ls (.ref (ad G r) :: S.map (cv G))) rfl hd hR.1 (by rw [cv_cats]; show 2 * 0 + _ + 12 ≤ _; have := hR.2; omega) (kk p e s m args below meth c C ls H locs cells slots hL hh hS hc hk)
/-! returns -/
theorem S_ireturn {x : Int32} {Q : Option Value → Hp → Prop} (hd : decode md.2.1 pc = .ok (.ireturn, 1)) (hr : md.2.2.2 = some .int) (hq : Q (some (.int x)) h) : WP l G (Zq G R.cells R.slots Q) md R kc ks pc L [.int x] h := by
  intro p e s m args below meth c C ls H locs cells slots hL hh hS hc hk
  refine W.widen (k := R.cells) (n := R.slots) (by omega) (by omega) ?_
  exact W.iret C.1 C.2.1 (C.2.2.2.1.trans hr) (fun t ht hW => ⟨some (.int x), h, rfl, hq, by rw [ht]; exact hh.moved hW.alike, hS.F ht⟩) hS.2.2 hd (hlocks := C.2.2.2.2.2.2.1)
theorem S_zreturn {x : Int32} {Q : Option Value → Hp → Prop} (hd : decode md.2.1 pc = .ok (.ireturn, 1)) (hr : md.2.2.2 = some .boolean) (hx : x = 0 ∨ x = 1) (hq : Q (some (.int x)) h) : WP l G (Zq G R.cells R.slots Q) md R kc ks pc L [.int x] h := by
  intro p e s m args below meth c C ls H locs cells slots hL hh hS hc hk
  refine W.widen (k := R.cells) (n := R.slots) (by omega) (by omega) ?_
  exact W.zret C.1 C.2.1 (C.2.2.2.1.trans hr) (by rcases hx with rfl | rfl <;> rfl) (fun t ht hW => ⟨some (.int x), h, rfl, hq, by rw [ht]; exact hh.moved hW.alike, hS.F ht⟩) hS.2.2 hd (hlocks := C.2.2.2.2.2.2.1)
theorem S_lreturn {x : Int64} {Q : Option Value → Hp → Prop} (hd : decode md.2.1 pc = .ok (.lreturn, 1)) (hr : md.2.2.2 = some .long) (hq : Q (some (.long x)) h) : WP l G (Zq G R.cells R.slots Q) md R kc ks pc L [.long x] h := by
  intro p e s m args below meth c C ls H locs cells slots hL hh hS hc hk
  refine W.widen (k := R.cells) (n := R.slots) (by omega) (by omega) ?_
  exact W.lret C.1 C.2.1 (C.2.2.2.1.trans hr) (fun t ht hW => ⟨some (.long x), h, rfl, hq, by rw [ht]; exact hh.moved hW.alike, hS.F ht⟩) hS.2.2 hd (hlocks := C.2.2.2.2.2.2.1)
theorem S_vreturn {Q : Option Value → Hp → Prop} (hd : decode md.2.1 pc = .ok (.return_, 1)) (hr : md.2.2.2 = none) (hq : Q none h) : WP l G (Zq G R.cells R.slots Q) md R kc ks pc L [] h := by
  intro p e s m args below meth c C ls H locs cells slots hL hh hS hc hk
  refine W.widen (k := R.cells) (n := R.slots) (by omega) (by omega) ?_
  exact W.vret C.1 C.2.1 (C.2.2.2.1.trans hr) (fun t ht hW => ⟨none, h, rfl, hq, by rw [ht]; exact hh.moved hW.alike, hS.F ht⟩) hS.2.2 hd (hlocks := C.2.2.2.2.2.2.1)
end SC
