def acOK (sp dp n : Int32) (n0 n1 : Nat) : Prop := ¬ sp < 0 ∧ ¬ dp < 0 ∧ ¬ n < 0 ∧ sp.toNatClampNeg + n.toNatClampNeg ≤ n0 ∧ dp.toNatClampNeg + n.toNatClampNeg ≤ n1
def cpy (f : FI) (r r' sp dp n : Nat) : FI := fun a b => if a = r' then va_cpy (f r) (f r') sp dp n b else f a b
set_option maxRecDepth 20000 in
theorem acN : Cond.native arraycopyName ∈ lw_good := gw 855 rfl rfl
set_option maxRecDepth 20000 in
theorem acS : Cond.static arraycopyName ∈ lw_good := gw 854 rfl rfl
set_option maxRecDepth 20000 in
theorem acI : Cond.initialized "java/lang/System" ∈ lw_good := gw 19 rfl rfl
section AC
variable {l : Launch} {G : Gx} {Z : Zt} {md : Md} {R : Room} {kc ks pc : Nat} {L : List (Option Value)} {S : List Value} {h : Hp}
theorem S_acpy {r r' n0 n1 kd idx : Nat} {sp dp n : Int32} (hd : decode md.2.1 pc = .ok (.invokestatic idx, 3)) (hl : Cond.methodLink md.1.cls idx arraycopyName ∈ lw_good) (hs : h.1[r]? = some (kd, n0)) (hs' : h.1[r']? = some (kd, n1)) (hkd : kd = 20 ∨ kd = 23) (hr0 : 0 < r') (hb : acOK sp dp n n0 n1) (hR : 1 ≤ R.frames ∧ (S.map fun v => v.category).sum + (nativeFrameWords "java/lang/System" "arraycopy" 5 + 11) ≤ R.locals) (kk : WP l G Z md R kc ks (pc + 3) L S (h.1, cpy h.2.1 r r' sp.toNatClampNeg dp.toNatClampNeg n.toNatClampNeg, h.2.2.1, h.2.2.2)) : WP l G Z md R kc ks pc L (.int n :: .int dp :: .ref r' :: .int sp :: .ref r :: S) h := by
  intro p e s m args below meth c C ls H locs cells slots hL hh hS hc hk
  have hG : G.1 < G.2.1 := C.2.2.2.2.2.2.2.2.2.1
  have hts := C.2.2.2.2.2.1
  obtain ⟨h1, h2, h3, h4, h5⟩ := hb
  have k1 : ¬ kd < 13 := by omega
  have k2 : kd < 30 := by omega
  have hev : ∀ (h9 : Hp) (r9 k9 : Nat), tval G h9 (aty kd) r9 k9 = .int (h9.2.1 r9 k9) := by
    intro h9 r9 k9
    rcases hkd with rfl | rfl <;> rfl
  have hev2 : ∀ (h9 : Hp) (r9 : Nat), (fun k9 => tval G h9 (aty kd) r9 k9) = (fun k9 => Value.int (h9.2.1 r9 k9)) := fun h9 r9 => funext fun k9 => hev h9 r9 k9
  obtain ⟨c0, a1, a2, a3, a4⟩ := hh.arr hs k1 k2
  obtain ⟨c1, b1, b2, b3, b4⟩ := hh.arr hs' k1 k2
  rw [hev2] at a3 b3
  have nn : ∀ z : Int32, ¬ z < 0 → z.toInt = (z.toNatClampNeg : Int) := by
    intro z hz
    have hz0 : (0 : Int) ≤ z.toInt := by
      have := Int32.not_lt.mp hz
      simpa using Int32.le_iff_toInt_le.mp this
    show z.toInt = ((z.toInt.toNat : Nat) : Int)
    omega
  intro T hT X
  obtain ⟨-, k0, hk0, cm0, hkk0⟩ := a1 n0 (fun j => .int (h.2.1 r j))
  obtain ⟨-, k1', hk1, cm1, hkk1⟩ := b1 n1 (fun j => .int (h.2.1 r' j))
  have hprim : refKind (aty kd) = false := by rcases hkd with rfl | rfl <;> rfl
  obtain ⟨vm', X', step⟩ := X.arraycopy C.1 C.2.2.2.2.1 (hts _ hl) (hts _ acN) (hts _ acS) (hts _ acI) (src := ad G r) (dst := ad G r') (cs := arrV c0 n0 (fun j => .int (h.2.1 r j))) (cd := arrV c1 n1 (fun j => .int (h.2.1 r' j))) (srcPos := sp) (destPos := dp) (n := n) (by rw [hT]; exact a3) (by rw [hT]; exact b3)
    (fun _ h => by cases h) (fun _ h => by cases h) (fun h => by cases h) (fun h => by cases h) hk0 hk1 hkk0 hkk1 (by simp [hprim]) h1 h2 h3
    (by rw [nn sp h1, nn n h3, arrV_size]; omega)
    (by rw [nn dp h2, nn n h3, arrV_size]; omega)
    (fun vm₁ _ i hi => by
      have e : (arrV c0 n0 (fun j => .int (h.2.1 r j))).slots.getD (sp.toNatClampNeg + i) .null = .int (h.2.1 r (sp.toNatClampNeg + i)) := by
        rw [Array.getD_eq_getD_getElem?, arrV_read _ _ (by omega)]
        rfl
      refine ⟨?_, ?_⟩
      · rw [e]
        rcases hkd with rfl | rfl
        · rfl
        · exact a4 rfl _
      · rw [e]
        exact trivial)
    (g := F0 m pc ls (.int n :: .int dp :: .ref (ad G r') :: .int sp :: .ref (ad G r) :: S.map (cv G))) rfl (by rw [C.2.2.1]; exact hL.2.1) (rest := S.map (cv G)) rfl (by rw [C.2.1]; exact hd) hR.1 (by rw [cv_cats]; show 2 * 0 + _ + _ ≤ _; have := hR.2; omega)
  have e1 : copied (arrV c0 n0 (fun j => Value.int (h.2.1 r j))) (arrV c1 n1 (fun j => .int (h.2.1 r' j))) sp dp n = arrV c1 n1 (fun j => .int (va_cpy (h.2.1 r) (h.2.1 r') sp.toNatClampNeg dp.toNatClampNeg n.toNatClampNeg j)) := va_copied (fun z => .int z) c0 c1 (h.2.1 r) (h.2.1 r') h4
  rw [e1] at X' step
  have hlt : ad G r' < H.size := (Array.getElem?_eq_some_iff.mp b3).1
  generalize hcell : arrV c1 n1 (fun j => Value.int (va_cpy (h.2.1 r) (h.2.1 r') sp.toNatClampNeg dp.toNatClampNeg n.toNatClampNeg j)) = cell at X' step
  have hheap : ((T.setVm vm').setCell (ad G r') cell).heap = H.setIfInBounds (ad G r') cell := by rw [← hT]; rfl
  have oq : ∀ q : Nat, q ≠ ad G r' → (H.setIfInBounds (ad G r') cell)[q]? = H[q]? := fun q hq => by simp [Array.getElem?_setIfInBounds, Ne.symm hq]
  have eq' : (H.setIfInBounds (ad G r') cell)[ad G r']? = some cell := by simp [Array.getElem?_setIfInBounds, hlt]
  have hR2 : HR G s (h.1, cpy h.2.1 r r' sp.toNatClampNeg dp.toNatClampNeg n.toNatClampNeg, h.2.2.1, h.2.2.2) (H.setIfInBounds (ad G r') cell) := by
    refine HR.upd hG hh rfl (by simp) oq (fun r9 hne k9 => ⟨if_neg hne, rfl, rfl⟩) hs' ?_
    unfold cellOK
    rw [if_neg k1, if_pos k2]
    refine ⟨c1, b1, b2, ?_, fun z k9 => ?_⟩
    · rw [hev2, eq', ← hcell]
      refine congrArg (fun f => some (arrV c1 n1 f)) (funext fun j => ?_)
      exact congrArg Value.int (if_pos rfl).symm
    · show fits .byte (.int (cpy _ _ _ _ _ _ _ _)) = true
      unfold cpy va_cpy
      rw [if_pos rfl]
      split
      · exact a4 z _
      · exact b4 z _
  obtain ⟨t, q1, q2⟩ := kk p e s m args below meth c C ls _ _ cells slots hL hR2 ⟨by simp; exact hS.1, fun q g1 g2 => by
      rw [oq q (fun e => g2 (by rw [e, ad_pos hr0]; exact Nat.le_add_right _ _))]
      exact hS.2.1 q g1 g2, fun q hq => by
      rcases List.mem_append.mp hq with h | h
      · exact hS.2.2 q h
      · obtain ⟨z, -, hz⟩ := List.mem_map.mp h
        rw [← hz]
        show G.2.1 ≤ ad G r'
        rw [ad_pos hr0]; exact Nat.le_add_right _ _⟩ hc hk _ hheap X'
  exact ⟨t, step t q1, q2⟩
end AC
set_option maxRecDepth 20000 in
theorem mlX11_287 : Cond.methodLink RX11 287 arraycopyName ∈ lw_good := gw 1083 rfl rfl
set_option maxRecDepth 20000 in
theorem mlX0_29 : Cond.methodLink RX0 29 arraycopyName ∈ lw_good := gw 865 rfl rfl
set_option maxRecDepth 20000 in
theorem mlX2_41 : Cond.methodLink RX2 41 arraycopyName ∈ lw_good := gw 860 rfl rfl
set_option maxRecDepth 20000 in
theorem mlX4_26 : Cond.methodLink RX4 26 arraycopyName ∈ lw_good := gw 875 rfl rfl
set_option maxRecDepth 20000 in
theorem mlX5_20 : Cond.methodLink RX5 20 arraycopyName ∈ lw_good := gw 870 rfl rfl
set_option maxRecDepth 20000 in
theorem mlX7_36 : Cond.methodLink RX7 36 arraycopyName ∈ lw_good := gw 853 rfl rfl
