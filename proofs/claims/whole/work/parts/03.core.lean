/-! the abstract heap (shapes; int, long, reference slots by cell and place), what it says of the machine's heap, and a row an instruction over it -/
abbrev Hp : Type := List (Nat × Nat) × (Nat → Nat → Int32) × (Nat → Nat → Int64) × (Nat → Nat → Option Nat)
abbrev Md : Type := MethodName × ByteArray × Nat × Option FieldType
abbrev Gx : Type := Nat × Nat × va_G
def up2 {α : Type} (f : Nat → Nat → α) (r k : Nat) (v : α) : Nat → Nat → α := fun a b => if a = r ∧ b = k then v else f a b
def zrow {α : Type} (f : Nat → Nat → α) (r : Nat) (v : α) : Nat → Nat → α := fun a b => if a = r then v else f a b
def sI (h : Hp) (r k : Nat) (v : Int32) : Hp := (h.1, up2 h.2.1 r k v, h.2.2.1, h.2.2.2)
def sL (h : Hp) (r k : Nat) (v : Int64) : Hp := (h.1, h.2.1, up2 h.2.2.1 r k v, h.2.2.2)
def sR (h : Hp) (r k : Nat) (v : Option Nat) : Hp := (h.1, h.2.1, h.2.2.1, up2 h.2.2.2 r k v)
/-- a new cell, all of it 0 or null -/
def nw (h : Hp) (q : Nat × Nat) : Hp := (h.1 ++ [q], zrow h.2.1 h.1.length 0, zrow h.2.2.1 h.1.length 0, zrow h.2.2.2 h.1.length none)
/-- a cell's contents replaced whole -/
def sA (h : Hp) (r : Nat) (f : Nat → Int32) : Hp := (h.1, fun a b => if a = r then f b else h.2.1 a b, h.2.2.1, h.2.2.2)
def ad (G : Gx) (r : Nat) : Nat := if r = 0 then G.1 else G.2.1 + (r - 1)
def rfv (G : Gx) (r : Option Nat) : Value := match r with
  | none => .null
  | some r => .ref (ad G r)
def cv (G : Gx) (v : Value) : Value := match v with
  | .ref r => .ref (ad G r)
  | v => v
abbrev cls0 : List vw_C := [(RX0, TX0, 6), (RX1, TX1, 1), (RX2, TX2, 9), (RX3, TX3, 3), (RX4, TX4, 5), (RX5, TX5, 3), (RX6, TX6, 15), (RX7, TX7, 6), (RX8, TX8, 8), (RX9, TX9, 15), (RX10, TX10, 16), (RX11, TX11, 16), (RX12, TX12, 69)]
def fty (ci k : Nat) : FieldType := match ci with
  | 0 => tyX0 k
  | 1 => tyX1 k
  | 2 => tyX2 k
  | 3 => tyX3 k
  | 4 => tyX4 k
  | 5 => tyX5 k
  | 6 => tyX6 k
  | 7 => tyX7 k
  | 8 => tyX8 k
  | 9 => tyX9 k
  | 10 => tyX10 k
  | 11 => tyX11 k
  | _ => tyX12 k
def aty (kd : Nat) : FieldType := match kd with
  | 20 => .int
  | 21 => .long
  | 22 => .boolean
  | 23 => .byte
  | 24 => .object RX8
  | 25 => .object RX10
  | _ => .array .int
def tval (G : Gx) (h : Hp) (ty : FieldType) (r k : Nat) : Value := match ty with
  | .long => .long (h.2.2.1 r k)
  | .object _ => rfv G (h.2.2.2 r k)
  | .array _ => rfv G (h.2.2.2 r k)
  | _ => .int (h.2.1 r k)
theorem tval_congr {G : Gx} {h h' : Hp} {ty : FieldType} {r k : Nat} (hs : h'.2.1 r k = h.2.1 r k ∧ h'.2.2.1 r k = h.2.2.1 r k ∧ h'.2.2.2 r k = h.2.2.2 r k) : tval G h' ty r k = tval G h ty r k := by
  obtain ⟨a, b, c⟩ := hs
  cases ty <;> simp [tval, a, b, c]
theorem cv_cat (G : Gx) (v : Value) : (cv G v).category = v.category := by cases v <;> rfl
theorem cv_cats (G : Gx) (S : List Value) : ((S.map (cv G)).map fun v => v.category) = S.map fun v => v.category := by
  induction S with
  | nil => rfl
  | cons a t ih => simp [cv_cat]
def cellOK (G : Gx) (U : State) (h : Hp) (H : Heap) (r : Nat) (q : Nat × Nat) : Prop :=
  if q.1 < 13 then ∃ C : vw_C, cls0[q.1]? = some C ∧ q.2 = C.2.2 ∧ t_OB (ad G r) (G.2.2.1 q.1) C.2.2 (G.2.2.2 q.1) H (fun k => tval G h (fty q.1 k) r k)
  else if q.1 < 30 then ∃ cA : ClassId, ArrOfT U cA (aty q.1) ∧ va_RA U cA (aty q.1) ∧ H[ad G r]? = some (arrV cA q.2 (fun k => tval G h (aty q.1) r k)) ∧ (q.1 = 23 → ∀ k, fits .byte (.int (h.2.1 r k)) = true)
  else va_X (ad G r) q.2 (h.2.1 r) U H
theorem cellOK.kept {G : Gx} {U : State} {h h' : Hp} {H H' : Heap} {r : Nat} {q : Nat × Nat} (c : cellOK G U h H r q) (hq : H'[ad G r]? = H[ad G r]?) (hs : ∀ k, h'.2.1 r k = h.2.1 r k ∧ h'.2.2.1 r k = h.2.2.1 r k ∧ h'.2.2.2 r k = h.2.2.2 r k) : cellOK G U h' H' r q := by
  have e : ∀ ty, (fun k => tval G h' ty r k) = (fun k => tval G h ty r k) := fun ty => funext fun k => tval_congr (hs k)
  unfold cellOK at c ⊢
  by_cases h1 : q.1 < 13
  · rw [if_pos h1] at c ⊢
    obtain ⟨C, a, b, d⟩ := c
    exact ⟨C, a, b, (d.kept hq).to (fun k _ => (tval_congr (hs k)).symm)⟩
  · rw [if_neg h1] at c ⊢
    by_cases h2 : q.1 < 30
    · rw [if_pos h2] at c ⊢
      obtain ⟨cA, a, b, d, f⟩ := c
      exact ⟨cA, a, b, by rw [hq, d, e], fun z k => by rw [(hs k).1]; exact f z k⟩
    · rw [if_neg h2] at c ⊢
      have e2 : h'.2.1 r = h.2.1 r := funext fun k => (hs k).1
      rw [e2]
      exact c.kept hq
theorem cellOK.moved {G : Gx} {u U : State} {h : Hp} {H : Heap} {r : Nat} {q : Nat × Nat} (hvm : u.vm.Alike U.vm) (c : cellOK G u h H r q) : cellOK G U h H r q := by
  unfold cellOK at c ⊢
  by_cases h1 : q.1 < 13
  · rw [if_pos h1] at c ⊢
    exact c
  · rw [if_neg h1] at c ⊢
    by_cases h2 : q.1 < 30
    · rw [if_pos h2] at c ⊢
      obtain ⟨cA, a, b, d⟩ := c
      exact ⟨cA, arrOfT_moved hvm a, b.moved hvm, d⟩
    · rw [if_neg h2] at c ⊢
      exact c.moved hvm
def HR (G : Gx) (U : State) (h : Hp) (H : Heap) : Prop := H.size + 1 = G.2.1 + h.1.length ∧ 0 < h.1.length ∧ ∀ (r : Nat) (q : Nat × Nat), h.1[r]? = some q → cellOK G U h H r q
theorem HR.moved {G : Gx} {u U : State} {h : Hp} {H : Heap} (hvm : u.vm.Alike U.vm) (c : HR G u h H) : HR G U h H := ⟨c.1, c.2.1, fun r q hq => (c.2.2 r q hq).moved hvm⟩
theorem ad_inj {G : Gx} (hG : G.1 < G.2.1) {r r' : Nat} (h : ad G r = ad G r') : r = r' := by
  unfold ad at h
  split at h <;> split at h <;> omega
theorem ad_pos {G : Gx} {r : Nat} (h : 0 < r) : ad G r = G.2.1 + (r - 1) := by unfold ad; rw [if_neg (by omega)]
theorem ad_new {G : Gx} {U : State} {h : Hp} {H : Heap} (c : HR G U h H) : ad G h.1.length = H.size := by
  rw [ad_pos c.2.1]
  have := c.1
  have := c.2.1
  omega
theorem ad_old {G : Gx} {U : State} {h : Hp} {H : Heap} (hG : G.1 < G.2.1) (c : HR G U h H) {r : Nat} (hr : r < h.1.length) : ad G r < H.size := by
  have h1 := c.1
  have h2 := c.2.1
  unfold ad
  split <;> omega
theorem lt_of_sh {h : Hp} {r : Nat} {q : Nat × Nat} (e : h.1[r]? = some q) : r < h.1.length := (List.getElem?_eq_some_iff.mp e).1
/-- one cell is written -/
theorem HR.upd {G : Gx} {U : State} {h h' : Hp} {H H' : Heap} {r : Nat} {q0 : Nat × Nat} (hG : G.1 < G.2.1) (hh : HR G U h H) (e1 : h'.1 = h.1) (z : H'.size = H.size) (oq : ∀ q, q ≠ ad G r → H'[q]? = H[q]?) (hsame : ∀ r', r' ≠ r → ∀ k, h'.2.1 r' k = h.2.1 r' k ∧ h'.2.2.1 r' k = h.2.2.1 r' k ∧ h'.2.2.2 r' k = h.2.2.2 r' k) (hq0 : h.1[r]? = some q0) (hr : cellOK G U h' H' r q0) : HR G U h' H' := by
  refine ⟨by rw [z, e1]; exact hh.1, by rw [e1]; exact hh.2.1, fun r' q hq => ?_⟩
  rw [e1] at hq
  by_cases e : r' = r
  · subst e
    rw [hq0] at hq
    cases hq
    exact hr
  · exact (hh.2.2 r' q hq).kept (oq _ (fun z => e (ad_inj hG z))) (hsame r' e)
/-- a cell is made -/
theorem HR.new {G : Gx} {U : State} {h : Hp} {H H' : Heap} {q0 : Nat × Nat} (hG : G.1 < G.2.1) (hh : HR G U h H) (z : H'.size = H.size + 1) (oq : ∀ q, q < H.size → H'[q]? = H[q]?) (hr : cellOK G U (nw h q0) H' h.1.length q0) : HR G U (nw h q0) H' := by
  refine ⟨?_, by show 0 < (h.1 ++ [q0]).length; simp, fun r q hq => ?_⟩
  · show H'.size + 1 = G.2.1 + (h.1 ++ [q0]).length
    rw [List.length_append, List.length_singleton, z]
    have := hh.1
    omega
  · replace hq : (h.1 ++ [q0])[r]? = some q := hq
    by_cases e : r < h.1.length
    · rw [List.getElem?_append_left e] at hq
      refine (hh.2.2 r q hq).kept (oq _ (ad_old hG hh e)) (fun k => ?_)
      have hne : r ≠ h.1.length := by omega
      simp [nw, zrow, hne]
    · rw [List.getElem?_append_right (by omega)] at hq
      have h0 : r - h.1.length < 1 := by
        have := (List.getElem?_eq_some_iff.mp hq).1
        simpa using this
      have e2 : r = h.1.length := by omega
      subst e2
      simp at hq
      subst hq
      exact hr
/-! locals -/
def st0 (L : List (Option Value)) (i : Nat) : List (Option Value) := match i with
  | 0 => L
  | j + 1 => match L[j]? with
    | some (some v) => if v.category = 2 then L.set j none else L
    | _ => L
def st1 (L : List (Option Value)) (i : Nat) (v : Value) : List (Option Value) := (st0 L i).set i (some v)
def st2 (L : List (Option Value)) (i : Nat) (v : Value) : List (Option Value) := ((st0 L i).set i (some v)).set (i + 1) none
def LR (G : Gx) (n : Nat) (L : List (Option Value)) (ls : Array Slot) : Prop := L.length = n ∧ ls.size = n ∧ lv_wf ls ∧ ∀ (i : Nat) (v : Value), L[i]? = some (some v) → ls[i]? = some (.val (cv G v))
def lvl (G : Gx) (L : List (Option Value)) : List (Nat × Value) := (List.range L.length).filterMap fun i => match L[i]? with
  | some (some v) => some (i, cv G v)
  | _ => none
theorem lvl_mem {G : Gx} {L : List (Option Value)} {i : Nat} {v : Value} (h : L[i]? = some (some v)) : (i, cv G v) ∈ lvl G L := by
  refine List.mem_filterMap.mpr ⟨i, List.mem_range.mpr (List.getElem?_eq_some_iff.mp h).1, ?_⟩
  simp [h]
theorem lvl_of {G : Gx} {L : List (Option Value)} {q : Nat × Value} (h : q ∈ lvl G L) : ∃ v, L[q.1]? = some (some v) ∧ q.2 = cv G v := by
  obtain ⟨i, hi, e⟩ := List.mem_filterMap.mp h
  split at e
  · rename_i v hv
    cases e
    exact ⟨v, hv, rfl⟩
  · cases e
theorem LR.has {G : Gx} {n : Nat} {L : List (Option Value)} {ls : Array Slot} (h : LR G n L ls) : lv_has ls n (lvl G L) := by
  refine ⟨h.2.1, h.2.2.1, fun q hq => ?_⟩
  obtain ⟨v, h1, h2⟩ := lvl_of hq
  rw [h2]
  exact h.2.2.2 _ _ h1
theorem st0_len (L : List (Option Value)) (i : Nat) : (st0 L i).length = L.length := by
  unfold st0
  split
  · rfl
  · split
    · split <;> simp
    · rfl
theorem st0_at {L : List (Option Value)} {i j : Nat} {v : Value} (h : (st0 L i)[j]? = some (some v)) : L[j]? = some (some v) ∧ ¬ (j + 1 = i ∧ v.category = 2) := by
  unfold st0 at h
  split at h
  · exact ⟨h, by omega⟩
  · rename_i k
    split at h
    · rename_i x hx
      split at h
      · by_cases e : j = k
        · subst e
          rw [List.getElem?_set_self (List.getElem?_eq_some_iff.mp hx).1] at h
          cases h
        · rw [List.getElem?_set_ne (fun z => e z.symm)] at h
          exact ⟨h, by omega⟩
      · rename_i hc
        refine ⟨h, fun z => ?_⟩
        have e : j = k := by omega
        subst e
        rw [hx] at h
        cases h
        exact hc z.2
    · rename_i hx
      refine ⟨h, fun z => ?_⟩
      have e : j = k := by omega
      subst e
      exact hx v h
theorem LR.of1 {G : Gx} {n : Nat} {L : List (Option Value)} {ls' : Array Slot} {i : Nat} {v : Value} (hn : L.length = n) (h : lv_has ls' n ((i, cv G v) :: (lvl G L).filter (fun q => !(q.1 == i) && !(q.1 + 1 == i && q.2.category == 2)))) : LR G n (st1 L i v) ls' := by
  refine ⟨by unfold st1; rw [List.length_set, st0_len]; exact hn, h.1, h.2.1, fun j w hj => ?_⟩
  unfold st1 at hj
  by_cases e : j = i
  · subst e
    have hlt : j < (st0 L j).length := by
      have := (List.getElem?_eq_some_iff.mp hj).1
      simpa using this
    rw [List.getElem?_set_self hlt] at hj
    cases hj
    exact h.2.2 _ List.mem_cons_self
  · rw [List.getElem?_set_ne (fun z => e z.symm)] at hj
    obtain ⟨h1, h2⟩ := st0_at hj
    refine h.2.2 (j, cv G w) (List.mem_cons_of_mem _ (List.mem_filter.mpr ⟨lvl_mem h1, ?_⟩))
    simp only [cv_cat]
    simp [e]
    omega
theorem LR.of2 {G : Gx} {n : Nat} {L : List (Option Value)} {ls' : Array Slot} {i : Nat} {v : Value} (hn : L.length = n) (h : lv_has ls' n ((i, cv G v) :: (lvl G L).filter (fun q => !(q.1 == i) && (!(q.1 == i + 1) && !(q.1 + 1 == i && q.2.category == 2))))) : LR G n (st2 L i v) ls' := by
  refine ⟨by unfold st2; rw [List.length_set, List.length_set, st0_len]; exact hn, h.1, h.2.1, fun j w hj => ?_⟩
  unfold st2 at hj
  by_cases e2 : j = i + 1
  · subst e2
    have hlt : i + 1 < ((st0 L i).set i (some v)).length := by
      have := (List.getElem?_eq_some_iff.mp hj).1
      simpa using this
    rw [List.getElem?_set_self hlt] at hj
    cases hj
  · rw [List.getElem?_set_ne (fun z => e2 z.symm)] at hj
    by_cases e : j = i
    · subst e
      have hlt : j < (st0 L j).length := by
        have := (List.getElem?_eq_some_iff.mp hj).1
        simpa using this
      rw [List.getElem?_set_self hlt] at hj
      cases hj
      exact h.2.2 _ List.mem_cons_self
    · rw [List.getElem?_set_ne (fun z => e z.symm)] at hj
      obtain ⟨h1, h2⟩ := st0_at hj
      refine h.2.2 (j, cv G w) (List.mem_cons_of_mem _ (List.mem_filter.mpr ⟨lvl_mem h1, ?_⟩))
      simp only [cv_cat]
      simp [e, e2]
      omega
/-! the judgement -/
/-- the words of the tables that stay true whatever has been resolved -/
def lw_good : List Cond := lw_tbl.filter goodWord
theorem gw {w : Cond} (i : Nat) (h : tables_1[i]? = some w) (g : goodWord w = true) : w ∈ lw_good := List.mem_filter.mpr ⟨List.mem_append_right _ (List.mem_of_getElem? h), g⟩
theorem gwp {w : Cond} (i : Nat) (h : (k2_sels lw_privs)[i]? = some w) (g : goodWord w = true) : w ∈ lw_good := List.mem_filter.mpr ⟨List.mem_append_left _ (List.mem_of_getElem? h), g⟩
theorem good_good {ws : List Cond} (h : ∀ w ∈ ws, w ∈ lw_good) : GoodIn lw_good ws := fun w hw => ⟨h w hw, good_of_word (List.mem_filter.mp (h w hw)).2⟩
def sTx : String := "stream unit window key path delay join at token loss drops picks reads waits tick number from cwnd flying fails ready ahead if or and not all min max "
def sBy : List Int32 := [115, 116, 114, 101, 97, 109, 32, 117, 110, 105, 116, 32, 119, 105, 110, 100, 111, 119, 32, 107, 101, 121, 32, 112, 97, 116, 104, 32, 100, 101, 108, 97, 121, 32, 106, 111, 105, 110, 32, 97, 116, 32, 116, 111, 107, 101, 110, 32, 108, 111, 115, 115, 32, 100, 114, 111, 112, 115, 32, 112, 105, 99, 107, 115, 32, 114, 101, 97, 100, 115, 32, 119, 97, 105, 116, 115, 32, 116, 105, 99, 107, 32, 110, 117, 109, 98, 101, 114, 32, 102, 114, 111, 109, 32, 99, 119, 110, 100, 32, 102, 108, 121, 105, 110, 103, 32, 102, 97, 105, 108, 115, 32, 114, 101, 97, 100, 121, 32, 97, 104, 101, 97, 100, 32, 105, 102, 32, 111, 114, 32, 97, 110, 100, 32, 110, 111, 116, 32, 97, 108, 108, 32, 109, 105, 110, 32, 109, 97, 120, 32]
/-- the constructors of nest mates -/
def nestw : List (String × Nat × MethodName × String) := [(RX11, 18, yX1_init, RX11), (RX11, 25, yX6_init, RX11), (RX6, 26, yX3_init, RX11), (RX10, 19, yX7_init, RX11), (RX10, 26, yX2_init, RX11), (RX10, 33, yX0_init, RX11), (RX10, 40, yX5_init, RX11), (RX10, 47, yX4_init, RX11), (RX10, 62, yX8_init, RX11)]
def AOI (U : State) : Prop := (Cond.arrayOver (.array .int)).before #[] U = true
def StrF (G : Gx) (U : State) : Prop := ∃ q v : Nat, vk_R RX9 31 sTx q U ∧ vk_S 1 [150] [sBy] (fun _ => q) (fun _ => v) (fun a => G.2.1 ≤ a) U U.heap ∧ va_Z "java/lang/String" "COMPACT_STRINGS" "Z" (.int 1) (fun a => G.2.1 ≤ a) U U.heap ∧ va_Zq "jdk/internal/util/Preconditions" "SIOOBE_FORMATTER" "Ljava/util/function/BiFunction;" (fun a => G.2.1 ≤ a) U U.heap
def Xt (G : Gx) (U : State) : Prop := (∀ q ∈ nestw, va_Nw (.methodLinkNest q.1 q.2.1 q.2.2.1 q.2.2.2) U) ∧ va_AO RX8 U ∧ va_AO RX10 U ∧ AOI U ∧ StrF G U
theorem AOI.moved {u U : State} (hvm : u.vm.Alike U.vm) (h : AOI u) : AOI U := by
  obtain ⟨comp, c, k, h1, h2, h3, h4, h5⟩ := arrayOverA_spec h
  obtain ⟨k', hk', he⟩ := hvm.2.2 _ _ h3
  have hi : (U.vm.classes.findIdx? fun (x : Class) => match x.kind with | .array component _ => component == comp | _ => false) = some c := by
    have e1 := va_idx_bare U.vm comp
    have e2 := va_idx_bare u.vm comp
    have e3 : U.vm.bare = u.vm.bare := by first | exact hvm.bare_eq | exact hvm.bare_eq.symm
    rw [e3] at e1
    exact (e1.symm.trans e2).trans h2
  have hkind : k'.kind = .array comp (.array .int) := by rw [he]; exact h4
  have f1 : U.vm.findClass (FieldType.array FieldType.int).toString = some comp := by rw [hvm.findClass]; exact h1
  have f2 : U.vm.findClass ("[" ++ (FieldType.array FieldType.int).toString) = some c := by rw [hvm.findClass]; exact h5
  unfold AOI Cond.before Cond.holds
  simp only [Cond.value]
  rw [f1, Option.bind_some]
  refine (congrArg (fun o : Option Nat => (o.bind (fun c => (U.vm.classes[c]?).map fun (k : Class) => match k.kind with | .array _ ty => decide (ty = FieldType.array .int) && decide (U.vm.findClass ("[" ++ (FieldType.array .int).toString) = some c) | _ => false) == some true)) hi).trans ?_
  simp [hk', hkind, f2]
theorem Xt.warm {G : Gx} {s U : State} (hW : s.WarmedH U.vm) (hq : ∀ a : Nat, a < s.heap.size → ¬ G.2.1 ≤ a → U.heap[a]? = s.heap[a]?) (h : Xt G s) : Xt G U := by
  obtain ⟨h1, h2, h3, h4, q, v, h5, h6, h7, h8⟩ := h
  exact ⟨fun w hw => (h1 w hw).warmM hW, h2.moved hW.alike, h3.moved hW.alike, h4.moved hW.alike, q, v, h5.warm hW, (h6.moved hW.alike).kept hq, (h7.moved hW.alike).kept hq, (h8.moved hW.alike).kept hq⟩
theorem Xt.same {G : Gx} {s U : State} (hv : s.vm = U.vm) (hq : U.heap = s.heap) (h : Xt G s) : Xt G U := by
  obtain ⟨h1, h2, h3, h4, q, v, h5, h6, h7, h8⟩ := h
  have hA : s.vm.Alike U.vm := by rw [hv]; exact Vm.Alike.refl _
  rw [← hq] at h6 h7 h8
  exact ⟨fun w hw => va_Nw.same rfl hv (h1 w hw), h2.moved hA, h3.moved hA, h4.moved hA, q, v, h5.same hv.symm, h6.moved hA, h7.moved hA, h8.moved hA⟩
def Kn0 (G : Gx) (U : State) : Prop := (∀ (c : Nat) (q : vw_C), cls0[c]? = some q → u_Kn U q.1 q.2.1 q.2.2 (G.2.2.1 c) (G.2.2.2 c)) ∧ G.1 < G.2.1 ∧ G.2.1 ≤ U.heap.size ∧ Xt G U
def Cx (G : Gx) (md : Md) (p : Program) (s : State) (m : MethodId) (args : Array Value) (meth : Method) (c : Code) : Prop :=
  p.tables.exec = Jvm.exec ∧ c.code = md.2.1 ∧ c.maxLocals = md.2.2.1 ∧ meth.sig.returnType = md.2.2.2 ∧ s.vm.findClass md.1.cls = some m.cls ∧ (∀ w ∈ lw_good, w.before args s = true) ∧ meth.locks = false ∧ meth.name = md.1.name ∧ Kn0 G s
abbrev Zt : Type := List Frame → Array Value → State → State → Prop
def WP (l : Launch) (G : Gx) (Z : Zt) (md : Md) (R : Room) (kc ks pc : Nat) (L : List (Option Value)) (S : List Value) (h : Hp) : Prop :=
  ∀ (p : Program) (e : Env) (s : State) (m : MethodId) (args : Array Value) (below : List Frame) (meth : Method) (c : Code), Cx G md p s m args meth c → ∀ (ls : Array Slot) (H : Heap) (locs : List Loc) (cells slots : Nat), LR G md.2.2.1 L ls → HR G s h H → va_S (fun q => G.2.1 ≤ q) s.heap H locs → cells + kc ≤ R.cells → slots + ks ≤ R.slots → W p l e R s m args below meth c H locs cells slots (Z below args s) (F0 m pc ls (S.map (cv G)))
section SR
variable {l : Launch} {G : Gx} {Z : Zt} {md : Md} {R : Room} {kc ks pc : Nat} {L : List (Option Value)} {S : List Value} {h : Hp}
theorem S_iconst {n : Int} {v : Int32} (hd : decode md.2.1 pc = .ok (.iconst n, 1)) (hv : Int32.ofInt n = v) (k : WP l G Z md R kc ks (pc + 1) L (.int v :: S) h) : WP l G Z md R kc ks pc L (S) h := by
  intro p e s m args below meth c C ls H locs cells slots hl hh hs hc hk
  exact lv_iconst C.1 C.2.1 hd hv (k p e s m args below meth c C ls H locs cells slots hl hh hs hc hk)
theorem S_bipush {n : Int} {v : Int32} (hd : decode md.2.1 pc = .ok (.bipush n, 2)) (hv : (Int8.ofInt n).toInt32 = v) (k : WP l G Z md R kc ks (pc + 2) L (.int v :: S) h) : WP l G Z md R kc ks pc L (S) h := by
  intro p e s m args below meth c C ls H locs cells slots hl hh hs hc hk
  exact lv_bipush C.1 C.2.1 hd hv (k p e s m args below meth c C ls H locs cells slots hl hh hs hc hk)
theorem S_sipush {n : Int} {v : Int32} (hd : decode md.2.1 pc = .ok (.sipush n, 3)) (hv : (Int16.ofInt n).toInt32 = v) (k : WP l G Z md R kc ks (pc + 3) L (.int v :: S) h) : WP l G Z md R kc ks pc L (S) h := by
  intro p e s m args below meth c C ls H locs cells slots hl hh hs hc hk
  exact lv_sipush C.1 C.2.1 hd hv (k p e s m args below meth c C ls H locs cells slots hl hh hs hc hk)
theorem S_lconst {n : Fin 2} {v : Int64} (hd : decode md.2.1 pc = .ok (.lconst n, 1)) (hv : Int64.ofNat (n : Nat) = v) (k : WP l G Z md R kc ks (pc + 1) L (.long v :: S) h) : WP l G Z md R kc ks pc L (S) h := by
  intro p e s m args below meth c C ls H locs cells slots hl hh hs hc hk
  exact lv_lconst C.1 C.2.1 hd hv (k p e s m args below meth c C ls H locs cells slots hl hh hs hc hk)
theorem S_null  (hd : decode md.2.1 pc = .ok (.aconst_null, 1))  (k : WP l G Z md R kc ks (pc + 1) L (.null :: S) h) : WP l G Z md R kc ks pc L (S) h := by
  intro p e s m args below meth c C ls H locs cells slots hl hh hs hc hk
  exact lv_null C.1 C.2.1 hd  (k p e s m args below meth c C ls H locs cells slots hl hh hs hc hk)
theorem S_iadd {x y : Int32} (hd : decode md.2.1 pc = .ok (.iadd, 1))  (k : WP l G Z md R kc ks (pc + 1) L (.int (x + y) :: S) h) : WP l G Z md R kc ks pc L (.int y :: .int x :: S) h := by
  intro p e s m args below meth c C ls H locs cells slots hl hh hs hc hk
  exact lv_iadd C.1 C.2.1 hd  (k p e s m args below meth c C ls H locs cells slots hl hh hs hc hk)
theorem S_isub {x y : Int32} (hd : decode md.2.1 pc = .ok (.isub, 1))  (k : WP l G Z md R kc ks (pc + 1) L (.int (x - y) :: S) h) : WP l G Z md R kc ks pc L (.int y :: .int x :: S) h := by
  intro p e s m args below meth c C ls H locs cells slots hl hh hs hc hk
  exact lv_isub C.1 C.2.1 hd  (k p e s m args below meth c C ls H locs cells slots hl hh hs hc hk)
theorem S_imul {x y : Int32} (hd : decode md.2.1 pc = .ok (.imul, 1))  (k : WP l G Z md R kc ks (pc + 1) L (.int (x * y) :: S) h) : WP l G Z md R kc ks pc L (.int y :: .int x :: S) h := by
  intro p e s m args below meth c C ls H locs cells slots hl hh hs hc hk
  exact lv_imul C.1 C.2.1 hd  (k p e s m args below meth c C ls H locs cells slots hl hh hs hc hk)
theorem S_iand {x y : Int32} (hd : decode md.2.1 pc = .ok (.iand, 1))  (k : WP l G Z md R kc ks (pc + 1) L (.int (x &&& y) :: S) h) : WP l G Z md R kc ks pc L (.int y :: .int x :: S) h := by
  intro p e s m args below meth c C ls H locs cells slots hl hh hs hc hk
  exact lv_iand C.1 C.2.1 hd  (k p e s m args below meth c C ls H locs cells slots hl hh hs hc hk)
theorem S_ior {x y : Int32} (hd : decode md.2.1 pc = .ok (.ior, 1))  (k : WP l G Z md R kc ks (pc + 1) L (.int (x ||| y) :: S) h) : WP l G Z md R kc ks pc L (.int y :: .int x :: S) h := by
  intro p e s m args below meth c C ls H locs cells slots hl hh hs hc hk
  exact lv_ior C.1 C.2.1 hd  (k p e s m args below meth c C ls H locs cells slots hl hh hs hc hk)
theorem S_ixor {x y : Int32} (hd : decode md.2.1 pc = .ok (.ixor, 1))  (k : WP l G Z md R kc ks (pc + 1) L (.int (x ^^^ y) :: S) h) : WP l G Z md R kc ks pc L (.int y :: .int x :: S) h := by
  intro p e s m args below meth c C ls H locs cells slots hl hh hs hc hk
  exact lv_ixor C.1 C.2.1 hd  (k p e s m args below meth c C ls H locs cells slots hl hh hs hc hk)
theorem S_ladd {x y : Int64} (hd : decode md.2.1 pc = .ok (.ladd, 1))  (k : WP l G Z md R kc ks (pc + 1) L (.long (x + y) :: S) h) : WP l G Z md R kc ks pc L (.long y :: .long x :: S) h := by
  intro p e s m args below meth c C ls H locs cells slots hl hh hs hc hk
  exact lv_ladd C.1 C.2.1 hd  (k p e s m args below meth c C ls H locs cells slots hl hh hs hc hk)
theorem S_lsub {x y : Int64} (hd : decode md.2.1 pc = .ok (.lsub, 1))  (k : WP l G Z md R kc ks (pc + 1) L (.long (x - y) :: S) h) : WP l G Z md R kc ks pc L (.long y :: .long x :: S) h := by
  intro p e s m args below meth c C ls H locs cells slots hl hh hs hc hk
  exact lv_lsub C.1 C.2.1 hd  (k p e s m args below meth c C ls H locs cells slots hl hh hs hc hk)
theorem S_lmul {x y : Int64} (hd : decode md.2.1 pc = .ok (.lmul, 1))  (k : WP l G Z md R kc ks (pc + 1) L (.long (x * y) :: S) h) : WP l G Z md R kc ks pc L (.long y :: .long x :: S) h := by
  intro p e s m args below meth c C ls H locs cells slots hl hh hs hc hk
  exact lv_lmul C.1 C.2.1 hd  (k p e s m args below meth c C ls H locs cells slots hl hh hs hc hk)
theorem S_land {x y : Int64} (hd : decode md.2.1 pc = .ok (.land, 1))  (k : WP l G Z md R kc ks (pc + 1) L (.long (x &&& y) :: S) h) : WP l G Z md R kc ks pc L (.long y :: .long x :: S) h := by
  intro p e s m args below meth c C ls H locs cells slots hl hh hs hc hk
  exact lv_land C.1 C.2.1 hd  (k p e s m args below meth c C ls H locs cells slots hl hh hs hc hk)
theorem S_lor {x y : Int64} (hd : decode md.2.1 pc = .ok (.lor, 1))  (k : WP l G Z md R kc ks (pc + 1) L (.long (x ||| y) :: S) h) : WP l G Z md R kc ks pc L (.long y :: .long x :: S) h := by
  intro p e s m args below meth c C ls H locs cells slots hl hh hs hc hk
  exact lv_lor C.1 C.2.1 hd  (k p e s m args below meth c C ls H locs cells slots hl hh hs hc hk)
theorem S_idiv {x y : Int32} (hd : decode md.2.1 pc = .ok (.idiv, 1)) (hne : ¬ y = 0) (k : WP l G Z md R kc ks (pc + 1) L (.int (x / y) :: S) h) : WP l G Z md R kc ks pc L (.int y :: .int x :: S) h := by
  intro p e s m args below meth c C ls H locs cells slots hl hh hs hc hk
  exact lv_idiv C.1 C.2.1 hd hne (k p e s m args below meth c C ls H locs cells slots hl hh hs hc hk)
theorem S_irem {x y : Int32} (hd : decode md.2.1 pc = .ok (.irem, 1)) (hne : ¬ y = 0) (k : WP l G Z md R kc ks (pc + 1) L (.int (x - x / y * y) :: S) h) : WP l G Z md R kc ks pc L (.int y :: .int x :: S) h := by
  intro p e s m args below meth c C ls H locs cells slots hl hh hs hc hk
  exact lv_irem C.1 C.2.1 hd hne (k p e s m args below meth c C ls H locs cells slots hl hh hs hc hk)
theorem S_ldiv {x y : Int64} (hd : decode md.2.1 pc = .ok (.ldiv, 1)) (hne : ¬ y = 0) (k : WP l G Z md R kc ks (pc + 1) L (.long (x / y) :: S) h) : WP l G Z md R kc ks pc L (.long y :: .long x :: S) h := by
  intro p e s m args below meth c C ls H locs cells slots hl hh hs hc hk
  exact lv_ldiv C.1 C.2.1 hd hne (k p e s m args below meth c C ls H locs cells slots hl hh hs hc hk)
theorem S_lrem {x y : Int64} (hd : decode md.2.1 pc = .ok (.lrem, 1)) (hne : ¬ y = 0) (k : WP l G Z md R kc ks (pc + 1) L (.long (x - x / y * y) :: S) h) : WP l G Z md R kc ks pc L (.long y :: .long x :: S) h := by
  intro p e s m args below meth c C ls H locs cells slots hl hh hs hc hk
  exact lv_lrem C.1 C.2.1 hd hne (k p e s m args below meth c C ls H locs cells slots hl hh hs hc hk)
theorem S_ishl {x y : Int32} (hd : decode md.2.1 pc = .ok (.ishl, 1))  (k : WP l G Z md R kc ks (pc + 1) L (.int (x <<< (y &&& 31)) :: S) h) : WP l G Z md R kc ks pc L (.int y :: .int x :: S) h := by
  intro p e s m args below meth c C ls H locs cells slots hl hh hs hc hk
  exact lv_ishl C.1 C.2.1 hd  (k p e s m args below meth c C ls H locs cells slots hl hh hs hc hk)
theorem S_ishr {x y : Int32} (hd : decode md.2.1 pc = .ok (.ishr, 1))  (k : WP l G Z md R kc ks (pc + 1) L (.int (x >>> (y &&& 31)) :: S) h) : WP l G Z md R kc ks pc L (.int y :: .int x :: S) h := by
  intro p e s m args below meth c C ls H locs cells slots hl hh hs hc hk
  exact lv_ishr C.1 C.2.1 hd  (k p e s m args below meth c C ls H locs cells slots hl hh hs hc hk)
theorem S_lshl {x : Int64} {y : Int32} (hd : decode md.2.1 pc = .ok (.lshl, 1))  (k : WP l G Z md R kc ks (pc + 1) L (.long (x <<< (y.toInt64 &&& 63)) :: S) h) : WP l G Z md R kc ks pc L (.int y :: .long x :: S) h := by
  intro p e s m args below meth c C ls H locs cells slots hl hh hs hc hk
  exact lv_lshl C.1 C.2.1 hd rfl (k p e s m args below meth c C ls H locs cells slots hl hh hs hc hk)
theorem S_lshr {x : Int64} {y : Int32} (hd : decode md.2.1 pc = .ok (.lshr, 1))  (k : WP l G Z md R kc ks (pc + 1) L (.long (x >>> (y.toInt64 &&& 63)) :: S) h) : WP l G Z md R kc ks pc L (.int y :: .long x :: S) h := by
  intro p e s m args below meth c C ls H locs cells slots hl hh hs hc hk
  exact lv_lshr C.1 C.2.1 hd rfl (k p e s m args below meth c C ls H locs cells slots hl hh hs hc hk)
theorem S_i2l {x : Int32} (hd : decode md.2.1 pc = .ok (.i2l, 1))  (k : WP l G Z md R kc ks (pc + 1) L (.long x.toInt64 :: S) h) : WP l G Z md R kc ks pc L (.int x :: S) h := by
  intro p e s m args below meth c C ls H locs cells slots hl hh hs hc hk
  exact lv_i2l C.1 C.2.1 hd rfl (k p e s m args below meth c C ls H locs cells slots hl hh hs hc hk)
theorem S_l2i {x : Int64} (hd : decode md.2.1 pc = .ok (.l2i, 1))  (k : WP l G Z md R kc ks (pc + 1) L (.int x.toInt32 :: S) h) : WP l G Z md R kc ks pc L (.long x :: S) h := by
  intro p e s m args below meth c C ls H locs cells slots hl hh hs hc hk
  exact lv_l2i C.1 C.2.1 hd rfl (k p e s m args below meth c C ls H locs cells slots hl hh hs hc hk)
theorem S_lcmp {x y : Int64} (hd : decode md.2.1 pc = .ok (.lcmp, 1))  (k : WP l G Z md R kc ks (pc + 1) L (.int (lg_cmp x y) :: S) h) : WP l G Z md R kc ks pc L (.long y :: .long x :: S) h := by
  intro p e s m args below meth c C ls H locs cells slots hl hh hs hc hk
  exact W.lcmp C.1 C.2.1 hd  (k p e s m args below meth c C ls H locs cells slots hl hh hs hc hk)
theorem S_dup {v : Value} (hd : decode md.2.1 pc = .ok (.dup, 1)) (hv : v.category = 1) (k : WP l G Z md R kc ks (pc + 1) L (v :: v :: S) h) : WP l G Z md R kc ks pc L (v :: S) h := by
  intro p e s m args below meth c C ls H locs cells slots hl hh hs hc hk
  exact lv_dup C.1 C.2.1 hd ((cv_cat G v).trans hv) (k p e s m args below meth c C ls H locs cells slots hl hh hs hc hk)
theorem S_dup2 {v w : Value} (hd : decode md.2.1 pc = .ok (.dup2, 1)) (hv : v.category = 1) (hw : w.category = 1) (k : WP l G Z md R kc ks (pc + 1) L (v :: w :: v :: w :: S) h) : WP l G Z md R kc ks pc L (v :: w :: S) h := by
  intro p e s m args below meth c C ls H locs cells slots hl hh hs hc hk
  exact lv_dup2_11 C.1 C.2.1 hd ((cv_cat G v).trans hv) ((cv_cat G w).trans hw) (k p e s m args below meth c C ls H locs cells slots hl hh hs hc hk)
theorem S_pop {v : Value} (hd : decode md.2.1 pc = .ok (.pop, 1)) (hv : v.category = 1) (k : WP l G Z md R kc ks (pc + 1) L (S) h) : WP l G Z md R kc ks pc L (v :: S) h := by
  intro p e s m args below meth c C ls H locs cells slots hl hh hs hc hk
  exact lv_pop C.1 C.2.1 hd ((cv_cat G v).trans hv) (k p e s m args below meth c C ls H locs cells slots hl hh hs hc hk)
theorem S_ldc {i : Nat} {v : Int32} (hd : decode md.2.1 pc = .ok (.ldc i, 2)) (hw : Jvm.Cond.constant md.1.cls i v ∈ lw_good) (k : WP l G Z md R kc ks (pc + 2) L (.int v :: S) h) : WP l G Z md R kc ks pc L (S) h := by
  intro p e s m args below meth c C ls H locs cells slots hl hh hs hc hk
  exact (fun a b c d => lv_ldc a b C.2.2.2.2.1 (C.2.2.2.2.2.1 _ hw) c d) C.1 C.2.1 hd  (k p e s m args below meth c C ls H locs cells slots hl hh hs hc hk)
theorem S_ldcw {i : Nat} {v : Int32} (hd : decode md.2.1 pc = .ok (.ldc_w i, 3)) (hw : Jvm.Cond.constant md.1.cls i v ∈ lw_good) (k : WP l G Z md R kc ks (pc + 3) L (.int v :: S) h) : WP l G Z md R kc ks pc L (S) h := by
  intro p e s m args below meth c C ls H locs cells slots hl hh hs hc hk
  exact (fun a b c d => lv_ldcw a b C.2.2.2.2.1 (C.2.2.2.2.2.1 _ hw) c d) C.1 C.2.1 hd  (k p e s m args below meth c C ls H locs cells slots hl hh hs hc hk)
theorem S_ldc2 {i : Nat} {v : Int64} (hd : decode md.2.1 pc = .ok (.ldc2_w i, 3)) (hw : Jvm.Cond.constantLong md.1.cls i v ∈ lw_good) (k : WP l G Z md R kc ks (pc + 3) L (.long v :: S) h) : WP l G Z md R kc ks pc L (S) h := by
  intro p e s m args below meth c C ls H locs cells slots hl hh hs hc hk
  exact (fun a b c d => lv_ldc2 a b C.2.2.2.2.1 (C.2.2.2.2.2.1 _ hw) c d) C.1 C.2.1 hd  (k p e s m args below meth c C ls H locs cells slots hl hh hs hc hk)
theorem S_iload_n {j : Fin 4} {i : Nat} {x : Int32} (hd : decode md.2.1 pc = .ok (.iload_n j, 1)) (hi : (j : Nat) = i) (hx : L[i]? = some (some (.int x))) (k : WP l G Z md R kc ks (pc + 1) L (.int x :: S) h) : WP l G Z md R kc ks pc L (S) h := by
  intro p e s m args below meth c C ls H locs cells slots hl hh hs hc hk
  exact lv_iload_n C.1 C.2.1 hd hi (hl.2.2.2 _ _ hx) (k p e s m args below meth c C ls H locs cells slots hl hh hs hc hk)
theorem S_iload {i : Nat} {x : Int32} (hd : decode md.2.1 pc = .ok (.iload i, 2)) (hx : L[i]? = some (some (.int x))) (k : WP l G Z md R kc ks (pc + 2) L (.int x :: S) h) : WP l G Z md R kc ks pc L (S) h := by
  intro p e s m args below meth c C ls H locs cells slots hl hh hs hc hk
  exact lv_iload C.1 C.2.1 hd (hl.2.2.2 _ _ hx) (k p e s m args below meth c C ls H locs cells slots hl hh hs hc hk)
theorem S_lload_n {j : Fin 4} {i : Nat} {x : Int64} (hd : decode md.2.1 pc = .ok (.lload_n j, 1)) (hi : (j : Nat) = i) (hx : L[i]? = some (some (.long x))) (k : WP l G Z md R kc ks (pc + 1) L (.long x :: S) h) : WP l G Z md R kc ks pc L (S) h := by
  intro p e s m args below meth c C ls H locs cells slots hl hh hs hc hk
  exact lv_lload_n C.1 C.2.1 hd hi (hl.2.2.2 _ _ hx) (k p e s m args below meth c C ls H locs cells slots hl hh hs hc hk)
theorem S_lload {i : Nat} {x : Int64} (hd : decode md.2.1 pc = .ok (.lload i, 2)) (hx : L[i]? = some (some (.long x))) (k : WP l G Z md R kc ks (pc + 2) L (.long x :: S) h) : WP l G Z md R kc ks pc L (S) h := by
  intro p e s m args below meth c C ls H locs cells slots hl hh hs hc hk
  exact lv_lload C.1 C.2.1 hd (hl.2.2.2 _ _ hx) (k p e s m args below meth c C ls H locs cells slots hl hh hs hc hk)
theorem S_aload_n {j : Fin 4} {i : Nat} {x : Nat} (hd : decode md.2.1 pc = .ok (.aload_n j, 1)) (hi : (j : Nat) = i) (hx : L[i]? = some (some (.ref x))) (k : WP l G Z md R kc ks (pc + 1) L (.ref x :: S) h) : WP l G Z md R kc ks pc L (S) h := by
  intro p e s m args below meth c C ls H locs cells slots hl hh hs hc hk
  exact lv_aload_n C.1 C.2.1 hd hi (hl.2.2.2 _ _ hx) (k p e s m args below meth c C ls H locs cells slots hl hh hs hc hk)
theorem S_aload {i : Nat} {x : Nat} (hd : decode md.2.1 pc = .ok (.aload i, 2)) (hx : L[i]? = some (some (.ref x))) (k : WP l G Z md R kc ks (pc + 2) L (.ref x :: S) h) : WP l G Z md R kc ks pc L (S) h := by
  intro p e s m args below meth c C ls H locs cells slots hl hh hs hc hk
  exact lv_aload C.1 C.2.1 hd (hl.2.2.2 _ _ hx) (k p e s m args below meth c C ls H locs cells slots hl hh hs hc hk)
theorem S_aload_nN {j : Fin 4} {i : Nat} (hd : decode md.2.1 pc = .ok (.aload_n j, 1)) (hi : (j : Nat) = i) (hx : L[i]? = some (some .null)) (k : WP l G Z md R kc ks (pc + 1) L (.null :: S) h) : WP l G Z md R kc ks pc L (S) h := by
  intro p e s m args below meth c C ls H locs cells slots hl hh hs hc hk
  exact lv_aload_nN C.1 C.2.1 hd hi (hl.2.2.2 _ _ hx) (k p e s m args below meth c C ls H locs cells slots hl hh hs hc hk)
theorem S_aloadN {i : Nat} (hd : decode md.2.1 pc = .ok (.aload i, 2)) (hx : L[i]? = some (some .null)) (k : WP l G Z md R kc ks (pc + 2) L (.null :: S) h) : WP l G Z md R kc ks pc L (S) h := by
  intro p e s m args below meth c C ls H locs cells slots hl hh hs hc hk
  exact lv_aloadN C.1 C.2.1 hd (hl.2.2.2 _ _ hx) (k p e s m args below meth c C ls H locs cells slots hl hh hs hc hk)
theorem S_istore_n {j : Fin 4} {i : Nat} {x : Int32} {L' : List (Option Value)} (hd : decode md.2.1 pc = .ok (.istore_n j, 1)) (hi : (j : Nat) = i) (hn : i < md.2.2.1) (hL : st1 L i (.int x) = L') (k : WP l G Z md R kc ks (pc + 1) L' S h) : WP l G Z md R kc ks pc L (.int x :: S) h := by
  intro p e s m args below meth c C ls H locs cells slots hl hh hs hc hk
  subst hL
  exact lv_istore_n C.1 C.2.1 hd hi hl.has hn rfl (fun ls' hl' => k p e s m args below meth c C ls' H locs cells slots (LR.of1 (v := .int x) hl.1 hl') hh hs hc hk)
theorem S_istore {i : Nat} {x : Int32} {L' : List (Option Value)} (hd : decode md.2.1 pc = .ok (.istore i, 2)) (hn : i < md.2.2.1) (hL : st1 L i (.int x) = L') (k : WP l G Z md R kc ks (pc + 2) L' S h) : WP l G Z md R kc ks pc L (.int x :: S) h := by
  intro p e s m args below meth c C ls H locs cells slots hl hh hs hc hk
  subst hL
  exact lv_istore C.1 C.2.1 hd hl.has hn rfl (fun ls' hl' => k p e s m args below meth c C ls' H locs cells slots (LR.of1 (v := .int x) hl.1 hl') hh hs hc hk)
theorem S_lstore_n {j : Fin 4} {i : Nat} {x : Int64} {L' : List (Option Value)} (hd : decode md.2.1 pc = .ok (.lstore_n j, 1)) (hi : (j : Nat) = i) (hn : i + 1 < md.2.2.1) (hL : st2 L i (.long x) = L') (k : WP l G Z md R kc ks (pc + 1) L' S h) : WP l G Z md R kc ks pc L (.long x :: S) h := by
  intro p e s m args below meth c C ls H locs cells slots hl hh hs hc hk
  subst hL
  exact lv_lstore_n C.1 C.2.1 hd hi hl.has hn rfl (fun ls' hl' => k p e s m args below meth c C ls' H locs cells slots (LR.of2 (v := .long x) hl.1 hl') hh hs hc hk)
theorem S_lstore {i : Nat} {x : Int64} {L' : List (Option Value)} (hd : decode md.2.1 pc = .ok (.lstore i, 2)) (hn : i + 1 < md.2.2.1) (hL : st2 L i (.long x) = L') (k : WP l G Z md R kc ks (pc + 2) L' S h) : WP l G Z md R kc ks pc L (.long x :: S) h := by
  intro p e s m args below meth c C ls H locs cells slots hl hh hs hc hk
  subst hL
  exact lv_lstore C.1 C.2.1 hd hl.has hn rfl (fun ls' hl' => k p e s m args below meth c C ls' H locs cells slots (LR.of2 (v := .long x) hl.1 hl') hh hs hc hk)
theorem S_astore_n {j : Fin 4} {i : Nat} {x : Nat} {L' : List (Option Value)} (hd : decode md.2.1 pc = .ok (.astore_n j, 1)) (hi : (j : Nat) = i) (hn : i < md.2.2.1) (hL : st1 L i (.ref x) = L') (k : WP l G Z md R kc ks (pc + 1) L' S h) : WP l G Z md R kc ks pc L (.ref x :: S) h := by
  intro p e s m args below meth c C ls H locs cells slots hl hh hs hc hk
  subst hL
  exact lv_astore_n C.1 C.2.1 hd hi hl.has hn rfl (fun ls' hl' => k p e s m args below meth c C ls' H locs cells slots (LR.of1 (v := .ref x) hl.1 hl') hh hs hc hk)
theorem S_astore {i : Nat} {x : Nat} {L' : List (Option Value)} (hd : decode md.2.1 pc = .ok (.astore i, 2)) (hn : i < md.2.2.1) (hL : st1 L i (.ref x) = L') (k : WP l G Z md R kc ks (pc + 2) L' S h) : WP l G Z md R kc ks pc L (.ref x :: S) h := by
  intro p e s m args below meth c C ls H locs cells slots hl hh hs hc hk
  subst hL
  exact lv_astore C.1 C.2.1 hd hl.has hn rfl (fun ls' hl' => k p e s m args below meth c C ls' H locs cells slots (LR.of1 (v := .ref x) hl.1 hl') hh hs hc hk)
theorem S_astore_nN {j : Fin 4} {i : Nat}  {L' : List (Option Value)} (hd : decode md.2.1 pc = .ok (.astore_n j, 1)) (hi : (j : Nat) = i) (hn : i < md.2.2.1) (hL : st1 L i (.null) = L') (k : WP l G Z md R kc ks (pc + 1) L' S h) : WP l G Z md R kc ks pc L (.null :: S) h := by
  intro p e s m args below meth c C ls H locs cells slots hl hh hs hc hk
  subst hL
  exact lv_astore_nN C.1 C.2.1 hd hi hl.has hn rfl (fun ls' hl' => k p e s m args below meth c C ls' H locs cells slots (LR.of1 (v := .null) hl.1 hl') hh hs hc hk)
theorem S_astoreN {i : Nat}  {L' : List (Option Value)} (hd : decode md.2.1 pc = .ok (.astore i, 2)) (hn : i < md.2.2.1) (hL : st1 L i (.null) = L') (k : WP l G Z md R kc ks (pc + 2) L' S h) : WP l G Z md R kc ks pc L (.null :: S) h := by
  intro p e s m args below meth c C ls H locs cells slots hl hh hs hc hk
  subst hL
  exact lv_astoreN C.1 C.2.1 hd hl.has hn rfl (fun ls' hl' => k p e s m args below meth c C ls' H locs cells slots (LR.of1 (v := .null) hl.1 hl') hh hs hc hk)
theorem S_iinc {i : Nat} {n : Int} {x v : Int32} {L' : List (Option Value)} (hd : decode md.2.1 pc = .ok (.iinc i n, 3)) (hx : L[i]? = some (some (.int x))) (hv : Int32.ofInt n = v) (hL : st1 L i (.int (x + v)) = L') (k : WP l G Z md R kc ks (pc + 3) L' S h) : WP l G Z md R kc ks pc L S h := by
  intro p e s m args below meth c C ls H locs cells slots hl hh hs hc hk
  subst hL
  subst hv
  obtain ⟨j, hj⟩ := List.getElem?_of_mem (lvl_mem (G := G) hx)
  exact lv_iinc C.1 C.2.1 hd hl.has hj rfl (by have := (List.getElem?_eq_some_iff.mp hx).1; rw [hl.1] at this; exact this) rfl (fun ls' hl' => k p e s m args below meth c C ls' H locs cells slots (LR.of1 (v := .int _) hl.1 hl') hh hs hc hk)
theorem S_if_eq {x : Int32} {off : Int} {tgt : Nat} (hd : decode md.2.1 pc = .ok (.ifCond .eq off, 3)) (ht : (pc : Int) + off = (tgt : Int)) (kt : x = 0 → WP l G Z md R kc ks tgt L S h) (kf : ¬ x = 0 → WP l G Z md R kc ks (pc + 3) L S h) : WP l G Z md R kc ks pc L (.int x :: S) h := by
  intro p e s m args below meth c C ls H locs cells slots hl hh hs hc hk
  exact lv_if_eq C.1 C.2.1 hd ht (fun q => kt q p e s m args below meth c C ls H locs cells slots hl hh hs hc hk) (fun q => kf q p e s m args below meth c C ls H locs cells slots hl hh hs hc hk)
theorem S_if_ne {x : Int32} {off : Int} {tgt : Nat} (hd : decode md.2.1 pc = .ok (.ifCond .ne off, 3)) (ht : (pc : Int) + off = (tgt : Int)) (kt : ¬ x = 0 → WP l G Z md R kc ks tgt L S h) (kf : x = 0 → WP l G Z md R kc ks (pc + 3) L S h) : WP l G Z md R kc ks pc L (.int x :: S) h := by
  intro p e s m args below meth c C ls H locs cells slots hl hh hs hc hk
  exact lv_if_ne C.1 C.2.1 hd ht (fun q => kt q p e s m args below meth c C ls H locs cells slots hl hh hs hc hk) (fun q => kf q p e s m args below meth c C ls H locs cells slots hl hh hs hc hk)
theorem S_if_lt {x : Int32} {off : Int} {tgt : Nat} (hd : decode md.2.1 pc = .ok (.ifCond .lt off, 3)) (ht : (pc : Int) + off = (tgt : Int)) (kt : x < 0 → WP l G Z md R kc ks tgt L S h) (kf : ¬ x < 0 → WP l G Z md R kc ks (pc + 3) L S h) : WP l G Z md R kc ks pc L (.int x :: S) h := by
  intro p e s m args below meth c C ls H locs cells slots hl hh hs hc hk
  exact lv_if_lt C.1 C.2.1 hd ht (fun q => kt q p e s m args below meth c C ls H locs cells slots hl hh hs hc hk) (fun q => kf q p e s m args below meth c C ls H locs cells slots hl hh hs hc hk)
theorem S_if_ge {x : Int32} {off : Int} {tgt : Nat} (hd : decode md.2.1 pc = .ok (.ifCond .ge off, 3)) (ht : (pc : Int) + off = (tgt : Int)) (kt : 0 ≤ x → WP l G Z md R kc ks tgt L S h) (kf : ¬ 0 ≤ x → WP l G Z md R kc ks (pc + 3) L S h) : WP l G Z md R kc ks pc L (.int x :: S) h := by
  intro p e s m args below meth c C ls H locs cells slots hl hh hs hc hk
  exact lv_if_ge C.1 C.2.1 hd ht (fun q => kt q p e s m args below meth c C ls H locs cells slots hl hh hs hc hk) (fun q => kf q p e s m args below meth c C ls H locs cells slots hl hh hs hc hk)
theorem S_if_gt {x : Int32} {off : Int} {tgt : Nat} (hd : decode md.2.1 pc = .ok (.ifCond .gt off, 3)) (ht : (pc : Int) + off = (tgt : Int)) (kt : 0 < x → WP l G Z md R kc ks tgt L S h) (kf : ¬ 0 < x → WP l G Z md R kc ks (pc + 3) L S h) : WP l G Z md R kc ks pc L (.int x :: S) h := by
  intro p e s m args below meth c C ls H locs cells slots hl hh hs hc hk
  exact lv_if_gt C.1 C.2.1 hd ht (fun q => kt q p e s m args below meth c C ls H locs cells slots hl hh hs hc hk) (fun q => kf q p e s m args below meth c C ls H locs cells slots hl hh hs hc hk)
theorem S_if_le {x : Int32} {off : Int} {tgt : Nat} (hd : decode md.2.1 pc = .ok (.ifCond .le off, 3)) (ht : (pc : Int) + off = (tgt : Int)) (kt : x ≤ 0 → WP l G Z md R kc ks tgt L S h) (kf : ¬ x ≤ 0 → WP l G Z md R kc ks (pc + 3) L S h) : WP l G Z md R kc ks pc L (.int x :: S) h := by
  intro p e s m args below meth c C ls H locs cells slots hl hh hs hc hk
  exact lv_if_le C.1 C.2.1 hd ht (fun q => kt q p e s m args below meth c C ls H locs cells slots hl hh hs hc hk) (fun q => kf q p e s m args below meth c C ls H locs cells slots hl hh hs hc hk)
theorem S_icmp_eq {x y : Int32} {off : Int} {tgt : Nat} (hd : decode md.2.1 pc = .ok (.if_icmp .eq off, 3)) (ht : (pc : Int) + off = (tgt : Int)) (kt : x = y → WP l G Z md R kc ks tgt L S h) (kf : ¬ x = y → WP l G Z md R kc ks (pc + 3) L S h) : WP l G Z md R kc ks pc L (.int y :: .int x :: S) h := by
  intro p e s m args below meth c C ls H locs cells slots hl hh hs hc hk
  exact lv_icmp_eq C.1 C.2.1 hd ht (fun q => kt q p e s m args below meth c C ls H locs cells slots hl hh hs hc hk) (fun q => kf q p e s m args below meth c C ls H locs cells slots hl hh hs hc hk)
theorem S_icmp_ne {x y : Int32} {off : Int} {tgt : Nat} (hd : decode md.2.1 pc = .ok (.if_icmp .ne off, 3)) (ht : (pc : Int) + off = (tgt : Int)) (kt : ¬ x = y → WP l G Z md R kc ks tgt L S h) (kf : x = y → WP l G Z md R kc ks (pc + 3) L S h) : WP l G Z md R kc ks pc L (.int y :: .int x :: S) h := by
  intro p e s m args below meth c C ls H locs cells slots hl hh hs hc hk
  exact lv_icmp_ne C.1 C.2.1 hd ht (fun q => kt q p e s m args below meth c C ls H locs cells slots hl hh hs hc hk) (fun q => kf q p e s m args below meth c C ls H locs cells slots hl hh hs hc hk)
theorem S_icmp_lt {x y : Int32} {off : Int} {tgt : Nat} (hd : decode md.2.1 pc = .ok (.if_icmp .lt off, 3)) (ht : (pc : Int) + off = (tgt : Int)) (kt : x < y → WP l G Z md R kc ks tgt L S h) (kf : ¬ x < y → WP l G Z md R kc ks (pc + 3) L S h) : WP l G Z md R kc ks pc L (.int y :: .int x :: S) h := by
  intro p e s m args below meth c C ls H locs cells slots hl hh hs hc hk
  exact lv_icmp_lt C.1 C.2.1 hd ht (fun q => kt q p e s m args below meth c C ls H locs cells slots hl hh hs hc hk) (fun q => kf q p e s m args below meth c C ls H locs cells slots hl hh hs hc hk)
theorem S_icmp_ge {x y : Int32} {off : Int} {tgt : Nat} (hd : decode md.2.1 pc = .ok (.if_icmp .ge off, 3)) (ht : (pc : Int) + off = (tgt : Int)) (kt : y ≤ x → WP l G Z md R kc ks tgt L S h) (kf : ¬ y ≤ x → WP l G Z md R kc ks (pc + 3) L S h) : WP l G Z md R kc ks pc L (.int y :: .int x :: S) h := by
  intro p e s m args below meth c C ls H locs cells slots hl hh hs hc hk
  exact lv_icmp_ge C.1 C.2.1 hd ht (fun q => kt q p e s m args below meth c C ls H locs cells slots hl hh hs hc hk) (fun q => kf q p e s m args below meth c C ls H locs cells slots hl hh hs hc hk)
theorem S_icmp_gt {x y : Int32} {off : Int} {tgt : Nat} (hd : decode md.2.1 pc = .ok (.if_icmp .gt off, 3)) (ht : (pc : Int) + off = (tgt : Int)) (kt : y < x → WP l G Z md R kc ks tgt L S h) (kf : ¬ y < x → WP l G Z md R kc ks (pc + 3) L S h) : WP l G Z md R kc ks pc L (.int y :: .int x :: S) h := by
  intro p e s m args below meth c C ls H locs cells slots hl hh hs hc hk
  exact lv_icmp_gt C.1 C.2.1 hd ht (fun q => kt q p e s m args below meth c C ls H locs cells slots hl hh hs hc hk) (fun q => kf q p e s m args below meth c C ls H locs cells slots hl hh hs hc hk)
theorem S_icmp_le {x y : Int32} {off : Int} {tgt : Nat} (hd : decode md.2.1 pc = .ok (.if_icmp .le off, 3)) (ht : (pc : Int) + off = (tgt : Int)) (kt : x ≤ y → WP l G Z md R kc ks tgt L S h) (kf : ¬ x ≤ y → WP l G Z md R kc ks (pc + 3) L S h) : WP l G Z md R kc ks pc L (.int y :: .int x :: S) h := by
  intro p e s m args below meth c C ls H locs cells slots hl hh hs hc hk
  exact lv_icmp_le C.1 C.2.1 hd ht (fun q => kt q p e s m args below meth c C ls H locs cells slots hl hh hs hc hk) (fun q => kf q p e s m args below meth c C ls H locs cells slots hl hh hs hc hk)
theorem S_goto {off : Int} {tgt : Nat} (hd : decode md.2.1 pc = .ok (.goto off, 3)) (ht : (pc : Int) + off = (tgt : Int)) (k : WP l G Z md R kc ks tgt L S h) : WP l G Z md R kc ks pc L S h := by
  intro p e s m args below meth c C ls H locs cells slots hl hh hs hc hk
  exact lv_goto C.1 C.2.1 hd ht (k p e s m args below meth c C ls H locs cells slots hl hh hs hc hk)
theorem S_ifnull {x : Nat} {off : Int} (hd : decode md.2.1 pc = .ok (.ifnull off, 3)) (k : WP l G Z md R kc ks (pc + 3) L S h) : WP l G Z md R kc ks pc L (.ref x :: S) h := by
  intro p e s m args below meth c C ls H locs cells slots hl hh hs hc hk
  exact lv_ifnull C.1 C.2.1 hd (k p e s m args below meth c C ls H locs cells slots hl hh hs hc hk)
theorem S_ifnullN {off : Int} {tgt : Nat} (hd : decode md.2.1 pc = .ok (.ifnull off, 3)) (ht : (pc : Int) + off = (tgt : Int)) (k : WP l G Z md R kc ks tgt L S h) : WP l G Z md R kc ks pc L (.null :: S) h := by
  intro p e s m args below meth c C ls H locs cells slots hl hh hs hc hk
  exact lv_ifnullN C.1 C.2.1 hd ht (k p e s m args below meth c C ls H locs cells slots hl hh hs hc hk)
theorem S_ifnonnullN {off : Int} (hd : decode md.2.1 pc = .ok (.ifnonnull off, 3)) (k : WP l G Z md R kc ks (pc + 3) L S h) : WP l G Z md R kc ks pc L (.null :: S) h := by
  intro p e s m args below meth c C ls H locs cells slots hl hh hs hc hk
  exact lv_ifnonnullN C.1 C.2.1 hd (k p e s m args below meth c C ls H locs cells slots hl hh hs hc hk)
theorem S_ifnonnull {x : Nat} {off : Int} {tgt : Nat} (hd : decode md.2.1 pc = .ok (.ifnonnull off, 3)) (ht : (pc : Int) + off = (tgt : Int)) (k : WP l G Z md R kc ks tgt L S h) : WP l G Z md R kc ks pc L (.ref x :: S) h := by
  intro p e s m args below meth c C ls H locs cells slots hl hh hs hc hk
  exact lv_ifnonnull C.1 C.2.1 hd ht (k p e s m args below meth c C ls H locs cells slots hl hh hs hc hk)
theorem S_tsw {dflt lo hi : Int} {offs : Array Int} {len : Nat} {x : Int32} {tgt : Nat} (hd : decode md.2.1 pc = .ok (.tableswitch dflt lo hi offs, len)) (hsel : ((x.toInt < lo ∨ hi < x.toInt) ∧ (pc : Int) + dflt = (tgt : Int)) ∨ (¬ x.toInt < lo ∧ ¬ hi < x.toInt ∧ ∃ off, offs[(x.toInt - lo).toNat]? = some off ∧ (pc : Int) + off = (tgt : Int))) (k : WP l G Z md R kc ks tgt L S h) : WP l G Z md R kc ks pc L (.int x :: S) h := by
  intro p e s m args below meth c C ls H locs cells slots hl hh hs hc hk
  rcases hsel with ⟨a, b⟩ | ⟨a, b, off, d, f⟩
  · exact lv_tableOut C.1 C.2.1 hd a b (k p e s m args below meth c C ls H locs cells slots hl hh hs hc hk)
  · exact lv_tableIn C.1 C.2.1 hd a b d f (k p e s m args below meth c C ls H locs cells slots hl hh hs hc hk)
theorem S_lsw {dflt : Int} {ps : Array (Int × Int)} {len : Nat} {x : Int32} {off : Int} {tgt : Nat} (hd : decode md.2.1 pc = .ok (.lookupswitch dflt ps, len)) (hp : (ps.toList.zip (ps.toList.drop 1)).all (fun (a, next) => a.1 < next.1) = true) (ho : Op.lookupswitch.offset ps.toList dflt x.toInt = off) (ht : (pc : Int) + off = (tgt : Int)) (k : WP l G Z md R kc ks tgt L S h) : WP l G Z md R kc ks pc L (.int x :: S) h := by
  intro p e s m args below meth c C ls H locs cells slots hl hh hs hc hk
  exact lv_lookup C.1 C.2.1 hd hp ho ht (k p e s m args below meth c C ls H locs cells slots hl hh hs hc hk)
end SR
