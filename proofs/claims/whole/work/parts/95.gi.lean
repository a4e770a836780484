/-! heaps that grow, with numbers in the new cells -/
def fnI {α : Type} (R : List (Nat × Nat × α)) (i k : Nat) : Option (Nat × Nat × α) := R.find? (fun e => e.1 == i && e.2.1 == k)
def fi {α : Type} (f : Nat → Nat → α) (z : α) (n j : Nat) (I : List (Nat × Nat × α)) : Nat → Nat → α := fun a b => if n ≤ a ∧ a < n + j then ((fnI I (a - n) b).map (fun e => e.2.2)).getD z else f a b
def gi (sh : Sh) (f : FI) (g : FL) (fR : FRt) (n : Nat) (N : List (Nat × Nat)) (R : List (Nat × Nat × Nat)) (I : List (Nat × Nat × Int32)) (J : List (Nat × Nat × Int64)) : Hp := (sh ++ N, fi f 0 n N.length I, fi g 0 n N.length J, rf fR n N.length R)
section GI
variable {l : Launch} {G : Gx} {Z : Zt} {md : Md} {Rm : Room} {kc ks pc : Nat} {L : List (Option Value)} {S : List Value} {sh : Sh} {f : FI} {g : FL} {fR : FRt} {x : Nat} {N : List (Nat × Nat)} {R : List (Nat × Nat × Nat)} {I : List (Nat × Nat × Int32)} {J : List (Nat × Nat × Int64)}
theorem fnI_no {α : Type} {I : List (Nat × Nat × α)} {j : Nat} (h : I.all (fun e => Nat.blt e.1 j) = true) (k : Nat) : fnI I j k = none := by
  unfold fnI
  rw [List.find?_eq_none]
  intro e he
  have := List.all_eq_true.mp h e he
  have h2 : e.1 < j := Nat.le_of_ble_eq_true this
  simp
  intro z
  omega
theorem fi_nw {α : Type} {f : Nat → Nat → α} {z : α} {j : Nat} {I : List (Nat × Nat × α)} (h : I.all (fun e => Nat.blt e.1 j) = true) : zrow (fi f z x j I) (x + j) z = fi f z x (j + 1) I := by
  funext a b
  unfold zrow fi
  by_cases c : a = x + j
  · rw [if_pos c, if_pos (by omega), c, Nat.add_sub_cancel_left, fnI_no h]
    rfl
  · rw [if_neg c]
    by_cases c2 : x ≤ a ∧ a < x + j
    · rw [if_pos c2, if_pos (by omega)]
    · rw [if_neg c2, if_neg (by omega)]
theorem fi_up {α : Type} {f : Nat → Nat → α} {z v : α} {i k j : Nat} {I : List (Nat × Nat × α)} (hi : i < j) : up2 (fi f z x j I) (x + i) k v = fi f z x j ((i, k, v) :: I) := by
  funext a b
  by_cases c : a = x + i ∧ b = k
  · obtain ⟨rfl, rfl⟩ := c
    rw [up2_eq]
    unfold fi fnI
    rw [if_pos (by omega), Nat.add_sub_cancel_left, List.find?_cons_of_pos (by simp)]
    rfl
  · rw [up2_ne c]
    unfold fi
    by_cases c2 : x ≤ a ∧ a < x + j
    · rw [if_pos c2, if_pos c2]
      unfold fnI
      rw [List.find?_cons_of_neg]
      simp
      intro z1 z2
      exact c ⟨by omega, z2.symm⟩
    · rw [if_neg c2, if_neg c2]
theorem rf_nw {j : Nat} (hR : R.all (fun e => Nat.blt e.1 j) = true) : zrow (rf fR x j R) (x + j) none = rf fR x (j + 1) R := by
  funext a b
  unfold zrow rf
  by_cases c : a = x + j
  · rw [if_pos c, if_pos (by omega), c, Nat.add_sub_cancel_left, fnd_no hR]
    rfl
  · rw [if_neg c]
    by_cases c2 : x ≤ a ∧ a < x + j
    · rw [if_pos c2, if_pos (by omega)]
    · rw [if_neg c2, if_neg (by omega)]
theorem gi_at {i : Nat} {q : Nat × Nat} (hx : sh.length = x) (hN : N[i]? = some q) : (gi sh f g fR x N R I J).1[x + i]? = some q := by
  show (sh ++ N)[x + i]? = _
  rw [List.getElem?_append_right (by omega), hx, Nat.add_sub_cancel_left]
  exact hN
theorem I_nw {q : Nat × Nat} (hx : sh.length = x) (hR : R.all (fun e => Nat.blt e.1 N.length) = true) (hI : I.all (fun e => Nat.blt e.1 N.length) = true) (hJ : J.all (fun e => Nat.blt e.1 N.length) = true) (kk : WP l G Z md Rm kc ks pc L (.ref (x + N.length) :: S) (gi sh f g fR x (N ++ [q]) R I J)) : WP l G Z md Rm kc ks pc L (.ref (gi sh f g fR x N R I J).1.length :: S) (nw (gi sh f g fR x N R I J) q) := by
  have hl : (gi sh f g fR x N R I J).1.length = x + N.length := by
    show (sh ++ N).length = _
    rw [List.length_append, hx]
  have e : nw (gi sh f g fR x N R I J) q = gi sh f g fR x (N ++ [q]) R I J := by
    show ((sh ++ N) ++ [q], zrow (fi f 0 x N.length I) (sh ++ N).length 0, zrow (fi g 0 x N.length J) (sh ++ N).length 0, zrow (rf fR x N.length R) (sh ++ N).length none) = (sh ++ (N ++ [q]), fi f 0 x (N ++ [q]).length I, fi g 0 x (N ++ [q]).length J, rf fR x (N ++ [q]).length R)
    rw [show (sh ++ N).length = x + N.length from hl, fi_nw hI, fi_nw hJ, rf_nw hR, List.length_append, List.length_singleton, List.append_assoc]
  rw [hl, e]
  exact kk
theorem I_putR {i ci n k idx t : Nat} (hd : decode md.2.1 pc = .ok (.putfield idx, 3)) (hf : FLk md.1.cls idx ci k) (hx : sh.length = x) (hx0 : 0 < x) (hN : N[i]? = some (ci, n)) (hfin : ∀ C : vw_C, cls0[ci]? = some C → (C.2.1 k).2.2.2 = false ∨ (md.1.name = "<init>" ∧ (C.2.1 k).1 = md.1.cls)) (hn : ∀ q, narrow (fty ci k) (.ref q) = .ref q) (hfit : ∀ q, fits (fty ci k) (.ref q) = true) (ht : ∀ h0 : Hp, tval G h0 (fty ci k) (x + i) k = rfv G (h0.2.2.2 (x + i) k)) (kk : WP l G Z md Rm kc ks (pc + 3) L S (gi sh f g fR x N ((i, k, t) :: R) I J)) : WP l G Z md Rm kc ks pc L (.ref t :: .ref (x + i) :: S) (gi sh f g fR x N R I J) := by
  refine S_putR hd hf (gi_at hx hN) (by omega) hfin hn hfit ht ?_
  have e : sR (gi sh f g fR x N R I J) (x + i) k (some t) = gi sh f g fR x N ((i, k, t) :: R) I J := by
    have := congrArg (fun h : Hp => h.2.2.2) (sR_gh (sh := sh) (f := f) (g := g) (fR := fR) (x := x) (N := N) (R := R) (k := k) (t := t) (List.getElem?_eq_some_iff.mp hN).1)
    exact Prod.ext rfl (Prod.ext rfl (Prod.ext rfl this))
  rw [e]
  exact kk
theorem I_putI {i ci n k idx : Nat} {v : Int32} (hd : decode md.2.1 pc = .ok (.putfield idx, 3)) (hf : FLk md.1.cls idx ci k) (hx : sh.length = x) (hx0 : 0 < x) (hN : N[i]? = some (ci, n)) (hfin : ∀ C : vw_C, cls0[ci]? = some C → (C.2.1 k).2.2.2 = false ∨ (md.1.name = "<init>" ∧ (C.2.1 k).1 = md.1.cls)) (hn : narrow (fty ci k) (.int v) = .int v) (hfit : fits (fty ci k) (.int v) = true) (ht : ∀ h0 : Hp, tval G h0 (fty ci k) (x + i) k = .int (h0.2.1 (x + i) k)) (kk : WP l G Z md Rm kc ks (pc + 3) L S (gi sh f g fR x N R ((i, k, v) :: I) J)) : WP l G Z md Rm kc ks pc L (.int v :: .ref (x + i) :: S) (gi sh f g fR x N R I J) := by
  refine S_putI hd hf (gi_at hx hN) (by omega) hfin hn hfit ht ?_
  have e : sI (gi sh f g fR x N R I J) (x + i) k v = gi sh f g fR x N R ((i, k, v) :: I) J := Prod.ext rfl (Prod.ext (fi_up (List.getElem?_eq_some_iff.mp hN).1) rfl)
  rw [e]
  exact kk
theorem I_putL {i ci n k idx : Nat} {v : Int64} (hd : decode md.2.1 pc = .ok (.putfield idx, 3)) (hf : FLk md.1.cls idx ci k) (hx : sh.length = x) (hx0 : 0 < x) (hN : N[i]? = some (ci, n)) (hfin : ∀ C : vw_C, cls0[ci]? = some C → (C.2.1 k).2.2.2 = false ∨ (md.1.name = "<init>" ∧ (C.2.1 k).1 = md.1.cls)) (ht : fty ci k = .long) (kk : WP l G Z md Rm kc ks (pc + 3) L S (gi sh f g fR x N R I ((i, k, v) :: J))) : WP l G Z md Rm kc ks pc L (.long v :: .ref (x + i) :: S) (gi sh f g fR x N R I J) := by
  refine S_putL hd hf (gi_at hx hN) (by omega) hfin ht ?_
  have e : sL (gi sh f g fR x N R I J) (x + i) k v = gi sh f g fR x N R I ((i, k, v) :: J) := Prod.ext rfl (Prod.ext rfl (Prod.ext (fi_up (List.getElem?_eq_some_iff.mp hN).1) rfl))
  rw [e]
  exact kk
theorem I_getR {i ci n k idx t : Nat} (hd : decode md.2.1 pc = .ok (.getfield idx, 3)) (hf : FLk md.1.cls idx ci k) (hx : sh.length = x) (hN : N[i]? = some (ci, n)) (ht : ∀ h0 : Hp, tval G h0 (fty ci k) (x + i) k = rfv G (h0.2.2.2 (x + i) k)) (hF : (fnd R i k).map (fun e => e.2.2) = some t) (kk : WP l G Z md Rm kc ks (pc + 3) L (.ref t :: S) (gi sh f g fR x N R I J)) : WP l G Z md Rm kc ks pc L (.ref (x + i) :: S) (gi sh f g fR x N R I J) := by
  refine S_getR hd hf (gi_at hx hN) (ht _) ?_ kk
  show rf fR x N.length R (x + i) k = some t
  unfold rf
  rw [if_pos ⟨by omega, by have := (List.getElem?_eq_some_iff.mp hN).1; omega⟩, Nat.add_sub_cancel_left]
  exact hF
theorem I_iast {i n j : Nat} {v : Int32} (hd : decode md.2.1 pc = .ok (.iastore, 1)) (hx : sh.length = x) (hx0 : 0 < x) (hN : N[i]? = some (20, n)) (hn : n < 2 ^ 31) (hj : j < n) (kk : WP l G Z md Rm kc ks (pc + 1) L S (gi sh f g fR x N R ((i, j, v) :: I) J)) : WP l G Z md Rm kc ks pc L (.int v :: .int (nI j) :: .ref (x + i) :: S) (gi sh f g fR x N R I J) := by
  refine S_iast hd (gi_at hx hN) (by omega) (inbN hj hn) ?_
  rw [clN (by omega)]
  have e : sI (gi sh f g fR x N R I J) (x + i) j v = gi sh f g fR x N R ((i, j, v) :: I) J := Prod.ext rfl (Prod.ext (fi_up (List.getElem?_eq_some_iff.mp hN).1) rfl)
  rw [e]
  exact kk
end GI
