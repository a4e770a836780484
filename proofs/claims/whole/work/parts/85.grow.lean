/-! heaps that grow: n cells there were, N are new, R are the references that were put into the new ones (cells counted from n) -/
def zr {α : Type} (f : Nat → Nat → α) (n j : Nat) (v : α) : Nat → Nat → α := fun a b => if n ≤ a ∧ a < n + j then v else f a b
def fnd (R : List (Nat × Nat × Nat)) (i k : Nat) : Option (Nat × Nat × Nat) := R.find? (fun e => e.1 == i && e.2.1 == k)
def rf (fR : FRt) (n j : Nat) (R : List (Nat × Nat × Nat)) : FRt := fun a b => if n ≤ a ∧ a < n + j then (fnd R (a - n) b).map (fun e => e.2.2) else fR a b
def gh (sh : Sh) (f : FI) (g : FL) (fR : FRt) (n : Nat) (N : List (Nat × Nat)) (R : List (Nat × Nat × Nat)) : Hp := (sh ++ N, zr f n N.length 0, zr g n N.length 0, rf fR n N.length R)
section GG
variable {l : Launch} {G : Gx} {Z : Zt} {md : Md} {Rm : Room} {kc ks pc : Nat} {L : List (Option Value)} {S : List Value} {sh : Sh} {f : FI} {g : FL} {fR : FRt} {x : Nat} {N : List (Nat × Nat)} {R : List (Nat × Nat × Nat)}
theorem gh_nil (hx : sh.length = x) : (sh, f, g, fR) = gh sh f g fR x [] [] := by
  unfold gh
  refine Prod.ext (List.append_nil _).symm (Prod.ext ?_ (Prod.ext ?_ ?_)) <;> (funext a b; simp only [zr, rf]; rw [if_neg (by simp)])
theorem fnd_no {j : Nat} (h : R.all (fun e => Nat.blt e.1 j) = true) (k : Nat) : fnd R j k = none := by
  unfold fnd
  rw [List.find?_eq_none]
  intro e he
  have := List.all_eq_true.mp h e he
  have h2 : e.1 < j := Nat.le_of_ble_eq_true this
  simp
  intro z
  omega
theorem nw_gh {q : Nat × Nat} (hx : sh.length = x) (hR : R.all (fun e => Nat.blt e.1 N.length) = true) : nw (gh sh f g fR x N R) q = gh sh f g fR x (N ++ [q]) R := by
  have hl : (sh ++ N).length = x + N.length := by rw [List.length_append, hx]
  have hz : ∀ {α : Type} (f : Nat → Nat → α) (v : α), zrow (zr f x N.length v) (x + N.length) v = zr f x (N.length + 1) v := fun f v => by
    funext a b
    unfold zrow zr
    by_cases c : a = x + N.length
    · rw [if_pos c, if_pos (by omega)]
    · rw [if_neg c]
      by_cases c2 : x ≤ a ∧ a < x + N.length
      · rw [if_pos c2, if_pos (by omega)]
      · rw [if_neg c2, if_neg (by omega)]
  show ((sh ++ N) ++ [q], zrow (zr f x N.length 0) (sh ++ N).length 0, zrow (zr g x N.length 0) (sh ++ N).length 0, zrow (rf fR x N.length R) (sh ++ N).length none) = (sh ++ (N ++ [q]), zr f x (N ++ [q]).length 0, zr g x (N ++ [q]).length 0, rf fR x (N ++ [q]).length R)
  rw [hl, hz, hz, List.length_append, List.length_singleton, List.append_assoc]
  have hr : zrow (rf fR x N.length R) (x + N.length) none = rf fR x (N.length + 1) R := by
    funext a b
    unfold zrow rf
    by_cases c : a = x + N.length
    · rw [if_pos c, if_pos (by omega), c, Nat.add_sub_cancel_left, fnd_no hR]
      rfl
    · rw [if_neg c]
      by_cases c2 : x ≤ a ∧ a < x + N.length
      · rw [if_pos c2, if_pos (by omega)]
      · rw [if_neg c2, if_neg (by omega)]
  rw [hr]
theorem sR_gh {i k t : Nat} (hi : i < N.length) : sR (gh sh f g fR x N R) (x + i) k (some t) = gh sh f g fR x N ((i, k, t) :: R) := by
  unfold sR gh
  refine Prod.ext rfl (Prod.ext rfl (Prod.ext rfl ?_))
  funext a b
  show up2 (rf fR x N.length R) (x + i) k (some t) a b = rf fR x N.length ((i, k, t) :: R) a b
  by_cases c : a = x + i ∧ b = k
  · obtain ⟨rfl, rfl⟩ := c
    rw [up2_eq]
    unfold rf fnd
    rw [if_pos (by omega), Nat.add_sub_cancel_left, List.find?_cons_of_pos (by simp)]
    rfl
  · rw [up2_ne c]
    unfold rf
    by_cases c2 : x ≤ a ∧ a < x + N.length
    · rw [if_pos c2, if_pos c2]
      unfold fnd
      rw [List.find?_cons_of_neg]
      simp
      intro z1 z2
      exact c ⟨by omega, z2.symm⟩
    · rw [if_neg c2, if_neg c2]
theorem gh_at {i : Nat} {q : Nat × Nat} (hx : sh.length = x) (hN : N[i]? = some q) : (gh sh f g fR x N R).1[x + i]? = some q := by
  show (sh ++ N)[x + i]? = _
  rw [List.getElem?_append_right (by omega), hx, Nat.add_sub_cancel_left]
  exact hN
theorem G_nw {q : Nat × Nat} (hx : sh.length = x) (hR : R.all (fun e => Nat.blt e.1 N.length) = true) (kk : WP l G Z md Rm kc ks pc L (.ref (x + N.length) :: S) (gh sh f g fR x (N ++ [q]) R)) : WP l G Z md Rm kc ks pc L (.ref (gh sh f g fR x N R).1.length :: S) (nw (gh sh f g fR x N R) q) := by
  have hl : (gh sh f g fR x N R).1.length = x + N.length := by
    show (sh ++ N).length = _
    rw [List.length_append, hx]
  rw [hl, nw_gh hx hR]
  exact kk
theorem G_putR {i ci n k idx t : Nat} (hd : decode md.2.1 pc = .ok (.putfield idx, 3)) (hf : FLk md.1.cls idx ci k) (hx : sh.length = x) (hx0 : 0 < x) (hN : N[i]? = some (ci, n)) (hfin : ∀ C : vw_C, cls0[ci]? = some C → (C.2.1 k).2.2.2 = false ∨ (md.1.name = "<init>" ∧ (C.2.1 k).1 = md.1.cls)) (hn : ∀ q, narrow (fty ci k) (.ref q) = .ref q) (hfit : ∀ q, fits (fty ci k) (.ref q) = true) (ht : ∀ h0 : Hp, tval G h0 (fty ci k) (x + i) k = rfv G (h0.2.2.2 (x + i) k)) (kk : WP l G Z md Rm kc ks (pc + 3) L S (gh sh f g fR x N ((i, k, t) :: R))) : WP l G Z md Rm kc ks pc L (.ref t :: .ref (x + i) :: S) (gh sh f g fR x N R) := by
  refine S_putR hd hf (gh_at hx hN) (by omega) hfin hn hfit ht ?_
  rw [sR_gh (List.getElem?_eq_some_iff.mp hN).1]
  exact kk
theorem G_getR {i ci n k idx t : Nat} (hd : decode md.2.1 pc = .ok (.getfield idx, 3)) (hf : FLk md.1.cls idx ci k) (hx : sh.length = x) (hN : N[i]? = some (ci, n)) (ht : ∀ h0 : Hp, tval G h0 (fty ci k) (x + i) k = rfv G (h0.2.2.2 (x + i) k)) (hF : (fnd R i k).map (fun e => e.2.2) = some t) (kk : WP l G Z md Rm kc ks (pc + 3) L (.ref t :: S) (gh sh f g fR x N R)) : WP l G Z md Rm kc ks pc L (.ref (x + i) :: S) (gh sh f g fR x N R) := by
  refine S_getR hd hf (gh_at hx hN) (ht _) ?_ kk
  show rf fR x N.length R (x + i) k = some t
  unfold rf
  rw [if_pos ⟨by omega, by have := (List.getElem?_eq_some_iff.mp hN).1; omega⟩, Nat.add_sub_cancel_left]
  exact hF
theorem G_aast24 {i n t n' j : Nat} (hd : decode md.2.1 pc = .ok (.aastore, 1)) (hx : sh.length = x) (hx0 : 0 < x) (hN : N[i]? = some (24, n)) (hn : n < 2 ^ 31) (hj : j < n) (hT : N[t]? = some (8, n')) (kk : WP l G Z md Rm kc ks (pc + 1) L S (gh sh f g fR x N ((i, j, x + t) :: R))) : WP l G Z md Rm kc ks pc L (.ref (x + t) :: .int (nI j) :: .ref (x + i) :: S) (gh sh f g fR x N R) := by
  refine S_aast24 hd (gh_at hx hN) (by omega) (inbN hj hn) (gh_at hx hT) ?_
  rw [clN (by omega), sR_gh (List.getElem?_eq_some_iff.mp hN).1]
  exact kk
end GG
