/-! the class: undoing -/
section TG
variable {l : Launch} {G : Gx} {d : Nat} {sh : Sh} {fR fR' : FRt} {A x u : Nat} {f f' : FI} {g : FL} {Z : Zs}
theorem PSr.act {v na' : Nat} {fl : Option (Nat × Nat)} {q : Td} {w' : Wd} {us' : List Wd} (hr : PRs sh fR A u v) (h : PSr fR f A u fl (some q)) (e : ∀ r k, kpP A u r k → ¬ (A + 40 ≤ r ∧ r < A + 72) → ¬ (r = A ∧ (k = 11 ∨ k = 12)) → r < A + 155 → f' r k = f r k) (hw : HW f' (A + 40) q.1 q.2.1 w') (hna : na' < 20) (h11 : f' A 11 = nI na') (h12 : f' A 12 = nI us'.length) (hun : PUn fR' f' A na' u q.1 q.2.1 us') : PSr fR' f' A u fl (some (q.1, q.2.1, w', us', q.2.2.2.2)) := by
  obtain ⟨-, -, hu1, hu2, -, -⟩ := hr.pl
  obtain ⟨h4, h5, h6, na, h7, h8, t1, t2, t3, t4, t5, t6, t7⟩ := h
  refine ⟨?_, fun k o hk => by rw [e _ _ (by unfold kpP; omega) (by omega) (by omega) (by omega)]; exact h5 k o hk, by rw [e _ _ (by unfold kpP; omega) (by omega) (by omega) (by omega)]; exact h6, na', hna, h11, t1.keep (fun r k a b c d g i => e r k (by unfold kpP; omega) (by omega) (by omega) (by omega)), fun p hp => by rw [e _ _ (by unfold kpP; omega) (by omega) (by omega) (by omega)]; exact t2 p hp, hw, h12, hun, by rw [e _ _ (by unfold kpP; omega) (by omega) (by omega) (by omega)]; exact t6, fun k r hk => ?_⟩
  · unfold PFl at h4 ⊢
    split at h4
    · rw [e _ _ (by unfold kpP; omega) (by omega) (by omega) (by omega)]; exact h4
    · rw [e _ _ (by unfold kpP; omega) (by omega) (by omega) (by omega), e _ _ (by unfold kpP; omega) (by omega) (by omega) (by omega)]; exact h4
  · rw [e _ _ (by unfold kpP; omega) (by omega) (by omega) (by omega), e _ _ (by unfold kpP; omega) (by omega) (by omega) (by omega), e _ _ (by unfold kpP; omega) (by omega) (by omega) (by omega)]
    exact t7 k r hk
theorem P_undo (h : PSt sh fR f A Z) (hz : zOK Z) : Cl l G (d + 3) 0 0 mX11_undo [.ref A] (sh, f, g, fR) (RP A sh fR f g (undoS Z).1 (undoS Z).2) := by
  obtain ⟨u, v, hr, hs, hp, hn, hP, hx⟩ := h.at
  obtain ⟨-, -, hu1, hu2, -, -⟩ := hr.pl
  have hA := hs.2.2.1
  refine VX11_undo hs hp hn hP ?_
  intro w1 hw1
  have ref : LpX11_undo_29 l G d (RP A sh fR f g (zRef Z 4) (nI 0)) sh fR A u f g := VX11_undo_29 hs hp hn hP (.ref hr hx (by decide))
  unfold undoS
  cases ht : Z.2.2.2.2 with
  | none =>
    have h12 : f A 12 = nI 0 := by
      obtain ⟨-, -, -, -, -, -, na, -, -, x9⟩ := hx
      rw [ht] at x9
      exact x9.1
    exact ⟨fun _ => ref, fun c => absurd h12 c⟩
  | some q =>
    obtain ⟨h4, na, hna, h11, t⟩ := hx.td ht
    have hq := hz.2.2.2.2 q ht
    have h20 := hq.2.2.2.2.2.2.1
    have h12 := t.2.2.2.1
    dsimp only
    cases hl : q.2.2.2.1.getLast? with
    | none =>
      have e : q.2.2.2.1 = [] := List.getLast?_eq_none_iff.mp hl
      rw [e] at h12
      exact ⟨fun _ => ref, fun c => absurd h12 c⟩
    | some w =>
      have hlen : 0 < q.2.2.2.1.length := List.length_pos_iff.mpr (fun z => by rw [z] at hl; cases hl)
      have hk : q.2.2.2.1[q.2.2.2.1.length - 1]? = some w := by rw [← List.getLast?_eq_getElem?]; exact hl
      rw [h11, nI_add, pk_sub (by omega), pk_rem (by omega) (by decide) (by decide)] at hw1
      have hm : (na + 20 - 1) % 20 < 20 := Nat.mod_lt _ (by decide)
      subst hw1
      obtain ⟨y, y1, y2, y3⟩ := t.2.2.2.2.1 _ w hk
      rw [show (na + 20 - q.2.2.2.1.length + (q.2.2.2.1.length - 1)) % 20 = (na + 20 - 1) % 20 by omega] at y1
      obtain ⟨z1, z2, z3, -⟩ := hr.2.2.2.2.2.2.2.2.1 _ y hm y1
      have hgw := hq.2.2.2.2.2.1 w (List.mem_of_getElem? hk)
      rw [clN (by omega), h12]
      refine ⟨fun c => absurd c (nI_ne0 hlen (by omega)), fun _ => ⟨inbN hm (by decide), fun c => (by rw [y1] at c; cases c), fun r5 hr5 => ?_⟩⟩
      rw [y1] at hr5
      cases hr5
      refine ⟨z1.1 0 _ rfl, z1.2.2, inbN hm (by decide), fun c => (by rw [y1] at c; cases c), fun r10 hr10 => ?_⟩
      rw [y1] at hr10
      cases hr10
      refine ⟨z1.1 0 _ rfl, z1.2.2, u, y2, hP, ?_⟩
      obtain ⟨m, hC, hI⟩ := y3
      refine D_copy hs.2.2.2.1 z1 y2 hP (by omega) (by omega) hC hgw.x.qN (fun f1 c1 e1 => ?_)
      have hfR : up2 fR (A + 40) 7 (some u) = fR := up2_self hn
      rw [hfR, e1 A 12 (by omega), h12, pk_sub (by omega)]
      obtain ⟨x1, x2, x3, x4⟩ := hx
      have oth : ∀ r k, (r < A + 40 ∨ A + 40 + 32 ≤ r) → ¬ (r = A ∧ (k = 11 ∨ k = 12)) → up2 (up2 f1 A 11 (nI ((na + 20 - 1) % 20))) A 12 (nI (q.2.2.2.1.length - 1)) r k = f r k := fun r k h1 h2 => by
        rw [up2_ne (by omega), up2_ne (by omega)]
        exact e1 r k h1
      have inw : ∀ r k, r ≠ A → up2 (up2 f1 A 11 (nI ((na + 20 - 1) % 20))) A 12 (nI (q.2.2.2.1.length - 1)) r k = f1 r k := fun r k h1 => by rw [up2_r h1, up2_r h1]
      refine ⟨_, _, _, rfl, rfl, ⟨u, v, hr, x1.keep (oth _ _ (by omega) (by omega)) (fun k => oth _ _ (by omega) (by omega)), fun i hi => by rw [oth _ _ (by omega) (by omega)]; exact x2 i hi, by rw [oth _ _ (by omega) (by omega)]; exact x3, ?_⟩, fun r k z => ⟨oth r k (by omega) (by omega), rfl⟩, fun _ _ => rfl⟩
      rw [ht] at x4
      refine PSr.act (na' := (na + 20 - 1) % 20) hr x4 (fun r k a b c _ => oth r k (by omega) c) ⟨m, c1.sm (fun c hc j k hj ec => inw _ _ (by omega)), hI⟩ hm (by rw [up2_k (by decide), up2_eq]) (by rw [up2_eq, List.length_dropLast]) (fun k w' hk' => ?_)
      have hkl := (List.getElem?_eq_some_iff.mp hk').1
      rw [List.length_dropLast] at hkl
      rw [List.getElem?_dropLast, if_pos hkl] at hk'
      obtain ⟨y', y1', y2', y3'⟩ := t.2.2.2.2.1 k w' hk'
      obtain ⟨-, z2', -⟩ := hr.2.2.2.2.2.2.2.2.1 _ y' (Nat.mod_lt _ (by decide)) y1'
      refine ⟨y', ?_, y2', y3'.keep (fun c hc j i hj ec => oth _ _ (by omega) (by omega))⟩
      rw [List.length_dropLast, show ((na + 20 - 1) % 20 + 20 - (q.2.2.2.1.length - 1) + k) % 20 = (na + 20 - q.2.2.2.1.length + k) % 20 by omega]
      exact y1'
end TG
