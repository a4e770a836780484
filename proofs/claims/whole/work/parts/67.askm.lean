/-! the reference's calls: segments -/
section MC
variable {l : Launch} {G : Gx} {d : Nat} {sh : Sh} {fR : FRt} {B b : Nat} {f : FI} {g : FL} {Z : Zs} {π : Pl}
theorem C_sumOf {K : Int32 → FI → FL → Prop} {a n : Nat} (hs : StM sh fR B) (hb : b < 2) (h13 : f B 13 = nI b) (h5 : f (B + 5) b = nI (π.1 4)) (hk : π.1 4 ≤ 999) (ha : a + n ≤ 1000) (H : K (nI (sumS (π.1 4) a n % 251)) f g) : Cl l G d 0 0 mX12_sumOf [.ref B, .int (nI a), .int (nI n)] (sh, f, g, fR) (qi sh fR K) := by
  have loop : ∀ r k, r + k = n → LpX12_sumOf_6 l G d (qi sh fR K) sh fR B f g (nI a) (nI n) (lN (sumS (π.1 4) a k)) (lN (a + k)) := by
    intro r
    induction r with
    | zero =>
      intro k hk
      have e : k = n := by omega
      subst e
      have := sumS_le (π.1 4) a k
      refine VX12_sumOf_6 hs ?_
      rw [nI_add, nI_l (by omega), pk_lRem (by omega) (by decide) (by decide), lN_i]
      exact ⟨fun _ => ⟨_, _, _, rfl, rfl, H⟩, fun c => absurd ((pk_lLE (by omega) (by omega)).mpr (Nat.le_refl _)) c⟩
    | succ r ih =>
      intro k hk
      refine VX12_sumOf_6 hs ?_
      have := Nat.mul_le_mul (show a + k ≤ 1000 by omega) (show a + k ≤ 1000 by omega)
      have hsl := sumS_le (π.1 4) a k
      rw [nI_add, nI_l (by omega), h13, clN (by omega), h5, nI_l (by omega), lN_mul, lN_mul, lN_add, lN_add, pk_lRem (a := (a + k) * (a + k) + 7 * (a + k) + π.1 4) (by omega) (by decide) (by decide), lN_add, lN_add]
      refine ⟨fun c => ?_, fun _ => ⟨inbN hb (by decide), fun z3 hz3 z5 hz5 => ?_⟩⟩
      · have := (pk_lLE (by omega) (by omega)).mp c
        omega
      · rw [hz3, hz5]
        exact ih (k + 1) (by omega)
  refine VX12_sumOf hs ?_
  rw [nI_l (by omega)]
  exact loop n 0 rfl
theorem M_segment {a c : Int32} (hs : StM sh fR B) (h : MSt f g B Z) (hz : zOK Z) : Cl l G (d + 1) 0 0 mX12_segment [.ref B, .int a, .int c] (sh, f, g, fR) (RQ B sh fR f g Z (segmentS Z a c)) := by
  obtain ⟨b, m, hb, h13, -, -, hR, -, -, -, -, -, hN, hsl⟩ := h.q hz
  have e : segmentS Z a c = match ixS a (flyA (qZ Z).2.2.1) with | none => -1 | some k => match ((qZ Z).2.2.1.2.2.1.filter (fun s => s.2.2.2.2.2.2.1))[k]? with | none => -1 | some s => match ixS c 6 with | none => -1 | some j => nI (segN (qZ Z).1 s j) := by
    unfold segmentS qZ
    cases Z.2.2.2.2 with
    | none =>
      dsimp only [Option.getD_none]
      cases hx : ixS a (flyA q0.2.2.1) with
      | none => rfl
      | some j => exact absurd (ixS_some (by decide) hx).1 (by show ¬ j < 0; omega)
    | some q => rfl
  generalize segmentS Z a c = y at e ⊢
  have hy := e.symm
  clear e
  obtain ⟨g1, g2, g3⟩ := hR.2.2.1
  have efly : ((qZ Z).2.2.1.2.2.1.filter flies).length = flyA (qZ Z).2.2.1 := by rw [← List.countP_eq_length_filter]; rfl
  have hfl : flyA (qZ Z).2.2.1 ≤ 480 := Nat.le_trans (by rw [← efly]; exact List.length_filter_le _ _) g2
  have hsk : ∀ s ∈ (qZ Z).2.2.1.2.2.1, ∃ q, Z.2.2.2.2 = some q ∧ qZ Z = q := fun s hs => by
    unfold qZ at hs ⊢
    cases hq : Z.2.2.2.2 with
    | none => rw [hq] at hs; cases hs
    | some q => exact ⟨q, rfl, rfl⟩
  generalize hlg : (qZ Z).2.2.1.2.2.1 = lg at *
  have H0 : (∀ k, a = nI k → k < 2 ^ 31 → (lg.filter flies)[k]? = none) → LpX12_segment_58 l G d (RQ B sh fR f g Z y) sh fR B f g c (-1) := fun hno => by
    refine VX12_segment_58 hs ⟨fun z => absurd rfl z, fun _ => .is h ?_⟩
    rw [← hy]
    rcases pk_ix a (n := flyA (qZ Z).2.2.1) (by omega) with y | y | ⟨k, hk, rfl⟩
    · rw [ixS_lo y]
    · rw [ixS_hi y]
    · have := List.getElem?_eq_none_iff.mp (hno k rfl (by omega))
      omega
  have H1 : ∀ i s k, lg[i]? = some s → a = nI k → k < 2 ^ 31 → (lg.filter flies)[k]? = some s → LpX12_segment_58 l G d (RQ B sh fR f g Z y) sh fR B f g c (nI i) := fun i s k hi ea hk hs' => by
    have hil := (List.getElem?_eq_some_iff.mp hi).1
    have hkl : k < flyA (qZ Z).2.2.1 := by
      have := (List.getElem?_eq_some_iff.mp hs').1
      omega
    have hmem := List.mem_of_getElem? hi
    have hss := hsl s hmem
    have rd : ∀ j, j < 8 → f (B + 24) (8 * (480 * 0 + i) + j) = sE s j := fun j hj => g3 i s hi j hj
    subst ea
    rw [ixS_in hkl (by omega)] at hy
    dsimp only at hy
    rw [show (List.filter (fun s : Sg => s.2.2.2.2.2.2.1) lg)[k]? = some s from hs'] at hy
    dsimp only at hy
    refine VX12_segment_58 hs ⟨fun _ => ?_, fun z => absurd z (nI_m1 (by omega))⟩
    refine D_is (n := 5) hs (by decide) (by decide) (fun j hj ej => ⟨fun z => absurd z (by decide), fun _ => ?_⟩) (fun z => ⟨fun _ => ⟨fun z5 => .is h ?_, fun z5 => ?_⟩, fun z => absurd rfl z⟩)
    · subst ej
      simp (disch := omega) only [pk_mul, nI_add, clN]
      refine ⟨inbN (by omega) (by decide), .is h ?_⟩
      rw [rd j (by omega), ← hy, ixS_in (show j < 6 by omega) (by decide)]
      rcases (show j = 0 ∨ j = 1 ∨ j = 2 ∨ j = 3 ∨ j = 4 by omega) with rfl | rfl | rfl | rfl | rfl <;> rfl
    · rw [← hy]
      cases hx : ixS c 6 with
      | none => rfl
      | some j =>
        obtain ⟨hj, rfl⟩ := ixS_some (by decide) hx
        rcases (show j < 5 ∨ j = 5 by omega) with q | q
        · rw [ixS_in q (by decide)] at z; cases z
        · exact absurd (by rw [q]) z5
    · simp (disch := omega) only [pk_mul, nI_add, clN]
      rw [rd 2 (by decide), rd 3 (by decide)]
      obtain ⟨q, hq1, hq2⟩ := hsk s hmem
      have hqq := hz.2.2.2.2 q hq1
      obtain ⟨b2, hb2, h132, t⟩ := h.td hq1
      refine ⟨inbN (by omega) (by decide), inbN (by omega) (by decide), ?_⟩
      refine C_sumOf (π := (qZ Z).1) hs hb2 h132 (by rw [hq2]; exact t.1.1.2.2.2.2.2.1) (by rw [hq2]; exact hqq.1.2.2.2.1) (by omega) (.is h ?_)
      rw [← hy, z5, ixS_in (j := 5) (by decide) (by decide)]
      rfl
  refine VX12_segment hs ?_
  have fin : ∀ i s k cn t, lg[i]? = some s → a = nI k → k < 2 ^ 31 → (lg.filter flies)[k]? = some s → t ≤ lg.length → LpX12_segment_8 l G d (RQ B sh fR f g Z y) sh fR B f g a c (nI i) cn (nI t) := fun i s k cn t hi ea hk hs' htl => by
    have hil := (List.getElem?_eq_some_iff.mp hi).1
    refine VX12_segment_8 hs ?_
    simp (disch := omega) only [pk_mul, nI_add, clN]
    rw [g1]
    exact ⟨inbN (by omega) (by decide), fun _ => H1 i s k hi ea hk hs', fun _ => ⟨fun _ => H1 i s k hi ea hk hs', fun z => absurd z (nI_m1 (by omega))⟩⟩
  have loop : ∀ (rest done : List Sg), lg = done ++ rest → (∀ k, k < (done.filter flies).length → a ≠ nI k) → LpX12_segment_8 l G d (RQ B sh fR f g Z y) sh fR B f g a c (-1) (nI (done.filter flies).length) (nI done.length) := by
    intro rest
    induction rest with
    | nil =>
      intro done ed hno
      rw [List.append_nil] at ed
      subst ed
      refine VX12_segment_8 hs ?_
      simp (disch := omega) only [pk_mul, nI_add, clN]
      rw [g1]
      refine ⟨inbN (by omega) (by decide), fun _ => H0 (fun k ek hk => ?_), fun z => absurd (nI_le (Nat.le_refl _) (by omega)) z⟩
      rw [List.getElem?_eq_none_iff]
      rcases Nat.lt_or_ge k (lg.filter flies).length with z | z
      · exact absurd ek (hno k z)
      · exact z
    | cons s rest ih =>
      intro done ed hno
      have hi : lg[done.length]? = some s := by rw [ed]; exact at_len
      have hlt : done.length < lg.length := (List.getElem?_eq_some_iff.mp hi).1
      have hdl : (done.filter flies).length ≤ done.length := List.length_filter_le _ _
      have hf := g3 _ s hi 6 (by decide)
      refine VX12_segment_8 hs ?_
      simp (disch := omega) only [pk_mul, nI_add, clN]
      rw [g1, hf, show sE s 6 = bI (flies s) from rfl]
      refine ⟨inbN (by omega) (by decide), fun z => absurd z (nI_ge hlt (by omega)), fun _ => ⟨fun z => absurd trivial z, fun _ => ⟨inbN (by omega) (by decide), fun cz => ⟨fun ck => ?_, fun ck => ?_⟩, fun cz => ?_⟩⟩⟩
      · have e1 : flies s = true := bI_ne0 cz
        refine VX12_segment_49 hs (VX12_segment_52 hs ?_)
        have := ih (done ++ [s]) (by rw [ed]; simp) (fun k hk => ?_)
        · rw [List.length_append, List.length_singleton, List.filter_append, List.filter_cons_of_pos e1, List.length_append] at this
          rw [nI_add, nI_add]
          exact this
        · rw [List.filter_append, List.filter_cons_of_pos e1, List.length_append] at hk
          rcases Nat.lt_or_ge k (done.filter flies).length with z | z
          · exact hno k z
          · have : k = (done.filter flies).length := by
              simp only [List.filter_nil, List.length_singleton] at hk
              omega
            rw [this]
            exact fun z => ck z.symm
      · have e1 : flies s = true := bI_ne0 cz
        refine VX12_segment_49 hs (VX12_segment_52 hs ?_)
        rw [nI_add, nI_add]
        refine fin done.length s (done.filter flies).length _ _ hi ck.symm (by omega) ?_ (by omega)
        rw [ed, List.filter_append, List.filter_cons_of_pos e1]
        exact at_len
      · have e0 : flies s = false := bI_0.mp cz
        refine VX12_segment_52 hs ?_
        have := ih (done ++ [s]) (by rw [ed]; simp) (fun k hk => ?_)
        · rw [List.length_append, List.length_singleton, List.filter_append, List.filter_cons_of_neg (by rw [e0]; decide), List.filter_nil, List.append_nil] at this
          rw [nI_add]
          exact this
        · rw [List.filter_append, List.filter_cons_of_neg (by rw [e0]; decide), List.filter_nil, List.append_nil] at hk
          exact hno k hk
  exact loop lg [] rfl (fun k hk => by cases hk)
end MC
