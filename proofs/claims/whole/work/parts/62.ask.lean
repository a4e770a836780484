/-! the class' calls: what is asked -/
section PA
variable {l : Launch} {G : Gx} {d : Nat} {sh : Sh} {fR : FRt} {A : Nat} {f : FI} {g : FL} {Z : Zs}
theorem RP.rf {y : Int32} (h : PSt sh fR f A Z) : RP A sh fR f g Z y (some (.int y)) (sh, f, g, fR) := ⟨_, _, _, rfl, rfl, h, FrP.rf⟩
theorem RP.is {y y' : Int32} (h : PSt sh fR f A Z) (e : y = y') : RP A sh fR f g Z y' (some (.int y)) (sh, f, g, fR) := by
  rw [e]
  exact .rf h
theorem PSt.at (h : PSt sh fR f A Z) : ∃ u v, PRs sh fR A u v ∧ StA sh fR A ∧ fR A 5 = some u ∧ fR (A + 40) 7 = some u ∧ StPl sh fR u ∧ PSx fR f A u Z := by
  obtain ⟨u, v, hr, hx⟩ := h
  exact ⟨u, v, hr, hr.1, hr.2.2.1, hr.2.2.2.2.1, hr.pl.1, hx⟩
theorem PSx.no {u : Nat} (h : PSx fR f A u Z) (hz : Z.2.2.2.2 = none) : f A 4 = 0 := by
  have := h.2.2.2.2.2.1
  rw [hz] at this
  exact this
theorem PSx.td {u : Nat} {q : Td} (h : PSx fR f A u Z) (hz : Z.2.2.2.2 = some q) : ¬ f A 4 = 0 ∧ ∃ na, na < 20 ∧ f A 11 = nI na ∧ PTd fR f A u na q := by
  obtain ⟨-, -, -, -, -, h1, na, h2, h3, h4⟩ := h
  rw [hz] at h1 h4
  exact ⟨by rw [h1]; show ¬ bI true = 0; decide, na, h2, h3, h4⟩
theorem P_status {a : Int32} (h : PSt sh fR f A Z) : Cl l G d 0 0 mX11_status [.ref A, .int a] (sh, f, g, fR) (RP A sh fR f g Z (statusS Z a)) := by
  obtain ⟨u, v, hr, hs, hp, hn, hP, hx⟩ := h.at
  refine VX11_status hs hp hn hP ?_
  unfold statusS
  rcases pk_ix a (n := 6) (by decide) with q | q | ⟨j, hj, rfl⟩
  · rw [ixS_lo q]
    exact ⟨fun _ => .rf h, fun c => absurd q c⟩
  · rw [ixS_hi q]
    exact ⟨fun _ => .rf h, fun _ => ⟨fun c => absurd (Int32.le_trans q c) (by decide), fun _ => .rf h⟩⟩
  · rw [ixS_in hj (by decide), clN (by omega)]
    exact ⟨fun c => absurd c (nI_pos (by omega)), fun _ => ⟨fun _ => ⟨inbN hj (by decide), .is h (hx.2.1 j hj)⟩, fun c => absurd (nI_le (by omega) (by decide)) c⟩⟩
theorem P_fault {a : Int32} (h : PSt sh fR f A Z) (hz : zOK Z) : Cl l G d 0 0 mX11_fault [.ref A, .int a] (sh, f, g, fR) (RP A sh fR f g Z (faultS Z a)) := by
  obtain ⟨u, v, hr, hs, hp, hn, hP, hx⟩ := h.at
  have hf := hx.2.2.2.1
  refine VX11_fault hs hp hn hP ?_
  unfold faultS
  unfold PFl at hf
  by_cases h0 : a = 0
  · rw [if_pos h0]
    refine ⟨fun c => absurd h0 c, fun _ => .is h ?_⟩
    split at hf
    · rename_i hq; rw [hq]; exact hf
    · rename_i q hq; rw [hq]; exact hf.1
  · rw [if_neg h0]
    refine ⟨fun _ => ?_, fun c => absurd c h0⟩
    by_cases h1 : a = nI 1
    · rw [if_pos h1]
      refine ⟨fun c => absurd h1 c, fun _ => ?_⟩
      split at hf
      · rename_i hq
        rw [hq]
        exact ⟨fun _ => .rf h, fun c => absurd hf c⟩
      · rename_i q hq
        have := hz.2.2.2.1 q hq
        rw [hq]
        refine ⟨fun c => ?_, fun _ => .is h hf.2⟩
        rw [hf.1] at c
        exact absurd c (nI_ne0 (by omega) (by omega))
    · rw [if_neg h1]
      exact ⟨fun _ => .rf h, fun c => absurd c h1⟩
theorem P_refusals {a : Int32} (h : PSt sh fR f A Z) : Cl l G d 0 0 mX11_refusals [.ref A, .int a] (sh, f, g, fR) (RP A sh fR f g Z (refusalsS Z a)) := by
  obtain ⟨u, v, hr, hs, hp, hn, hP, hx⟩ := h.at
  refine VX11_refusals hs hp hn hP ?_
  unfold refusalsS
  rcases pk_ix a (n := 4) (by decide) with q | q | ⟨j, hj, rfl⟩
  · rw [ixS_lo q]
    exact ⟨fun _ => .rf h, fun c => absurd q c⟩
  · rw [ixS_hi q]
    exact ⟨fun _ => .rf h, fun _ => ⟨fun c => absurd (Int32.le_trans q c) (by decide), fun _ => .rf h⟩⟩
  · rw [ixS_in hj (by decide), clN (by omega)]
    refine ⟨fun c => absurd c (nI_pos (by omega)), fun _ => ⟨fun _ => ?_, fun c => absurd (nI_le (by omega) (by decide)) c⟩⟩
    cases ht : Z.2.2.2.2 with
    | none => exact ⟨fun _ => .rf h, fun c => absurd (hx.no ht) c⟩
    | some q =>
      obtain ⟨h4, na, -, -, t⟩ := hx.td ht
      obtain ⟨m, hC, -⟩ := t.2.2.1
      have := hC.1 (10 + j) (by unfold nset; omega)
      rw [show cnr (10 + j) = 4 by unfold cnr; (repeat' split) <;> omega, show cnk (10 + j) = j by unfold cnk; (repeat' split) <;> omega] at this
      exact ⟨fun c => absurd c h4, fun _ => ⟨inbN hj (by decide), .is h this⟩⟩
theorem P_octet {a : Int32} (h : PSt sh fR f A Z) (hz : zOK Z) : Cl l G d 0 0 mX11_octet [.ref A, .int a] (sh, f, g, fR) (RP A sh fR f g Z (octetS Z a)) := by
  obtain ⟨u, v, hr, hs, hp, hn, hP, hx⟩ := h.at
  refine VX11_octet hs hp hn hP ?_
  unfold octetS
  cases ht : Z.2.2.2.2 with
  | none => exact ⟨fun _ => .rf h, fun c => absurd (hx.no ht) c⟩
  | some q =>
    obtain ⟨h4, na, -, -, t⟩ := hx.td ht
    obtain ⟨m, hC, -⟩ := t.2.2.1
    have hπ := (hz.2.2.2.2 q ht).1
    have hl := hπ.1
    have hW := (hz.2.2.2.2 q ht).2.2.2.2.1.2.1.1.2.2.2.2
    rw [t.1.1 1 (by decide)]
    have h5 : f (A + 40 + 2) 5 = nI (q.2.2.1.1 4) := hC.1 4 (by unfold nset; omega)
    rw [h5]
    refine ⟨fun c => absurd c h4, fun _ => ?_⟩
    dsimp only
    rcases pk_ix a (n := q.1.1 1) (by omega) with z | z | ⟨j, hj, rfl⟩
    · rw [ixS_lo z]
      exact ⟨fun _ => .rf h, fun c => absurd z c⟩
    · rw [ixS_hi z]
      exact ⟨fun _ => .rf h, fun _ => ⟨fun c => absurd c (Int32.not_lt.mpr z), fun _ => .rf h⟩⟩
    · rw [ixS_in hj (by omega), clN (by omega)]
      refine ⟨fun c => absurd c (nI_pos (by omega)), fun _ => ⟨fun _ => ?_, fun c => absurd (nI_lt hj (by omega)) c⟩⟩
      by_cases hk : j < q.2.2.1.1 4
      · exact ⟨fun c => absurd c (nI_ge hk (by omega)), fun _ => .is h (by dsimp only; rw [if_pos hk])⟩
      · exact ⟨fun _ => ⟨inbN (by omega) (by decide), .is h (by dsimp only; rw [if_neg hk]; exact hC.2.2.2.2.2.2.2.1.1 j (by omega))⟩, fun c => absurd (nI_le (by omega) (by omega)) c⟩
theorem P_kept {a b : Int32} (h : PSt sh fR f A Z) : Cl l G (d + 1) 0 0 mX11_kept [.ref A, .int a, .int b] (sh, f, g, fR) (RP A sh fR f g Z (keptS Z a b)) := by
  obtain ⟨u, v, hr, hs, hp, hn, hP, hx⟩ := h.at
  refine VX11_kept hs hp hn hP ?_
  unfold keptS
  cases ht : Z.2.2.2.2 with
  | none => exact ⟨fun _ => .rf h, fun c => absurd (hx.no ht) c⟩
  | some q =>
    obtain ⟨h4, na, -, -, t⟩ := hx.td ht
    obtain ⟨m, hC, -⟩ := t.2.2.1
    obtain ⟨k1, k2, n, k3, k4, k5⟩ := hC.2.2.2.2.2.2.2.2.1
    dsimp only
    generalize q.2.2.1.2.2.2.2.2.2 = lk at *
    rw [k1, k3]
    refine ⟨fun c => absurd c h4, fun _ => ?_⟩
    rcases pk_ix a (n := lk.length) (by omega) with z | z | ⟨j, hj, rfl⟩
    · rw [ixS_lo z]
      exact ⟨fun _ => .rf h, fun c => absurd z c⟩
    · rw [ixS_hi z]
      exact ⟨fun _ => .rf h, fun _ => ⟨fun c => absurd c (Int32.not_lt.mpr z), fun _ => .rf h⟩⟩
    · rw [ixS_in hj (by omega)]
      refine ⟨fun c => absurd c (nI_pos (by omega)), fun _ => ⟨fun _ w4 hw => ?_, fun c => absurd (nI_lt hj (by omega)) c⟩⟩
      have e4 : w4 = nI ((n + 40 - lk.length + j) % 40) := by
        rw [hw]
        simp (disch := omega) only [nI_add, pk_sub]
        rw [pk_rem (by omega) (by decide) (by decide)]
      have hk : lk[j]? = some lk[j] := List.getElem?_eq_getElem hj
      obtain ⟨e5, e6, e7⟩ := k5 j _ hk
      have hm : (n + 40 - lk.length + j) % 40 < 40 := Nat.mod_lt _ (by decide)
      subst e4
      dsimp only
      rw [hk]
      dsimp only
      rw [clN (by omega)]
      rcases pk_ix b (n := 3) (by decide) with y | y | ⟨i, hi, rfl⟩
      · rw [ixS_lo y]
        refine ⟨fun c => ?_, fun c => ?_, fun c => ?_, fun _ => .rf h⟩ <;> (subst c; exact absurd y (by decide))
      · rw [ixS_hi y]
        refine ⟨fun c => ?_, fun c => ?_, fun c => ?_, fun _ => .rf h⟩ <;> (subst c; exact absurd y (by decide))
      · rw [ixS_in hi (by decide)]
        rcases (show i = 0 ∨ i = 1 ∨ i = 2 by omega) with rfl | rfl | rfl
        · exact ⟨fun _ => ⟨inbN hm (by decide), .is h e5⟩, fun c => absurd c (by decide), fun c => absurd c (by decide), fun c => absurd rfl c.1⟩
        · exact ⟨fun c => absurd c (by decide), fun _ => ⟨inbN hm (by decide), .is h e6⟩, fun c => absurd c (by decide), fun c => absurd rfl c.2.1⟩
        · exact ⟨fun c => absurd c (by decide), fun c => absurd c (by decide), fun _ => ⟨inbN hm (by decide), .is h e7⟩, fun c => absurd rfl c.2.2⟩
theorem P_seed {a : Int32} (h : PSt sh fR f A Z) : Cl l G d 0 0 mX11_seed [.ref A, .int a] (sh, f, g, fR) (RP A sh fR f g (seedS Z a).1 (seedS Z a).2) := by
  obtain ⟨u, v, hr, hs, hp, hn, hP, hx⟩ := h.at
  obtain ⟨x1, x2, x3, x4⟩ := hx
  have hu := hr.pl
  refine VX11_seed hs hp hn hP ?_
  unfold seedS
  by_cases c : a < 0
  · rw [if_pos c]
    refine ⟨fun z => absurd c (Int32.not_lt.mpr z), fun _ => ⟨_, _, _, rfl, rfl, ⟨u, v, hr, x1.keep (up2_r (by omega)) (fun k => up2_r (by omega)), fun i hi => ?_, by rw [up2_r (by omega)]; exact x3, PSr.keep hr x4 (fun r k z => up2_r (by unfold kpP at z; omega))⟩, fun r k z => ⟨up2_r (by omega), rfl⟩, fun _ _ => rfl⟩⟩
    show _ = nI (fu Z.2.1 5 (Z.2.1 5 + 1) i)
    unfold fu
    by_cases ei : i = 5
    · subst ei; rw [up2_eq, if_pos rfl, x2 5 (by decide), nI_add]
    · rw [up2_k ei, if_neg ei]; exact x2 i hi
  · rw [if_neg c]
    have ea : a = nI a.toNatClampNeg := by
      rcases pk_ix a (n := 2147483647) (by decide) with q | q | ⟨j, hj, e⟩
      · exact absurd q c
      · have h2 : a.toInt = 2147483647 := by
          have h3 := Int32.le_iff_toInt_le.mp q
          have h4 := a.toInt_lt
          rw [show (nI 2147483647).toInt = 2147483647 from by decide] at h3
          omega
        have : a = nI 2147483647 := Int32.toInt_inj.mp h2
        rw [this]
        decide
      · rw [e, clN (by omega)]
    refine ⟨fun _ => ⟨_, _, _, rfl, rfl, ⟨u, v, hr, x1.keep (up2_r (by omega)) (fun k => up2_r (by omega)), fun i hi => by rw [up2_r (by omega)]; exact x2 i hi, by rw [up2_eq]; exact ea, PSr.keep hr x4 (fun r k z => up2_r (by unfold kpP at z; omega))⟩, fun r k z => ⟨up2_r (by omega), rfl⟩, fun _ _ => rfl⟩, fun z => absurd (Int32.not_lt.mp c) z⟩
/-- a refused call is counted -/
theorem PSx.ref {u v i : Nat} (hr : PRs sh fR A u v) (hx : PSx fR f A u Z) (hi : i < 6) : PSx fR (up2 f (A + 2) i (f (A + 2) i + nI 1)) A u (zRef Z i) := by
  obtain ⟨x1, x2, x3, x4⟩ := hx
  have hu := hr.pl
  refine ⟨x1.keep (up2_r (by omega)) (fun k => up2_r (by omega)), fun j hj => ?_, by rw [up2_r (by omega)]; exact x3, PSr.keep hr x4 (fun r k z => up2_r (by unfold kpP at z; omega))⟩
  show _ = nI (fu Z.2.1 i (Z.2.1 i + 1) j)
  unfold fu
  by_cases ei : j = i
  · subst ei; rw [up2_eq, if_pos rfl, x2 j hj, nI_add]
  · rw [up2_k ei, if_neg ei]; exact x2 j hj
theorem RP.ref {u v i : Nat} {y : Int32} (hr : PRs sh fR A u v) (hx : PSx fR f A u Z) (hi : i < 6) : RP A sh fR f g (zRef Z i) y (some (.int y)) (sh, up2 f (A + 2) i (f (A + 2) i + nI 1), g, fR) := ⟨_, _, _, rfl, rfl, ⟨u, v, hr, hx.ref hr hi⟩, fun r k z => ⟨up2_r (by omega), rfl⟩, fun _ _ => rfl⟩
theorem P_end {a : Int32} (h : PSt sh fR f A Z) (hz : zOK Z) : Cl l G d 0 0 mX11_end [.ref A, .int a] (sh, f, g, fR) (RP A sh fR f g (endS Z a).1 (endS Z a).2) := by
  obtain ⟨u, v, hr, hs, hp, hn, hP, hx⟩ := h.at
  have hu := hr.pl
  have hl := hz.1
  have hA := hs.2.2.1
  refine VX11_end hs hp hn hP ?_
  rw [hx.1.1]
  unfold endS
  rcases pk_ix a (n := Z.1.length + 1) (by omega) with q | q | ⟨j, hj, rfl⟩
  · rw [ixS_lo q]
    exact ⟨fun _ => VX11_end_12 hs hp hn hP (.ref hr hx (by decide)), fun c => absurd q c⟩
  · rw [ixS_hi q]
    exact ⟨fun _ => VX11_end_12 hs hp hn hP (.ref hr hx (by decide)), fun _ => ⟨fun c => absurd (Int32.le_trans q c) (nI_ge (by omega) (by omega)), fun _ => VX11_end_12 hs hp hn hP (.ref hr hx (by decide))⟩⟩
  · rw [ixS_in hj (by omega)]
    obtain ⟨x1, x2, x3, x4⟩ := hx
    refine ⟨fun c => absurd c (nI_pos (by omega)), fun _ => ⟨fun _ => ⟨_, _, _, rfl, rfl, ⟨u, v, hr, ⟨?_, fun k b hk => ?_⟩, fun i hi => by rw [up2_r (by omega)]; exact x2 i hi, by rw [up2_r (by omega)]; exact x3, PSr.keep hr x4 (fun r k z => up2_ne (by unfold kpP at z; omega))⟩, fun r k z => ⟨up2_r (by omega), rfl⟩, fun _ _ => rfl⟩, fun c => absurd (nI_le (by omega) (by omega)) c⟩⟩
    · show _ = nI (Z.1.take j).length
      rw [up2_eq, List.length_take, Nat.min_eq_left (by omega)]
    · rw [up2_r (by omega)]
      have h2 : (Z.1.take j)[k]? = some b := hk
      rw [List.getElem?_take] at h2
      split at h2
      · exact x1.2 k b h2
      · cases h2
/-- the tape alone is written -/
def TpW (A : Nat) (f f' : FI) : Prop := ∀ r k, ¬ (r = A ∧ k = 1) → r ≠ A + 1 → f' r k = f r k
theorem D_putNumber {K : FI → FL → Prop} {u : Nat} {tp : List Nat} {a : Int32} (hs : StA sh fR A) (hp : fR A 5 = some u) (hn : fR (A + 40) 7 = some u) (hP : StPl sh fR u) (ht : PTp f A tp) (hl : tp.length + 4 ≤ 1600) (H : ∀ f' : FI, PTp f' A (tp ++ bytesS a) → TpW A f f' → K f' g) : Cl l G d 0 0 mX11_putNumber [.ref A, .int a] (sh, f, g, fR) (qv sh fR K) := by
  have step : ∀ (f0 : FI) (t0 : List Nat) (s : Nat), PTp f0 A t0 → t0.length < 1600 → s ≤ 24 → (∀ f1 : FI, PTp f1 A (t0 ++ [byt a s]) → TpW A f0 f1 → LpX11_putNumber_3 l G d (qv sh fR K) sh fR A u f1 g a (nI s + (-8))) → LpX11_putNumber_3 l G d (qv sh fR K) sh fR A u f0 g a (nI s) := by
    intro f0 t0 s h0 h1 h2 H2
    refine VX11_putNumber_3 hs hp hn hP ?_
    obtain ⟨e, he⟩ := byt_eq a s
    rw [h0.1, clN (by omega), e, nI_add]
    refine ⟨fun c => absurd c (nI_pos (by omega)), fun _ => ⟨fun c => absurd c (nI_ge h1 (by decide)), fun _ => ⟨inbN h1 (by decide), H2 _ ⟨?_, fun k b hk => ?_⟩ (fun r k z z1 => ?_)⟩⟩⟩
    · rw [up2_eq, List.length_append, List.length_singleton]
    · rw [up2_r (by omega)]
      by_cases ek : k = t0.length
      · subst ek
        rw [at_len] at hk
        cases hk
        exact up2_eq
      · rw [up2_k ek]
        refine h0.2 k b ?_
        have := (List.getElem?_eq_some_iff.mp hk).1
        rw [List.length_append, List.length_singleton] at this
        rw [List.getElem?_append_left (by omega)] at hk
        exact hk
    · rw [up2_ne (by omega), up2_r (by omega)]
  have e8 : ∀ s, 8 ≤ s → s ≤ 24 → nI s + (-8) = nI (s - 8) := fun s h8 _ => by
    rw [show (-8 : Int32) = - nI 8 from rfl, ← Int32.sub_eq_add_neg, pk_sub h8]
  refine VX11_putNumber hs hp hn hP ?_
  refine step f tp 24 ht (by omega) (by decide) (fun f1 t1 w1 => ?_)
  rw [e8 24 (by decide) (by decide)]
  refine step f1 _ 16 t1 (by simp; omega) (by decide) (fun f2 t2 w2 => ?_)
  rw [e8 16 (by decide) (by decide)]
  refine step f2 _ 8 t2 (by simp; omega) (by decide) (fun f3 t3 w3 => ?_)
  rw [e8 8 (by decide) (by decide)]
  refine step f3 _ 0 t3 (by simp; omega) (by decide) (fun f4 t4 w4 => ?_)
  refine VX11_putNumber_3 hs hp hn hP ⟨fun _ => ⟨_, _, rfl, rfl, H f4 ?_ (fun r k a b => (w4 r k a b).trans ((w3 r k a b).trans ((w2 r k a b).trans (w1 r k a b))))⟩, fun c => absurd (by decide) c⟩
  simp only [List.append_assoc] at t4
  exact t4
theorem P_feed {a b c e i : Int32} (h : PSt sh fR f A Z) (hz : zOK Z) : Cl l G (d + 1) 0 0 mX11_feed [.ref A, .int a, .int b, .int c, .int e, .int i] (sh, f, g, fR) (RP A sh fR f g (feedS Z a b c e i).1 (feedS Z a b c e i).2) := by
  obtain ⟨u, v, hr, hs, hp, hn, hP, hx⟩ := h.at
  have hu := hr.pl
  have hl := hz.1
  have hA := hs.2.2.1
  have b4 : ∀ x, (bytesS x).length = 4 := fun x => rfl
  refine VX11_feed hs hp hn hP ?_
  rw [hx.1.1, nI_add]
  unfold feedS
  by_cases hc : 1600 < Z.1.length + 20
  · rw [if_pos hc]
    exact ⟨fun z => absurd z (nI_ge hc (by omega)), fun _ => .ref hr hx (by decide)⟩
  · rw [if_neg hc]
    refine ⟨fun _ => ?_, fun z => absurd (nI_le (by omega) (by omega)) z⟩
    refine D_putNumber hs hp hn hP hx.1 (by omega) (fun f1 t1 w1 => ?_)
    refine D_putNumber hs hp hn hP t1 (by simp only [List.length_append, b4]; omega) (fun f2 t2 w2 => ?_)
    refine D_putNumber hs hp hn hP t2 (by simp only [List.length_append, b4]; omega) (fun f3 t3 w3 => ?_)
    refine D_putNumber hs hp hn hP t3 (by simp only [List.length_append, b4]; omega) (fun f4 t4 w4 => ?_)
    refine D_putNumber hs hp hn hP t4 (by simp only [List.length_append, b4]; omega) (fun f5 t5 w5 => ?_)
    have w : TpW A f f5 := fun r k a b => (w5 r k a b).trans ((w4 r k a b).trans ((w3 r k a b).trans ((w2 r k a b).trans (w1 r k a b))))
    obtain ⟨x1, x2, x3, x4⟩ := hx
    refine ⟨_, _, _, ?_, rfl, ⟨u, v, hr, t5, fun i hi => by rw [w _ _ (by omega) (by omega)]; exact x2 i hi, by rw [w _ _ (by omega) (by omega)]; exact x3, PSr.keep hr x4 (fun r k z => w _ _ (by unfold kpP at z; omega) (by unfold kpP at z; omega))⟩, fun r k z => ⟨w _ _ (by omega) (by omega), rfl⟩, fun _ _ => rfl⟩
    rw [t5.1]
    simp only [List.length_append, b4]
theorem packC_at : ∀ (l : List Nat) (k : Nat), (∀ c ∈ l, c < 32) → packC l / 2 ^ (5 * k) % 2 ^ 5 = l.getD k 0
  | [], k, _ => by
    show 0 / _ % _ = ([] : List Nat).getD k 0
    rw [Nat.zero_div]; simp
  | c :: l, 0, h => by
    have := h c (List.mem_cons_self)
    show (c + 32 * packC l) / 2 ^ 0 % 32 = c
    rw [Nat.pow_zero, Nat.div_one]
    omega
  | c :: l, k + 1, h => by
    have := h c (List.mem_cons_self)
    have ih := packC_at l k (fun x hx => h x (List.mem_cons_of_mem _ hx))
    show (c + 32 * packC l) / 2 ^ (5 * (k + 1)) % 2 ^ 5 = (c :: l).getD (k + 1) 0
    rw [show 2 ^ (5 * (k + 1)) = 32 * 2 ^ (5 * k) from by rw [Nat.mul_add, Nat.pow_add, Nat.mul_comm], ← Nat.div_div_eq_div_mul, show (c + 32 * packC l) / 32 = packC l by omega, ih]
    simp
theorem packC_lt : ∀ (l : List Nat), (∀ c ∈ l, c < 32) → packC l < 32 ^ l.length
  | [], _ => by show 0 < 1; decide
  | c :: l, h => by
    have := h c (List.mem_cons_self)
    have ih := packC_lt l (fun x hx => h x (List.mem_cons_of_mem _ hx))
    show c + 32 * packC l < 32 ^ (l.length + 1)
    rw [Nat.pow_succ]
    omega
theorem packC_b {l : List Nat} (h6 : l.length ≤ 6) (h : ∀ c ∈ l, c < 32) : packC l < 2 ^ 30 := Nat.lt_of_lt_of_le (packC_lt l h) (Nat.le_trans (Nat.pow_le_pow_right (by decide) h6) (by decide))
theorem D_letterOf {K : Int32 → FI → FL → Prop} {l0 : List Nat} {k : Nat} (h6 : l0.length ≤ 6) (h : ∀ c ∈ l0, c < 32) (hk : k < 6) (H : K (nI (l0.getD k 0)) f g) : Cl l G d 0 0 mX9_letterOf [.int (nI (packC l0)), .int (nI k)] (sh, f, g, fR) (qi sh fR K) := by
  have hb := packC_b h6 h
  refine VX9_letterOf ⟨_, _, _, rfl, rfl, ?_⟩
  have e : (nI (packC l0) >>> ((nI 5 * nI k) &&& 31)) &&& nI 31 = nI (l0.getD k 0) := by
    rw [← packC_at l0 k h]
    rw [pk_shrN (by omega) _ (5 * k) (by rcases (show k = 0 ∨ k = 1 ∨ k = 2 ∨ k = 3 ∨ k = 4 ∨ k = 5 by omega) with rfl | rfl | rfl | rfl | rfl | rfl <;> decide), pk_andN (Nat.lt_of_le_of_lt (Nat.div_le_self _ _) (by omega)) 5 (by decide)]
  rw [e]
  exact H
theorem D_isPathP {K : Int32 → FI → FL → Prop} {u : Nat} {a : Int32} (hs : StA sh fR A) (hp : fR A 5 = some u) (hn : fR (A + 40) 7 = some u) (hP : StPl sh fR u) (hx : PSx fR f A u Z) (hz : zOK Z) (H1 : ∀ q p, Z.2.2.2.2 = some q → p < q.1.1 6 → p < 4 → a = nI p → K (nI 1) f g) (H0 : (∀ q, Z.2.2.2.2 = some q → ixS a (q.1.1 6) = none) → K (nI 0) f g) : Cl l G d 0 0 mX11_isPath [.ref A, .int a] (sh, f, g, fR) (qi sh fR K) := by
  refine VX11_isPath hs hp hn hP ?_
  cases ht : Z.2.2.2.2 with
  | none => exact ⟨fun _ => ⟨_, _, _, rfl, rfl, H0 (fun q hq => by rw [ht] at hq; cases hq)⟩, fun c => absurd (hx.no ht) c⟩
  | some q =>
    obtain ⟨h4, na, -, -, t⟩ := hx.td ht
    have h6 := (hz.2.2.2.2 q ht).1.2.2.2.2.2.1
    rw [t.1.1 6 (by decide)]
    have H0' : ixS a (q.1.1 6) = none → K (nI 0) f g := fun z => H0 (fun q' hq => by rw [ht] at hq; cases hq; exact z)
    refine ⟨fun c => absurd c h4, fun _ => ?_⟩
    rcases pk_ix a (n := q.1.1 6) (by omega) with z | z | ⟨j, hj, e⟩
    · exact ⟨fun _ => ⟨_, _, _, rfl, rfl, H0' (ixS_lo z)⟩, fun c => absurd z c⟩
    · exact ⟨fun _ => ⟨_, _, _, rfl, rfl, H0' (ixS_hi z)⟩, fun _ => ⟨fun _ => ⟨_, _, _, rfl, rfl, H0' (ixS_hi z)⟩, fun c => absurd z c⟩⟩
    · refine ⟨fun c => ?_, fun _ => ⟨fun c => ?_, fun _ => ⟨_, _, _, rfl, rfl, H1 q j ht hj (by omega) e⟩⟩⟩
      · rw [e] at c; exact absurd c (nI_pos (by omega))
      · rw [e] at c; exact absurd c (nI_ge hj (by omega))
theorem P_letter {a b : Int32} (h : PSt sh fR f A Z) (hz : zOK Z) : Cl l G (d + 1) 0 0 mX11_letter [.ref A, .int a, .int b] (sh, f, g, fR) (RP A sh fR f g Z (letterS Z a b)) := by
  obtain ⟨u, v, hr, hs, hp, hn, hP, hx⟩ := h.at
  refine VX11_letter hs hp hn hP ?_
  refine D_isPathP hs hp hn hP hx hz (fun q p ht hp6 hp4 e => ⟨fun c => absurd c (by decide), fun _ => ?_⟩) (fun hno => ⟨fun _ => .is h ?_, fun c => absurd rfl c⟩)
  · subst e
    obtain ⟨h4, na, -, -, t⟩ := hx.td ht
    have hq := hz.2.2.2.2 q ht
    have h6 := hq.1.2.2.2.2.2.1
    unfold letterS
    rw [ht]
    dsimp only
    rw [ixS_in hp6 (by omega), clN (by omega), t.2.1 p hp6]
    dsimp only
    rcases pk_ix b (n := 6) (by decide) with z | z | ⟨k, hk, rfl⟩
    · rw [ixS_lo z]
      exact ⟨fun _ => .rf h, fun c => absurd z c⟩
    · rw [ixS_hi z]
      exact ⟨fun _ => .rf h, fun _ => ⟨fun c => absurd c (Int32.not_lt.mpr z), fun _ => .rf h⟩⟩
    · rw [ixS_in hk (by decide)]
      obtain ⟨n1, n2, n3⟩ := hq.2.1 p hp6
      exact ⟨fun c => absurd c (nI_pos (by omega)), fun _ => ⟨fun _ => ⟨inbN hp4 (by decide), D_letterOf n2 (fun c hc => by have := n3 c hc; omega) hk (.rf h)⟩, fun c => absurd (nI_lt hk (by decide)) c⟩⟩
  · unfold letterS
    cases ht : Z.2.2.2.2 with
    | none => rfl
    | some q => dsimp only; rw [hno q ht]
end PA
