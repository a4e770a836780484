/-! the reference's calls: what is asked -/
theorem pk_lshrN {n : Nat} (h : n < 2 ^ 63) (s : Int64) (k : Nat) (hs : (s.toBitVec.smod 64).toNat = k) : lN n >>> s = lN (n / 2 ^ k) := by
  apply Int64.toInt_inj.mp
  have h2 : n / 2 ^ k ≤ n := Nat.div_le_self _ _
  have e : (lN n >>> s).toInt = (lN n).toInt >>> k := by
    show ((lN n).toBitVec.sshiftRight (s.toBitVec.smod 64).toNat).toInt = _
    rw [hs, BitVec.toInt_sshiftRight]
    rfl
  rw [e, pk_lT h, pk_lT (by omega), Int.shiftRight_eq_div_pow]
  rfl
theorem pk_landN {n : Nat} (h : n < 2 ^ 64) {m : Int64} (k : Nat) (hm : m.toBitVec.toNat = 2 ^ k - 1) : lN n &&& m = lN (n % 2 ^ k) := by
  apply Int64.toBitVec_inj.mp
  apply BitVec.eq_of_toNat_eq
  rw [Int64.toBitVec_and, BitVec.toNat_and, hm, Nat.and_two_pow_sub_one_eq_mod]
  show (BitVec.ofNat 64 n).toNat % 2 ^ k = (BitVec.ofNat 64 _).toNat
  rw [BitVec.toNat_ofNat, BitVec.toNat_ofNat, Nat.mod_eq_of_lt h, Nat.mod_eq_of_lt (Nat.lt_of_le_of_lt (Nat.mod_le _ _) h)]
theorem packM_snoc (l : List Nat) (c : Nat) : packM (l ++ [c]) = packM l * 256 + (c + 96) := by
  unfold packM
  rw [List.foldl_append]
  rfl
theorem packM_at (n : Nat) : ∀ (l : List Nat) (j : Nat), l.length = n → (∀ c ∈ l, c ≤ 26) → j < n → packM l / 256 ^ j % 256 = l.getD (n - 1 - j) 0 + 96 := by
  induction n with
  | zero => intro l j _ _ hj; omega
  | succ n ih =>
    intro l j hl hc hj
    have hne : l ≠ [] := fun z => by rw [z] at hl; cases hl
    have e := (List.dropLast_concat_getLast hne).symm
    generalize l.getLast hne = c at e
    generalize l.dropLast = l0 at e
    subst e
    rw [List.length_append, List.length_singleton] at hl
    have hc26 : c ≤ 26 := hc c (by simp)
    rw [packM_snoc]
    cases j with
    | zero =>
      rw [Nat.pow_zero, Nat.div_one, show (l0 ++ [c]).getD (n + 1 - 1 - 0) 0 = c from by rw [show n + 1 - 1 - 0 = l0.length by omega]; simp]
      omega
    | succ j =>
      rw [Nat.pow_succ, Nat.mul_comm (256 ^ j), ← Nat.div_div_eq_div_mul, show (packM l0 * 256 + (c + 96)) / 256 = packM l0 by omega, ih l0 j (by omega) (fun x hx => hc x (by simp [hx])) (by omega)]
      rw [show n + 1 - 1 - (j + 1) = n - 1 - j by omega, List.getD_eq_getElem?_getD, List.getD_eq_getElem?_getD, List.getElem?_append_left (by omega)]
theorem packM_lt (n : Nat) : ∀ (l : List Nat), l.length = n → (∀ c ∈ l, c ≤ 26) → packM l < 256 ^ n := by
  induction n with
  | zero =>
    intro l hl _
    rw [List.length_eq_zero_iff.mp hl]
    decide
  | succ n ih =>
    intro l hl hc
    have hne : l ≠ [] := fun z => by rw [z] at hl; cases hl
    have e := (List.dropLast_concat_getLast hne).symm
    generalize l.getLast hne = c at e
    generalize l.dropLast = l0 at e
    subst e
    rw [List.length_append, List.length_singleton] at hl
    have hc26 : c ≤ 26 := hc c (by simp)
    have := ih l0 (by omega) (fun x hx => hc x (by simp [hx]))
    rw [packM_snoc, Nat.pow_succ]
    omega
def π0 : Pl := (fun _ => 0, fun _ => [], fun _ => 0, fun _ => none, fun _ => none)
def q0 : Td := (π0, fun _ => 0, wZ, [], [])
def qZ (Z : Zs) : Td := Z.2.2.2.2.getD q0
section MA
variable {l : Launch} {G : Gx} {d : Nat} {sh : Sh} {fR : FRt} {B : Nat} {f : FI} {g : FL} {Z : Zs}
theorem RQ.rf {y : Int32} (h : MSt f g B Z) : RQ B sh fR f g Z y (some (.int y)) (sh, f, g, fR) := ⟨_, _, rfl, rfl, h, fun _ _ _ => rfl⟩
theorem RQ.is {y y' : Int32} (h : MSt f g B Z) (e : y = y') : RQ B sh fR f g Z y' (some (.int y)) (sh, f, g, fR) := by
  rw [e]
  exact .rf h
theorem MSt.q (h : MSt f g B Z) (hz : zOK Z) : ∃ b m, b < 2 ∧ f B 13 = nI b ∧ f (B + 2) b = nI ((qZ Z).1.1 1) ∧ f (B + 6) b = nI ((qZ Z).1.1 6) ∧ RM f B 0 (qZ Z).2.2.1 m ∧ PI (qZ Z).1 (qZ Z).2.2.1 m ∧ f B 50 = nI (qZ Z).2.2.2.1.length ∧ f B 64 = nI (qZ Z).2.2.2.2.length ∧ (qZ Z).1.1 1 ≤ 200 ∧ (qZ Z).1.1 6 ≤ 4 ∧ wN (qZ Z).2.2.1 ∧ ∀ s ∈ (qZ Z).2.2.1.2.2.1, s.2.2.1 + s.2.2.2.1 ≤ 200 := by
  obtain ⟨-, -, -, -, -, -, -, b, hb, h13, ht⟩ := h
  unfold qZ
  cases hq : Z.2.2.2.2 with
  | none =>
    rw [hq] at ht
    obtain ⟨rfl, t2, t3, t4, t5, t6, -⟩ := ht
    refine ⟨0, [], hb, h13, t2, t3, t4, ⟨fun q hq => (by cases hq), rfl, by decide⟩, t5, t6, by decide, by decide, ⟨fun i hi => Nat.zero_le _, fun p i => Nat.zero_le _, fun s hs => (by cases hs), fun a ha => (by cases ha)⟩, fun s hs => (by cases hs)⟩
  | some q =>
    rw [hq] at ht
    obtain ⟨t1, t2, ⟨m, t3, t3'⟩, t4, t5, t6, t7⟩ := ht
    have ok := hz.2.2.2.2 q hq
    have hg := ok.2.2.2.2.1
    have hg1 := hg.1
    have hl := ok.1.1
    exact ⟨b, m, hb, h13, t1.1.2.2.1, t1.1.2.2.2.2.2.2.2.1, t3, t3', t5, t6, by show q.1.1 1 ≤ 200; omega, ok.1.2.2.2.2.2.1, hg.2.1.wN ok.1 (by omega), fun s hs => by have := (hg.2.1.2.2.1 s hs).2.2.2.1; show s.2.2.1 + s.2.2.2.1 ≤ 200; omega⟩
/-- a number within bounds -/
theorem D_is {K : Int32 → FI → FL → Prop} {a e : Int32} {n : Nat} (hs : StM sh fR B) (hn : n < 2 ^ 31) (he : e = nI n - nI 1) (H1 : ∀ j, j < n → a = nI j → K (nI 1) f g) (H0 : ixS a n = none → K (nI 0) f g) : Cl l G d 0 0 mX12_is [.int a, .int (nI 0), .int e] (sh, f, g, fR) (qi sh fR K) := by
  refine VX12_is hs ?_
  rcases pk_ix a hn with z | z | ⟨j, hj, ea⟩
  · exact ⟨fun _ => ⟨_, _, _, rfl, rfl, H0 (ixS_lo z)⟩, fun c => absurd z c⟩
  · refine ⟨fun _ => ⟨_, _, _, rfl, rfl, H0 (ixS_hi z)⟩, fun _ => ⟨fun _ => ⟨_, _, _, rfl, rfl, H0 (ixS_hi z)⟩, fun c => absurd ?_ c⟩⟩
    rw [he]
    have h1 : (nI n - nI 1).toInt = (n : Int) - 1 := by
      rw [Int32.toInt_sub, nI_toInt hn, nI_toInt (by decide)]
      exact Int.bmod_eq_of_le (by omega) (by omega)
    have h2 := Int32.le_iff_toInt_le.mp z
    rw [nI_toInt hn] at h2
    exact Int32.lt_iff_toInt_lt.mpr (by omega)
  · subst ea
    rw [he, pk_sub (by omega)]
    exact ⟨fun c => absurd c (nI_pos (by omega)), fun _ => ⟨fun c => absurd (nI_le (show j ≤ n - 1 by omega) (by omega)) (Int32.not_le.mpr c), fun _ => ⟨_, _, _, rfl, rfl, H1 j hj rfl⟩⟩⟩
theorem M_status {a : Int32} (hs : StM sh fR B) (h : MSt f g B Z) : Cl l G (d + 1) 0 0 mX12_status [.ref B, .int a] (sh, f, g, fR) (RQ B sh fR f g Z (statusS Z a)) := by
  refine VX12_status hs ?_
  refine D_is (n := 6) hs (by decide) (by decide) (fun j hj e => ⟨fun c => absurd c (by decide), fun _ => ?_⟩) (fun z => ⟨fun _ => .is h ?_, fun c => absurd rfl c⟩)
  · subst e
    rw [clN (by omega)]
    refine ⟨inbN hj (by decide), .is h ?_⟩
    unfold statusS
    rw [ixS_in hj (by decide)]
    exact h.2.1 j hj
  · unfold statusS
    rw [z]
theorem M_fault {a : Int32} (hs : StM sh fR B) (h : MSt f g B Z) : Cl l G d 0 0 mX12_fault [.ref B, .int a] (sh, f, g, fR) (RQ B sh fR f g Z (faultS Z a)) := by
  refine VX12_fault hs ?_
  obtain ⟨f1, f2⟩ := h.2.2.2.1
  unfold faultS
  by_cases h0 : a = 0
  · rw [if_pos h0]
    exact ⟨fun c => absurd h0 c, fun _ => .is h f1⟩
  · rw [if_neg h0]
    refine ⟨fun _ => ?_, fun c => absurd c h0⟩
    by_cases h1 : a = nI 1
    · rw [if_pos h1]
      exact ⟨fun c => absurd h1 c, fun _ => .is h f2⟩
    · rw [if_neg h1]
      exact ⟨fun _ => .rf h, fun c => absurd c h1⟩
theorem M_refusals {a : Int32} (hs : StM sh fR B) (h : MSt f g B Z) (hz : zOK Z) : Cl l G (d + 1) 0 0 mX12_refusals [.ref B, .int a] (sh, f, g, fR) (RQ B sh fR f g Z (refusalsS Z a)) := by
  obtain ⟨b, m, hb, h13, -, -, hR, -⟩ := h.q hz
  refine VX12_refusals hs ?_
  refine D_is (n := 4) hs (by decide) (by decide) (fun j hj e => ⟨fun c => absurd c (by decide), fun _ => ?_⟩) (fun z => ⟨fun _ => .is h ?_, fun c => absurd rfl c⟩)
  · subst e
    simp (disch := omega) only [pk_mul, nI_add, clN]
    refine ⟨inbN (by omega) (by decide), .is h ?_⟩
    have := hR.1 (10 + j) (by unfold nset; omega)
    rw [this]
    unfold refusalsS qZ
    rw [ixS_in hj (by decide)]
    cases Z.2.2.2.2 <;> rfl
  · unfold refusalsS
    rw [z]
theorem M_octet {a : Int32} (hs : StM sh fR B) (h : MSt f g B Z) (hz : zOK Z) : Cl l G (d + 1) 0 0 mX12_octet [.ref B, .int a] (sh, f, g, fR) (RQ B sh fR f g Z (octetS Z a)) := by
  obtain ⟨b, m, hb, h13, h2, -, hR, -, -, -, hl, -, hN, -⟩ := h.q hz
  have e : octetS Z a = match ixS a ((qZ Z).1.1 1) with | none => -1 | some k => if k < (qZ Z).2.2.1.1 4 then nI 2 else bI ((qZ Z).2.2.1.2.2.2.2.2.1 k) := by
    unfold octetS qZ
    cases Z.2.2.2.2 with
    | none =>
      dsimp only [Option.getD_none]
      cases hx : ixS a (q0.1.1 1) with
      | none => rfl
      | some j => exact absurd (ixS_some (by decide) hx).1 (by show ¬ j < 0; omega)
    | some q => rfl
  have h4 := hN.1 4 (by decide)
  rw [e]
  refine VX12_octet hs ?_
  rw [h13, clN (by omega), h2]
  refine ⟨inbN hb (by decide), D_is hs (by omega) rfl (fun j hj ej => ⟨fun _ => ?_, fun c => absurd c (by decide)⟩) (fun z => ⟨fun c => absurd rfl c, fun _ => .is h (by rw [z])⟩)⟩
  subst ej
  rw [ixS_in hj (by omega)]
  simp (disch := omega) only [pk_mul, nI_add, clN]
  rw [show f (B + 23) (40 * 0 + 4) = nI ((qZ Z).2.2.1.1 4) from hR.1 4 (by unfold nset; omega)]
  refine ⟨inbN (by omega) (by decide), fun c => ⟨inbN (by omega) (by decide), .is h ?_⟩, fun c => .is h ?_⟩
  · have hk : ¬ j < (qZ Z).2.2.1.1 4 := fun z => absurd c (nI_ge z (by omega))
    rw [if_neg hk]
    have := hR.2.2.2.2.2.1 j (by omega)
    rw [show 200 * 0 + j = j by omega] at this
    exact this
  · have hk : j < (qZ Z).2.2.1.1 4 := by
      rcases Nat.lt_or_ge j ((qZ Z).2.2.1.1 4) with z | z
      · exact z
      · exact absurd (nI_le z (by omega)) c
    rw [if_pos hk]
theorem M_kept {a b : Int32} (hs : StM sh fR B) (h : MSt f g B Z) (hz : zOK Z) : Cl l G (d + 1) 0 0 mX12_kept [.ref B, .int a, .int b] (sh, f, g, fR) (RQ B sh fR f g Z (keptS Z a b)) := by
  obtain ⟨b', m, -, -, -, -, hR, -⟩ := h.q hz
  obtain ⟨k1, k2, k3⟩ := hR.2.2.2.2.2.2
  have e : keptS Z a b = match ixS a (qZ Z).2.2.1.2.2.2.2.2.2.length with | none => -1 | some k => match (qZ Z).2.2.1.2.2.2.2.2.2[k]? with | none => -1 | some r => match ixS b 3 with | none => -1 | some j => kE r j := by
    unfold keptS qZ
    cases Z.2.2.2.2 with
    | none =>
      dsimp only [Option.getD_none]
      cases hx : ixS a q0.2.2.1.2.2.2.2.2.2.length with
      | none => rfl
      | some j => exact absurd (ixS_some (by decide) hx).1 (by show ¬ j < 0; omega)
    | some q => rfl
  rw [e]
  refine VX12_kept hs ?_
  simp (disch := omega) only [pk_mul, nI_add, clN]
  rw [k1]
  refine ⟨inbN (by omega) (by decide), D_is hs (by omega) rfl (fun i hi ei => ⟨fun c => absurd c (by decide), fun _ => ?_⟩) (fun z => ⟨fun _ => .is h (by rw [z]), fun c => absurd rfl c⟩)⟩
  subst ei
  rw [ixS_in hi (by omega)]
  have hk := List.getElem?_eq_getElem hi
  dsimp only
  rw [hk]
  dsimp only
  refine D_is (n := 3) hs (by decide) (by decide) (fun j hj ej => ⟨fun c => absurd c (by decide), fun _ => ?_⟩) (fun z => ⟨fun _ => .is h (by rw [z]), fun c => absurd rfl c⟩)
  subst ej
  rw [ixS_in hj (by decide)]
  simp (disch := omega) only [pk_mul, nI_add, clN]
  refine ⟨inbN (by omega) (by decide), .is h ?_⟩
  have := k3 i _ hk j hj
  rw [show 3 * (40 * 0 + i) + j = 3 * i + j by omega] at this
  exact this
/-- a refused call is counted -/
theorem MSt.ref {i : Nat} (h : MSt f g B Z) (hi : i < 6) : MSt (up2 f (B + 22) i (f (B + 22) i + nI 1)) g B (zRef Z i) := by
  obtain ⟨x1, x2, x3, x4⟩ := h
  refine ⟨x1.keep (up2_r (by omega)) (fun k => up2_r (by omega)), fun j hj => ?_, x3, x4.keep (fun r k z => up2_r (by unfold kpM at z; omega)) (fun _ => rfl)⟩
  show _ = nI (fu Z.2.1 i (Z.2.1 i + 1) j)
  unfold fu
  by_cases ei : j = i
  · subst ei; rw [up2_eq, if_pos rfl, x2 j hj, nI_add]
  · rw [up2_k ei, if_neg ei]; exact x2 j hj
theorem RQ.ref {i : Nat} {y : Int32} (h : MSt f g B Z) (hi : i < 6) : RQ B sh fR f g (zRef Z i) y (some (.int y)) (sh, up2 f (B + 22) i (f (B + 22) i + nI 1), g, fR) := ⟨_, _, rfl, rfl, h.ref hi, fun r k z => up2_r (by omega)⟩
theorem M_seed {a : Int32} (hs : StM sh fR B) (h : MSt f g B Z) : Cl l G (d + 1) 0 0 mX12_seed [.ref B, .int a] (sh, f, g, fR) (RQ B sh fR f g (seedS Z a).1 (seedS Z a).2) := by
  refine VX12_seed hs ?_
  unfold seedS
  by_cases c : a < 0
  · rw [if_pos c]
    exact ⟨fun z => absurd c (Int32.not_lt.mpr z), fun _ => .ref h (by decide)⟩
  · rw [if_neg c]
    obtain ⟨x1, x2, x3, x4⟩ := h
    obtain ⟨e1, e2⟩ := i32_nn c
    refine ⟨fun _ => ⟨_, _, rfl, rfl, ⟨x1, x2, ?_, x4.keep (fun r k z => rfl) (fun k => up2_r (by omega))⟩, fun _ _ _ => rfl⟩, fun z => absurd (Int32.not_lt.mp c) z⟩
    show up2 g B 51 a.toInt64 B 51 = lN a.toNatClampNeg
    rw [up2_eq]
    conv => lhs; rw [e1]
    exact nI_l e2
theorem M_end {a : Int32} (hs : StM sh fR B) (h : MSt f g B Z) (hz : zOK Z) : Cl l G (d + 1) 0 0 mX12_end [.ref B, .int a] (sh, f, g, fR) (RQ B sh fR f g (endS Z a).1 (endS Z a).2) := by
  have hl := hz.1
  refine VX12_end hs ?_
  rw [h.1.1]
  unfold endS
  rcases pk_ix a (n := Z.1.length + 1) (by omega) with q | q | ⟨j, hj, rfl⟩
  · rw [ixS_lo q]
    exact ⟨fun _ => .ref h (by decide), fun c => absurd q c⟩
  · rw [ixS_hi q]
    exact ⟨fun _ => .ref h (by decide), fun _ => ⟨fun c => absurd (Int32.le_trans q c) (nI_ge (by omega) (by omega)), fun _ => .ref h (by decide)⟩⟩
  · rw [ixS_in hj (by omega)]
    obtain ⟨x1, x2, x3, x4⟩ := h
    refine ⟨fun c => absurd c (nI_pos (by omega)), fun _ => ⟨fun _ => ⟨_, _, rfl, rfl, ⟨⟨?_, fun k b hk => ?_⟩, fun i hi => by rw [up2_r (by omega)]; exact x2 i hi, x3, x4.keep (fun r k z => up2_ne (by unfold kpM at z; omega)) (fun _ => rfl)⟩, fun r k z => up2_r (by omega)⟩, fun c => absurd (nI_le (by omega) (by omega)) c⟩⟩
    · show _ = nI (Z.1.take j).length
      rw [up2_eq, List.length_take, Nat.min_eq_left (by omega)]
    · rw [up2_r (by omega)]
      have h2 : (Z.1.take j)[k]? = some b := hk
      rw [List.getElem?_take] at h2
      split at h2
      · exact x1.2 k b h2
      · cases h2
theorem C_put {K : FI → FL → Prop} {tp : List Nat} {a : Int32} (hs : StM sh fR B) (ht : MTp f B tp) (hl : tp.length + 4 ≤ 1600) (H : ∀ f' : FI, MTp f' B (tp ++ bytesS a) → TpW B f f' → K f' g) : Cl l G d 0 0 mX12_put [.ref B, .int a] (sh, f, g, fR) (qv sh fR K) := by
  have step : ∀ (f0 : FI) (t0 : List Nat) (s : Nat), MTp f0 B t0 → t0.length < 1600 → s ≤ 24 → (∀ f1 : FI, MTp f1 B (t0 ++ [byt a s]) → TpW B f0 f1 → LpX12_put_3 l G d (qv sh fR K) sh fR B f1 g a (nI s + (-8))) → LpX12_put_3 l G d (qv sh fR K) sh fR B f0 g a (nI s) := by
    intro f0 t0 s h0 h1 h2 H2
    refine VX12_put_3 hs ?_
    obtain ⟨e, he⟩ := byt_eq a s
    rw [h0.1, clN (by omega), e, nI_add]
    refine ⟨fun c => absurd c (nI_pos (by omega)), fun _ => ⟨inbN (by omega) (by decide), H2 _ ⟨?_, fun k b hk => ?_⟩ (fun r k z z1 => ?_)⟩⟩
    · rw [up2_eq, List.length_append, List.length_singleton]
    · rw [up2_r (by omega)]
      by_cases ek : k = t0.length
      · subst ek
        rw [at_len] at hk
        cases hk
        exact up2_eq
      · rw [up2_k ek]
        refine h0.2 k b ?_
        have := (List.getElem?_eq_some_iff.mp hk).1
        rw [List.length_append, List.length_singleton] at this
        rw [List.getElem?_append_left (by omega)] at hk
        exact hk
    · rw [up2_ne (by omega), up2_r (by omega)]
  have e8 : ∀ s, 8 ≤ s → s ≤ 24 → nI s + (-8) = nI (s - 8) := fun s h8 _ => by
    rw [show (-8 : Int32) = - nI 8 from rfl, ← Int32.sub_eq_add_neg, pk_sub h8]
  refine VX12_put hs ?_
  refine step f tp 24 ht (by omega) (by decide) (fun f1 t1 w1 => ?_)
  rw [e8 24 (by decide) (by decide)]
  refine step f1 _ 16 t1 (by simp; omega) (by decide) (fun f2 t2 w2 => ?_)
  rw [e8 16 (by decide) (by decide)]
  refine step f2 _ 8 t2 (by simp; omega) (by decide) (fun f3 t3 w3 => ?_)
  rw [e8 8 (by decide) (by decide)]
  refine step f3 _ 0 t3 (by simp; omega) (by decide) (fun f4 t4 w4 => ?_)
  refine VX12_put_3 hs ⟨fun _ => ⟨_, _, rfl, rfl, H f4 ?_ (fun r k a b => (w4 r k a b).trans ((w3 r k a b).trans ((w2 r k a b).trans (w1 r k a b))))⟩, fun c => absurd (by decide) c⟩
  simp only [List.append_assoc] at t4
  exact t4
theorem M_feed {a b c e i : Int32} (hs : StM sh fR B) (h : MSt f g B Z) (hz : zOK Z) : Cl l G (d + 1) 0 0 mX12_feed [.ref B, .int a, .int b, .int c, .int e, .int i] (sh, f, g, fR) (RQ B sh fR f g (feedS Z a b c e i).1 (feedS Z a b c e i).2) := by
  have hl := hz.1
  have b4 : ∀ x, (bytesS x).length = 4 := fun x => rfl
  refine VX12_feed hs ?_
  rw [h.1.1, nI_add]
  unfold feedS
  by_cases hc : 1600 < Z.1.length + 20
  · rw [if_pos hc]
    exact ⟨fun z => absurd z (nI_ge hc (by omega)), fun _ => .ref h (by decide)⟩
  · rw [if_neg hc]
    refine ⟨fun _ => ?_, fun z => absurd (nI_le (by omega) (by omega)) z⟩
    refine C_put hs h.1 (by omega) (fun f1 t1 w1 => ?_)
    refine C_put hs t1 (by simp only [List.length_append, b4]; omega) (fun f2 t2 w2 => ?_)
    refine C_put hs t2 (by simp only [List.length_append, b4]; omega) (fun f3 t3 w3 => ?_)
    refine C_put hs t3 (by simp only [List.length_append, b4]; omega) (fun f4 t4 w4 => ?_)
    refine C_put hs t4 (by simp only [List.length_append, b4]; omega) (fun f5 t5 w5 => ?_)
    have w : TpW B f f5 := fun r k a b => (w5 r k a b).trans ((w4 r k a b).trans ((w3 r k a b).trans ((w2 r k a b).trans (w1 r k a b))))
    obtain ⟨x1, x2, x3, x4⟩ := h
    refine ⟨_, _, ?_, rfl, ⟨t5, fun i hi => by rw [w _ _ (by omega) (by omega)]; exact x2 i hi, x3, x4.keep (fun r k z => w _ _ (by unfold kpM at z; omega) (by unfold kpM at z; omega)) (fun _ => rfl)⟩, fun r k z => w _ _ (by omega) (by omega)⟩
    rw [t5.1]
    simp only [List.length_append, b4]
theorem D_isPathM {K : Int32 → FI → FL → Prop} {a : Int32} (hs : StM sh fR B) (h : MSt f g B Z) (hz : zOK Z) (H1 : ∀ q p, Z.2.2.2.2 = some q → p < q.1.1 6 → p < 4 → a = nI p → K (nI 1) f g) (H0 : (∀ q, Z.2.2.2.2 = some q → ixS a (q.1.1 6) = none) → K (nI 0) f g) : Cl l G d 0 0 mX12_isPath [.ref B, .int a] (sh, f, g, fR) (qi sh fR K) := by
  obtain ⟨b, m, hb, h13, -, h6, -, -, -, -, -, h4, -⟩ := h.q hz
  refine VX12_isPath hs ?_
  rw [h13, clN (by omega), h6]
  have eq : ∀ q, Z.2.2.2.2 = some q → qZ Z = q := fun q hq => by unfold qZ; rw [hq]; rfl
  rcases pk_ix a (n := (qZ Z).1.1 6) (by omega) with z | z | ⟨j, hj, e⟩
  · exact ⟨fun _ => ⟨_, _, _, rfl, rfl, H0 (fun q _ => ixS_lo z)⟩, fun c => absurd z c⟩
  · have z2 : K (nI 0) f g := H0 (fun q hq => by rw [← eq q hq]; exact ixS_hi z)
    exact ⟨fun _ => ⟨_, _, _, rfl, rfl, z2⟩, fun _ => ⟨inbN hb (by decide), fun _ => ⟨_, _, _, rfl, rfl, z2⟩, fun c => absurd z c⟩⟩
  · cases hq : Z.2.2.2.2 with
    | none =>
      have : (qZ Z).1.1 6 = 0 := by unfold qZ; rw [hq]; rfl
      omega
    | some q =>
      have e2 := eq q hq
      refine ⟨fun c => ?_, fun _ => ⟨inbN hb (by decide), fun c => ?_, fun _ => ⟨_, _, _, rfl, rfl, H1 q j hq (by rw [← e2]; exact hj) (by omega) e⟩⟩⟩
      · rw [e] at c; exact absurd c (nI_pos (by omega))
      · rw [e] at c; exact absurd c (nI_ge hj (by omega))
theorem MSt.td {q : Td} (h : MSt f g B Z) (hq : Z.2.2.2.2 = some q) : ∃ b, b < 2 ∧ f B 13 = nI b ∧ MTd f g B b q := by
  obtain ⟨-, -, -, -, -, -, -, b, hb, h13, ht⟩ := h
  rw [hq] at ht
  exact ⟨b, hb, h13, ht⟩
theorem M_letter {a b : Int32} (hs : StM sh fR B) (h : MSt f g B Z) (hz : zOK Z) : Cl l G (d + 1) 0 0 mX12_letter [.ref B, .int a, .int b] (sh, f, g, fR) (RQ B sh fR f g Z (letterS Z a b)) := by
  refine VX12_letter hs ?_
  refine D_isPathM hs h hz (fun q p ht hp6 hp4 e => ⟨fun c => absurd c (by decide), fun _ => ?_⟩) (fun hno => ⟨fun _ => .is h ?_, fun c => absurd rfl c⟩)
  · subst e
    obtain ⟨b', hb', h13, t⟩ := h.td ht
    have hq := hz.2.2.2.2 q ht
    obtain ⟨n1, n2, n3⟩ := hq.2.1 p hp6
    have h6 := hq.1.2.2.2.2.2.1
    unfold letterS
    rw [ht]
    dsimp only
    rw [ixS_in hp6 (by omega)]
    refine D_is (n := 6) hs (by decide) (by decide) (fun k hk ek => ⟨fun _ => ?_, fun c => absurd c (by decide)⟩) (fun z => ⟨fun c => absurd rfl c, fun _ => .is h (by rw [z])⟩)
    subst ek
    rw [ixS_in hk (by decide), h13]
    simp (disch := omega) only [pk_mul, nI_add, clN]
    refine ⟨inbN (by omega) (by decide), fun z10 hz10 => ?_⟩
    rw [t.2.1 p hp6] at hz10
    subst hz10
    generalize q.1.2.1 p = l0 at *
    have hb26 : ∀ r, ∀ c ∈ l0.take r, c ≤ 26 := fun r c hc => (n3 c (List.mem_of_mem_take hc)).2
    have lt : ∀ r, r ≤ l0.length → packM (l0.take r) < 2 ^ 48 := fun r hr => Nat.lt_of_lt_of_le (packM_lt r _ (by rw [List.length_take]; omega) (hb26 r)) (Nat.le_trans (Nat.pow_le_pow_right (by decide) (show r ≤ 6 by omega)) (by decide))
    have lt0 : packM l0 < 2 ^ 48 := by have := lt l0.length (Nat.le_refl _); rw [List.take_length] at this; exact this
    have loop : ∀ r, r ≤ l0.length → LpX12_letter_39 l G d (RQ B sh fR f g Z (nI (l0.getD k 0))) sh fR B f g (nI k) (lN (packM l0)) (nI (l0.length - r)) (lN (packM (l0.take r))) := by
      intro r
      induction r with
      | zero =>
        intro _
        refine VX12_letter_39 hs ?_
        refine ⟨fun _ => ⟨fun c => ?_, fun c => ?_⟩, fun c => absurd ((pk_lLE (a := packM []) (b := 0) (by decide) (by decide)).mpr (by decide)) c⟩
        · have hkl : k < l0.length := by
            rcases Nat.lt_or_ge k l0.length with z | z
            · exact z
            · exact absurd (nI_le (show l0.length - 0 ≤ k by omega) (by omega)) (Int32.not_le.mpr c)
          rw [Nat.sub_zero, pk_sub (by omega), pk_sub (by omega), pk_mul]
          have hP := packM_at l0.length l0 (l0.length - 1 - k) rfl (fun c hc => (n3 c hc).2) (by omega)
          rw [show l0.length - 1 - (l0.length - 1 - k) = k by omega] at hP
          have hj : l0.length - 1 - k < 6 := by omega
          generalize l0.length - 1 - k = j at *
          rw [pk_lshrN (by omega) _ (8 * j) (by rcases (show j = 0 ∨ j = 1 ∨ j = 2 ∨ j = 3 ∨ j = 4 ∨ j = 5 by omega) with rfl | rfl | rfl | rfl | rfl | rfl <;> decide), pk_landN (Nat.lt_of_le_of_lt (Nat.div_le_self _ _) (by omega)) 8 (by decide), lN_i]
          rw [show (256 : Nat) = 2 ^ 8 from rfl, ← Nat.pow_mul] at hP
          rw [hP]
          have h1 : 1 ≤ l0.getD k 0 := by
            rw [List.getD_eq_getElem?_getD, List.getElem?_eq_getElem hkl]
            exact (n3 _ (List.getElem_mem _)).1
          rw [pk_sub (by omega), nI_add, show l0.getD k 0 + 96 - 97 + 1 = l0.getD k 0 by omega]
          exact .rf h
        · have hkl : ¬ k < l0.length := fun z => c (nI_lt (show k < l0.length - 0 by omega) (by omega))
          refine .is h ?_
          rw [List.getD_eq_getElem?_getD, List.getElem?_eq_none (by omega)]
          rfl
      | succ r ih =>
        intro hr
        have e : l0.take (r + 1) = l0.take r ++ [l0[r]] := by rw [List.take_succ, List.getElem?_eq_getElem (by omega)]; rfl
        have hp := lt (r + 1) hr
        have hp' := lt r (by omega)
        have ep : packM (l0.take (r + 1)) = packM (l0.take r) * 256 + (l0[r] + 96) := by rw [e, packM_snoc]
        have h26 := (n3 l0[r] (List.getElem_mem _)).2
        refine VX12_letter_39 hs ?_
        refine ⟨fun c => ?_, fun _ z14 hz14 => ?_⟩
        · have := (pk_lLE (by omega) (by decide)).mp c
          omega
        · have := ih (by omega)
          rw [show l0.length - r = l0.length - (r + 1) + 1 by omega] at this
          rw [hz14, pk_lshrN (by omega) _ 8 (by decide), ep, show (packM (l0.take r) * 256 + (l0[r] + 96)) / 2 ^ 8 = packM (l0.take r) by omega, nI_add]
          exact this
    have := loop l0.length (Nat.le_refl _)
    rw [Nat.sub_self, List.take_length] at this
    exact this
  · unfold letterS
    cases ht : Z.2.2.2.2 with
    | none => rfl
    | some q => dsimp only; rw [hno q ht]
end MA
