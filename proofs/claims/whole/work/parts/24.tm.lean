/-! the reference's tick, method by method -/
section R2
variable {f f' : FI} {B v : Nat} {w : Wd} {m : List (Nat × Nat)}
theorem RM.repk {l' : List Kp} (h : RM f B v w m) (e : ∀ j, 23 ≤ j → j ≤ 27 → ∀ i, (j = 23 → i ≠ 40 * v + 9) → f' (B + j) i = f (B + j) i) (hk : RMk f' B v l') : RM f' B v (wkp w l') m := by
  obtain ⟨h1, h2, h3, h4, h5, h6, h7⟩ := h
  refine ⟨fun i hi => ?_, fun p i hp hi => ?_, ⟨?_, h3.2.1, fun k s hk i hi => ?_⟩, ⟨?_, h4.2.1, fun k q hk => ⟨?_, ?_⟩⟩, ⟨?_, h5.2.1, fun k a hk i hi => ?_⟩, fun b hb => ?_, hk⟩
  · rw [e 23 (by decide) (by decide) _ (fun _ => by unfold nset at hi; omega)]; exact h1 i hi
  · rw [e 23 (by decide) (by decide) _ (fun _ => by omega)]; exact h2 p i hp hi
  · rw [e 23 (by decide) (by decide) _ (fun _ => by omega)]; exact h3.1
  · rw [e 24 (by decide) (by decide) _ (fun z => by cases z)]; exact h3.2.2 k s hk i hi
  · rw [e 23 (by decide) (by decide) _ (fun _ => by omega)]; exact h4.1
  · rw [e 25 (by decide) (by decide) _ (fun z => by cases z)]; exact (h4.2.2 k q hk).1
  · rw [e 25 (by decide) (by decide) _ (fun z => by cases z)]; exact (h4.2.2 k q hk).2
  · rw [e 23 (by decide) (by decide) _ (fun _ => by omega)]; exact h5.1
  · rw [e 26 (by decide) (by decide) _ (fun z => by cases z)]; exact h5.2.2 k a hk i hi
  · rw [e 27 (by decide) (by decide) _ (fun z => by cases z)]; exact h6 b hb
theorem RM.repp {m' : List (Nat × Nat)} (h : RM f B v w m) (e : ∀ j, 23 ≤ j → j ≤ 28 → j ≠ 25 → ∀ i, (j = 23 → i ≠ 40 * v + 7) → f' (B + j) i = f (B + j) i) (hp : RMp f' B v m') : RM f' B v w m' := by
  obtain ⟨h1, h2, h3, h4, h5, h6, h7⟩ := h
  refine ⟨fun i hi => ?_, fun p i hp hi => ?_, ⟨?_, h3.2.1, fun k s hk i hi => ?_⟩, hp, ⟨?_, h5.2.1, fun k a hk i hi => ?_⟩, fun b hb => ?_, ⟨?_, h7.2.1, fun k q hk i hi => ?_⟩⟩
  · rw [e 23 (by decide) (by decide) (by decide) _ (fun _ => by unfold nset at hi; omega)]; exact h1 i hi
  · rw [e 23 (by decide) (by decide) (by decide) _ (fun _ => by omega)]; exact h2 p i hp hi
  · rw [e 23 (by decide) (by decide) (by decide) _ (fun _ => by omega)]; exact h3.1
  · rw [e 24 (by decide) (by decide) (by decide) _ (fun z => by cases z)]; exact h3.2.2 k s hk i hi
  · rw [e 23 (by decide) (by decide) (by decide) _ (fun _ => by omega)]; exact h5.1
  · rw [e 26 (by decide) (by decide) (by decide) _ (fun z => by cases z)]; exact h5.2.2 k a hk i hi
  · rw [e 27 (by decide) (by decide) (by decide) _ (fun z => by cases z)]; exact h6 b hb
  · rw [e 23 (by decide) (by decide) (by decide) _ (fun _ => by omega)]; exact h7.1
  · rw [e 28 (by decide) (by decide) (by decide) _ (fun z => by cases z)]; exact h7.2.2 k q hk i hi
theorem RM.repa {l' : List An} (h : RM f B v w m) (e : ∀ j, 23 ≤ j → j ≤ 28 → j ≠ 26 → ∀ i, (j = 23 → i ≠ 40 * v + 8) → f' (B + j) i = f (B + j) i) (ha : RMa f' B v l') : RM f' B v (wan w l') m := by
  obtain ⟨h1, h2, h3, h4, h5, h6, h7⟩ := h
  refine ⟨fun i hi => ?_, fun p i hp hi => ?_, ⟨?_, h3.2.1, fun k s hk i hi => ?_⟩, ⟨?_, h4.2.1, fun k q hk => ⟨?_, ?_⟩⟩, ha, fun b hb => ?_, ⟨?_, h7.2.1, fun k q hk i hi => ?_⟩⟩
  · rw [e 23 (by decide) (by decide) (by decide) _ (fun _ => by unfold nset at hi; omega)]; exact h1 i hi
  · rw [e 23 (by decide) (by decide) (by decide) _ (fun _ => by omega)]; exact h2 p i hp hi
  · rw [e 23 (by decide) (by decide) (by decide) _ (fun _ => by omega)]; exact h3.1
  · rw [e 24 (by decide) (by decide) (by decide) _ (fun z => by cases z)]; exact h3.2.2 k s hk i hi
  · rw [e 23 (by decide) (by decide) (by decide) _ (fun _ => by omega)]; exact h4.1
  · rw [e 25 (by decide) (by decide) (by decide) _ (fun z => by cases z)]; exact (h4.2.2 k q hk).1
  · rw [e 25 (by decide) (by decide) (by decide) _ (fun z => by cases z)]; exact (h4.2.2 k q hk).2
  · rw [e 27 (by decide) (by decide) (by decide) _ (fun z => by cases z)]; exact h6 b hb
  · rw [e 23 (by decide) (by decide) (by decide) _ (fun _ => by omega)]; exact h7.1
  · rw [e 28 (by decide) (by decide) (by decide) _ (fun z => by cases z)]; exact h7.2.2 k q hk i hi
theorem RM.rept {t' : Nat → Bool} (h : RM f B v w m) (e : ∀ j, 23 ≤ j → j ≤ 28 → j ≠ 27 → ∀ i, f' (B + j) i = f (B + j) i) (ht : RMt f' B v t') : RM f' B v (wtk w t') m := by
  obtain ⟨h1, h2, h3, h4, h5, h6, h7⟩ := h
  refine ⟨fun i hi => ?_, fun p i hp hi => ?_, ⟨?_, h3.2.1, fun k s hk i hi => ?_⟩, ⟨?_, h4.2.1, fun k q hk => ⟨?_, ?_⟩⟩, ⟨?_, h5.2.1, fun k a hk i hi => ?_⟩, ht, ⟨?_, h7.2.1, fun k q hk i hi => ?_⟩⟩
  · rw [e 23 (by decide) (by decide) (by decide)]; exact h1 i hi
  · rw [e 23 (by decide) (by decide) (by decide)]; exact h2 p i hp hi
  · rw [e 23 (by decide) (by decide) (by decide)]; exact h3.1
  · rw [e 24 (by decide) (by decide) (by decide)]; exact h3.2.2 k s hk i hi
  · rw [e 23 (by decide) (by decide) (by decide)]; exact h4.1
  · rw [e 25 (by decide) (by decide) (by decide)]; exact (h4.2.2 k q hk).1
  · rw [e 25 (by decide) (by decide) (by decide)]; exact (h4.2.2 k q hk).2
  · rw [e 23 (by decide) (by decide) (by decide)]; exact h5.1
  · rw [e 26 (by decide) (by decide) (by decide)]; exact h5.2.2 k a hk i hi
  · rw [e 23 (by decide) (by decide) (by decide)]; exact h7.1
  · rw [e 28 (by decide) (by decide) (by decide)]; exact h7.2.2 k q hk i hi
theorem RM.repg {l' : List Sg} (h : RM f B v w m) (e : ∀ j, 23 ≤ j → j ≤ 28 → j ≠ 24 → ∀ i, (j = 23 → i ≠ 40 * v + 6) → f' (B + j) i = f (B + j) i) (hg : RMg f' B v l') : RM f' B v (wsg w l') m := by
  obtain ⟨h1, h2, h3, h4, h5, h6, h7⟩ := h
  refine ⟨fun i hi => ?_, fun p i hp hi => ?_, hg, ⟨?_, h4.2.1, fun k q hk => ⟨?_, ?_⟩⟩, ⟨?_, h5.2.1, fun k a hk i hi => ?_⟩, fun b hb => ?_, ⟨?_, h7.2.1, fun k q hk i hi => ?_⟩⟩
  · rw [e 23 (by decide) (by decide) (by decide) _ (fun _ => by unfold nset at hi; omega)]; exact h1 i hi
  · rw [e 23 (by decide) (by decide) (by decide) _ (fun _ => by omega)]; exact h2 p i hp hi
  · rw [e 23 (by decide) (by decide) (by decide) _ (fun _ => by omega)]; exact h4.1
  · rw [e 25 (by decide) (by decide) (by decide) _ (fun z => by cases z)]; exact (h4.2.2 k q hk).1
  · rw [e 25 (by decide) (by decide) (by decide) _ (fun z => by cases z)]; exact (h4.2.2 k q hk).2
  · rw [e 23 (by decide) (by decide) (by decide) _ (fun _ => by omega)]; exact h5.1
  · rw [e 26 (by decide) (by decide) (by decide) _ (fun z => by cases z)]; exact h5.2.2 k a hk i hi
  · rw [e 27 (by decide) (by decide) (by decide) _ (fun z => by cases z)]; exact h6 b hb
  · rw [e 23 (by decide) (by decide) (by decide) _ (fun _ => by omega)]; exact h7.1
  · rw [e 28 (by decide) (by decide) (by decide) _ (fun z => by cases z)]; exact h7.2.2 k q hk i hi
end R2
theorem toNat_nI {x : Int32} {n : Nat} (h : x.toInt = n) (hn : n < 2 ^ 31) : x = nI n := Int32.toInt_inj.mp (by rw [h, nI_toInt hn])
section C2
variable {l : Launch} {G : Gx} {d : Nat} {sh : Sh} {fR : FRt} {B v b win : Nat} {f : FI} {g : FL} {w : Wd} {m : List (Nat × Nat)} {π : Pl} {dl : Nat → Nat}
theorem flyS_le {p : Nat} (hR : RM f B v w m) : flyS w p ≤ 480 := Nat.le_trans List.countP_le_length hR.2.2.1.2.1
theorem nI_r {n : Nat} (h : n ≤ 1000000) : (nI n).toInt = (n : Int) ∧ rng (n : Int) := ⟨nI_toInt (by omega), by unfold rng; omega⟩
theorem C_waitOf {K : Int32 → FI → FL → Prop} {p : Nat} (hs : StM sh fR B) (hv : v < 22) (hR : RM f B v w m) (hN : wN w) (hT : TM f B b π win dl) (hπ : πOK π) (hp : p < 4) (H : ∀ (f' : FI) (g' : FL), (∀ r k, r ≠ B + 31 → f' r k = f r k) → (∀ r k, r ≠ B + 30 → g' r k = g r k) → K (nI (waitS π dl w p)) f' g') : Cl l G (d + 3) 0 0 mX12_waitOf [.ref B, .int (nI v), .int (nI p)] (sh, f, g, fR) (qi sh fR K) := by
  have fin : ∀ (f' : FI) (g' : FL) (y : Int64) (vv : Int), y.toInt = vv → waitS π dl w p = (if vv < 1 then 1 else if vv > 99 then 99 else vv.toNat) → (∀ r k, r ≠ B + 31 → f' r k = f r k) → (∀ r k, r ≠ B + 30 → g' r k = g r k) → LpX12_waitOf_36 l G d (qi sh fR K) sh fR B f' g' y := by
    intro f' g' y vv hy hw h1 h2
    refine VX12_waitOf_36 hs ?_
    simp only [Int64.le_iff_toInt_le, hy, lN_1', show (lN 99).toInt = 99 by decide]
    refine ⟨fun c1 => ⟨fun c2 => ?_, fun c2 => ?_⟩, fun c1 => ?_⟩
    · refine ⟨_, _, _, rfl, rfl, ?_⟩
      have e : y.toInt32 = nI (waitS π dl w p) := toNat_nI (by rw [Kit.i32_of_i64 (by rw [hy]; omega) (by rw [hy]; omega), hy, hw, if_neg (by omega), if_neg (by omega)]; omega) (by rw [hw, if_neg (by omega), if_neg (by omega)]; omega)
      rw [e]
      exact H f' g' h1 h2
    · refine ⟨_, _, _, rfl, rfl, ?_⟩
      have := H f' g' h1 h2
      rw [hw, if_neg (by omega), if_pos (by omega)] at this
      exact this
    · refine ⟨_, _, _, rfl, rfl, ?_⟩
      have := H f' g' h1 h2
      rw [hw, if_pos (by omega)] at this
      exact this
  refine VX12_waitOf hs ?_
  simp (disch := omega) only [clN]
  rw [hT.2.2.1 p hp]
  have hd9 := hT.2.2.2.2 p
  refine ⟨inbN (by omega) (by decide), fun z ez => ?_⟩
  refine C_isTold hs hT.1 (by decide) ⟨fun c => ?_, fun c => ?_⟩
  · have hn : π.2.2.2.2 3 = none := by
      cases h : π.2.2.2.2 3 with
      | none => rfl
      | some o => rw [h] at c; exact absurd (show bI true = 0 from c) (by decide)
    refine fin f g z (4 * (dl p : Int) + 2) ?_ ?_ (fun _ _ _ => rfl) (fun _ _ _ => rfl)
    · rw [ez, nI_l (by omega), show lN 4 * lN (dl p) + lN 2 = lN (4 * dl p + 2) by rw [lN_mul, lN_add], lN_toInt (by omega)]
      omega
    · unfold waitS
      rw [hn]
  · obtain ⟨ops, ho⟩ : ∃ ops, π.2.2.2.2 3 = some ops := by
      cases h : π.2.2.2.2 3 with
      | none => rw [h] at c; exact absurd rfl c
      | some o => exact ⟨o, rfl⟩
    have hF : FmM f B b 3 ops := by
      have := hT.1.2.2.2.2.2.2.2.2.2.2 3 (by decide)
      rw [ho] at this
      exact this
    refine C_lays hs hv hR hN hT hp (fun f1 e1 q1 q2 q5 q6 q7 q8 => ?_)
    have hF1 : FmM f1 B b 3 ops := by
      obtain ⟨a1, a2, c0, a3, a4, a5, a6⟩ := hF
      refine ⟨by rw [e1 _ _ (by omega)]; exact a1, a2, c0, by rw [e1 _ _ (by omega)]; exact a3, by rw [e1 _ _ (by omega)]; exact a4, a5, fun j o hj => ?_⟩
      rw [e1 _ _ (by omega), e1 _ _ (by omega)]
      exact a6 j o hj
    refine C_reckons hs (by decide) hF1 (hπ.2.2.2.2.2.2.2.2.2.2.2 ops ho) (fa := faW w dl p) (fun k hk0 hk hal => ?_) (fun y g' hy _ hg => fin f1 g' y _ hy ?_ e1 hg)
    · have t0 := hN.1 0 (by decide)
      have t2 := hN.2.1 p 2
      have t3 := hN.2.1 p 3
      unfold alW at hal
      simp only [Bool.or_eq_true, beq_iff_eq] at hal
      rcases hal with ((rfl | rfl) | rfl) | rfl
      · rw [q1]; exact nI_r (by omega)
      · rw [q5]; exact nI_r (by omega)
      · rw [q6]; exact nI_r (by omega)
      · rw [q8]; exact nI_r (by omega)
    · unfold waitS
      rw [ho]
theorem RMk_add {l : List Kp} {f : FI} {q : Kp} (hv : v < 22) (h : RMk f B v l) (hl : l.length < 40) : RMk (up2 (up2 (up2 (up2 f (B + 28) (3 * (40 * v + l.length)) (nI q.1)) (B + 28) (3 * (40 * v + l.length) + 1) (nI q.2.1)) (B + 28) (3 * (40 * v + l.length) + 2) (nI q.2.2)) (B + 23) (40 * v + 9) (nI (l.length + 1))) B v (l ++ [q]) := by
  refine ⟨by rw [up2_eq, List.length_append, List.length_singleton], by rw [List.length_append, List.length_singleton]; omega, fun k z hk i hi => ?_⟩
  rw [up2_r (by omega)]
  by_cases e : k < l.length
  · rw [List.getElem?_append_left e] at hk
    rw [up2_k (by omega), up2_k (by omega), up2_k (by omega)]
    exact h.2.2 k z hk i hi
  · rw [List.getElem?_append_right (by omega)] at hk
    have e2 : k = l.length := by
      have := (List.getElem?_eq_some_iff.mp hk).1
      simp at this
      omega
    subst e2
    simp at hk
    subst hk
    rcases (show i = 0 ∨ i = 1 ∨ i = 2 by omega) with rfl | rfl | rfl
    · rw [up2_k (by omega), up2_k (by omega)]
      exact up2_eq
    · rw [up2_k (by omega)]
      exact up2_eq
    · exact up2_eq
theorem C_writesDown {K : FI → FL → Prop} {q : Kp} (hs : StM sh fR B) (hv : v < 22) (hR : RM f B v w m) (H : ∀ f' : FI, RM f' B v (keepS w q) m → Fr B v f f' → K f' g) : Cl l G (d + 1) 0 0 mX12_writesDown [.ref B, .int (nI v), .int (nI q.1), .int (nI q.2.1), .int (nI q.2.2)] (sh, f, g, fR) (qv sh fR K) := by
  have fin : ∀ (f0 : FI) (l0 : List Kp), RM f0 B v (wkp w l0) m → l0.length < 40 → Fr B v f f0 → keepS w q = wkp w (l0 ++ [q]) → LpX12_writesDown_63 l G d (qv sh fR K) sh fR B f0 g (nI v) (nI q.1) (nI q.2.1) (nI q.2.2) := by
    intro f0 l0 hR0 hl hF hk
    have hk9 : f0 (B + 23) (40 * v + 9) = nI l0.length := hR0.2.2.2.2.2.2.1
    refine VX12_writesDown_63 hs ?_
    simp (disch := omega) only [pk_mul, nI_add, clN]
    rw [hk9]
    simp (disch := omega) only [pk_mul, nI_add, clN]
    refine ⟨inbN (by omega) (by decide), fun a ea => ?_⟩
    subst ea
    simp (disch := omega) only [pk_mul, nI_add, clN]
    refine ⟨inbN (by omega) (by decide), inbN (by omega) (by decide), inbN (by omega) (by decide), inbN (by omega) (by decide), inbN (by omega) (by decide), ⟨_, _, rfl, rfl, ?_⟩⟩
    refine H _ ?_ ?_
    · rw [hk]
      refine RM.repk (w := wkp w l0) hR0 (fun j a b i hi => ?_) (RMk_add hv hR0.2.2.2.2.2.2 hl)
      by_cases ej : j = 23
      · subst ej
        rw [up2_k (hi rfl), up2_r (by omega), up2_r (by omega), up2_r (by omega)]
      · rw [up2_r (by omega), up2_r (by omega), up2_r (by omega), up2_r (by omega)]
    · exact (((hF.up (by unfold tch; omega)).up (by unfold tch; omega)).up (by unfold tch; omega)).up (by unfold tch; omega)
  have hk9 : f (B + 23) (40 * v + 9) = nI w.2.2.2.2.2.2.length := hR.2.2.2.2.2.2.1
  have hl40 := hR.2.2.2.2.2.2.2.1
  refine VX12_writesDown hs ?_
  simp (disch := omega) only [pk_mul, nI_add, clN]
  rw [hk9]
  refine ⟨inbN (by omega) (by decide), fun c => ?_, fun c => ?_⟩
  · have hne : ¬ w.2.2.2.2.2.2.length = 40 := fun z => c (by rw [z])
    refine fin f w.2.2.2.2.2.2 hR (by omega) Fr.rf ?_
    unfold keepS
    rw [if_neg hne]
  · have h40 : w.2.2.2.2.2.2.length = 40 := (nI_eq (by omega) (by decide)).mp c
    have loop : ∀ (n j : Nat) (f0 : FI), n + j = 117 → (∀ r k, ¬ (r = B + 28 ∧ 120 * v ≤ k ∧ k < 120 * v + 117) → f0 r k = f r k) → (∀ i, i < j → f0 (B + 28) (120 * v + i) = f (B + 28) (120 * v + i + 3)) → (∀ i, j ≤ i → f0 (B + 28) (120 * v + i) = f (B + 28) (120 * v + i)) → LpX12_writesDown_18 l G d (qv sh fR K) sh fR B f0 g (nI v) (nI q.1) (nI q.2.1) (nI q.2.2) (nI (120 * v + j)) := by
      intro n
      induction n with
      | zero =>
        intro j f0 hj e1 e2 e3
        refine VX12_writesDown_18 hs ?_
        simp (disch := omega) only [pk_mul, nI_add, clN]
        rw [pk_sub (by omega)]
        refine ⟨fun _ => ⟨inbN (by omega) (by decide), ?_⟩, fun z => absurd (nI_le (by omega) (by omega)) z⟩
        refine fin _ w.2.2.2.2.2.2.tail ?_ (by rw [List.length_tail]; omega) ?_ ?_
        · refine hR.repk (fun jj a b i hi => ?_) ⟨?_, by rw [List.length_tail]; omega, fun k z hk i hi => ?_⟩
          · by_cases ej : jj = 23
            · subst ej
              rw [up2_k (hi rfl)]
              exact e1 _ _ (by omega)
            · rw [up2_r (by omega)]
              exact e1 _ _ (by omega)
          · rw [up2_eq, List.length_tail, h40]
          · rw [List.getElem?_tail] at hk
            have hlt := (List.getElem?_eq_some_iff.mp hk).1
            rw [up2_r (by omega)]
            have := e2 (3 * k + i) (by omega)
            rw [show 3 * (40 * v + k) + i = 120 * v + (3 * k + i) by omega, this, show 120 * v + (3 * k + i) + 3 = 3 * (40 * v + (k + 1)) + i by omega]
            exact hR.2.2.2.2.2.2.2.2 (k + 1) z hk i hi
        · intro r k hz
          rw [up2_ne (fun z => hz (by unfold tch; omega))]
          exact e1 r k (fun z => hz (by unfold tch; omega))
        · unfold keepS
          rw [if_pos h40]
      | succ n ih =>
        intro j f0 hj e1 e2 e3
        refine VX12_writesDown_18 hs ?_
        simp (disch := omega) only [pk_mul, nI_add, clN]
        rw [pk_sub (by omega)]
        refine ⟨fun z => absurd z (nI_ge (by omega) (by omega)), fun _ => ⟨inbN (by omega) (by decide), inbN (by omega) (by decide), ?_⟩⟩
        refine ih (j + 1) _ (by omega) (fun r k hz => ?_) (fun i hi => ?_) (fun i hi => ?_)
        · rw [up2_ne (by omega)]
          exact e1 r k hz
        · by_cases ei : i = j
          · subst ei
            rw [up2_eq]
            exact e3 (i + 3) (by omega)
          · rw [up2_k (by omega)]
            exact e2 i (by omega)
        · rw [up2_k (by omega)]
          exact e3 i (by omega)
    intro a ea
    subst ea
    exact loop 117 0 f (by decide) (fun _ _ _ => rfl) (fun i hi => by omega) (fun _ _ => rfl)
end C2
