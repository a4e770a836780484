/-! a stream begins: both sides -/
def beginW (π : Pl) : Wd := (fun i => if i = 3 then π.1 3 else 0, fun p i => if p = 0 ∧ 0 < π.1 6 then (if i = 0 then 1 else if i = 2 then 2000 else 0) else 0, [], [], [], fun _ => false, [])
/-- what holds of a world at rest -/
def gW (π : Pl) (w : Wd) : Prop := w.1 0 ≤ 999 ∧ WI π (400 * w.1 0) (w.1 0) (fun _ => w.1 0) (w.1 0) w ∧ WS w.2.2.1
theorem begin_gW {π : Pl} (hπ : πOK π) : gW π (beginW π) := by
  have hw := hπ.2.2.1
  refine ⟨Nat.zero_le _, ⟨⟨Nat.zero_le _, Nat.zero_le _, Nat.zero_le _, ?_, Nat.zero_le _⟩, fun p => ?_, fun s hs => (by cases hs), fun p => Nat.zero_le _, List.Pairwise.nil, fun a ha => (by cases ha), fun p => ⟨List.nodup_nil, fun _ s0 => Nat.zero_le _, fun _ => Nat.zero_le _⟩, fun s0 => Nat.zero_le _⟩, List.Pairwise.nil⟩
  · show π.1 3 ≤ 400
    omega
  · have e : ∀ i, (beginW π).2.1 p i = if p = 0 ∧ 0 < π.1 6 then (if i = 0 then 1 else if i = 2 then 2000 else 0) else 0 := fun i => rfl
    unfold pB
    rw [e 0, e 1, e 2, e 3, e 4, e 5]
    by_cases hz : p = 0 ∧ 0 < π.1 6
    · simp only [if_pos hz]
      refine ⟨by decide, by decide, by decide, by decide, fun _ => by decide, Nat.zero_le _, by decide, fun _ => by decide, fun i hi => ?_⟩
      rw [e i, if_pos hz, if_neg (by omega), if_neg (by omega)]
    · simp only [if_neg hz]
      refine ⟨by decide, by decide, by decide, by decide, fun _ => by decide, Nat.zero_le _, by decide, fun z => (by cases z), fun i hi => ?_⟩
      rw [e i, if_neg hz]
theorem begin_PI {π : Pl} : PI π (beginW π) [] := ⟨fun q hq => (by cases hq), rfl, Nat.zero_le _⟩
theorem begin_taken {π : Pl} : takenS π (beginW π) = 0 := by
  unfold takenS
  have : ∀ n, forN n (fun b k => if (beginW π).2.2.2.2.2.1 b then k + 1 else k) 0 = 0 := by
    intro n
    induction n with
    | zero => rfl
    | succ n ih => exact ih
  exact this _
section BG
variable {l : Launch} {G : Gx} {d : Nat} {sh : Sh} {fR : FRt} {x u B b : Nat} {f : FI} {g : FL} {π : Pl} {dl : Nat → Nat}
theorem D_beginR {K : FI → FL → Prop} (hs : StW sh fR x) (hU : StPl sh fR u) (hux : u + 17 ≤ x) (H : ∀ f' : FI, (∀ k, k < 200 → f' (x + 3) k = nI 0) → (∀ k, k < 4 → f' (x + 4) k = nI 0) → f' (x + 2) 2 = f u 1 → f' (x + 2) 3 = f u 3 → f' (x + 2) 4 = nI 0 → f' (x + 2) 5 = nI 0 → (∀ r k, ¬ (x + 2 ≤ r ∧ r ≤ x + 4) → f' r k = f r k) → K f' g) : Cl l G d 0 0 mX7_begin [.ref (x + 2), .ref u] (sh, f, g, fR) (qv sh fR K) := by
  have loop2 : ∀ n k (f0 : FI), n + k = 4 → (∀ k, k < 200 → f0 (x + 3) k = nI 0) → (∀ i, i < k → f0 (x + 4) i = nI 0) → (∀ r k, ¬ (x + 2 ≤ r ∧ r ≤ x + 4) → f0 r k = f r k) → LpX7_begin_24 l G d (qv sh fR K) sh fR x u f0 g (nI k) := by
    intro n
    induction n with
    | zero =>
      intro k f0 hk e1 e2 e3
      refine VX7_begin_24 hs hU ?_
      refine ⟨fun _ => ⟨_, _, rfl, rfl, H _ (fun i hi => ?_) (fun i hi => ?_) ?_ ?_ ?_ ?_ (fun r i hr => ?_)⟩, fun z => absurd (nI_le (by omega) (by omega)) z⟩
      · rw [up2_r (by omega), up2_r (by omega), up2_r (by omega), up2_r (by omega)]; exact e1 i hi
      · rw [up2_r (by omega), up2_r (by omega), up2_r (by omega), up2_r (by omega)]; exact e2 i (by omega)
      · rw [up2_k (by decide), up2_k (by decide), up2_k (by decide), up2_eq]; exact e3 _ _ (by omega)
      · rw [up2_k (by decide), up2_k (by decide), up2_eq]; exact e3 _ _ (by omega)
      · rw [up2_k (by decide), up2_eq]
      · rw [up2_eq]
      · rw [up2_r (by omega), up2_r (by omega), up2_r (by omega), up2_r (by omega)]; exact e3 r i hr
    | succ n ih =>
      intro k f0 hk e1 e2 e3
      refine VX7_begin_24 hs hU ?_
      rw [clN (by omega), nI_add]
      refine ⟨fun z => absurd z (nI_ge (by omega) (by decide)), fun _ => ⟨inbN (by omega) (by decide), ih (k + 1) _ (by omega) (fun i hi => ?_) (fun i hi => ?_) (fun r i hr => ?_)⟩⟩
      · rw [up2_r (by omega)]; exact e1 i hi
      · by_cases ei : i = k
        · subst ei; exact up2_eq
        · rw [up2_k ei]; exact e2 i (by omega)
      · rw [up2_r (by omega)]; exact e3 r i hr
  have loop1 : ∀ n k (f0 : FI), n + k = 200 → (∀ i, i < k → f0 (x + 3) i = nI 0) → (∀ r k, ¬ (x + 2 ≤ r ∧ r ≤ x + 4) → f0 r k = f r k) → LpX7_begin_2 l G d (qv sh fR K) sh fR x u f0 g (nI k) := by
    intro n
    induction n with
    | zero =>
      intro k f0 hk e1 e3
      refine VX7_begin_2 hs hU ?_
      refine ⟨fun _ => loop2 4 0 f0 rfl (fun i hi => e1 i (by omega)) (fun i hi => by omega) e3, fun z => absurd (nI_le (by omega) (by omega)) z⟩
    | succ n ih =>
      intro k f0 hk e1 e3
      refine VX7_begin_2 hs hU ?_
      rw [clN (by omega), nI_add]
      refine ⟨fun z => absurd z (nI_ge (by omega) (by decide)), fun _ => ⟨inbN (by omega) (by decide), ih (k + 1) _ (by omega) (fun i hi => ?_) (fun r i hr => ?_)⟩⟩
      · by_cases ei : i = k
        · subst ei; exact up2_eq
        · rw [up2_k ei]; exact e1 i (by omega)
      · rw [up2_r (by omega)]; exact e3 r i hr
  refine VX7_begin hs hU ?_
  exact loop1 200 0 f rfl (fun i hi => by omega) (fun _ _ _ => rfl)
theorem D_begin {K : FI → FL → Prop} (hs : StW sh fR x) (hU : StPl sh fR u) (hux : u + 17 ≤ x) (hc : CP f u π) (hπ : πOK π) (hdl : ∀ p, p < π.1 6 → dl p = π.2.2.1 p) (H : ∀ f' : FI, CW f' x π (π.1 3) dl 0 (beginW π) [] [] → (∀ r k, (r < x ∨ x + 32 ≤ r) → f' r k = f r k) → K f' g) : Cl l G (d + 1) 0 0 mX10_begin [.ref x, .ref u] (sh, f, g, fR) (qv sh (up2 fR x 7 (some u)) K) := by
  have h4 := hπ.2.2.2.2.2.1
  have hs' : StW sh (up2 fR x 7 (some u)) x := hs.fR7 (fun j hj => by omega)
  have hU' : StPl sh (up2 fR x 7 (some u)) u := hU.fR7 (by omega)
  refine VX10_begin hs hU ?_
  have m0 : ∀ r k, r ≠ x → (up2 (up2 (up2 (up2 (up2 f x 8 (nI 0)) x 9 (nI 0)) x 10 (nI 0)) x 11 (f u 3)) x 12 (nI 0)) r k = f r k := fun r k hr => by rw [up2_r (by omega), up2_r (by omega), up2_r (by omega), up2_r (by omega), up2_r (by omega)]
  have m1 : ∀ k, 8 ≤ k → k ≤ 12 → (up2 (up2 (up2 (up2 (up2 f x 8 (nI 0)) x 9 (nI 0)) x 10 (nI 0)) x 11 (f u 3)) x 12 (nI 0)) x k = if k = 11 then f u 3 else nI 0 := fun k h8 h12 => by
    rcases (show k = 8 ∨ k = 9 ∨ k = 10 ∨ k = 11 ∨ k = 12 by omega) with rfl | rfl | rfl | rfl | rfl
    · rw [up2_k (by decide), up2_k (by decide), up2_k (by decide), up2_k (by decide), up2_eq]; rfl
    · rw [up2_k (by decide), up2_k (by decide), up2_k (by decide), up2_eq]; rfl
    · rw [up2_k (by decide), up2_k (by decide), up2_eq]; rfl
    · rw [up2_k (by decide), up2_eq]; rfl
    · rw [up2_eq]; rfl
  generalize up2 (up2 (up2 (up2 (up2 f x 8 (nI 0)) x 9 (nI 0)) x 10 (nI 0)) x 11 (f u 3)) x 12 (nI 0) = f1 at m0 m1
  refine D_beginR hs' hU' hux (fun f2 a1 a2 a3 a4 a5 a6 a7 => ?_)
  rw [m0 u 1 (by omega)] at a3
  rw [m0 u 3 (by omega)] at a4
  have loop : ∀ n k (f0 : FI), n + k = 4 → (∀ r i, ¬ (x + 28 ≤ r ∧ r ≤ x + 31) → f0 r i = (up2 (up2 (up2 (up2 (up2 f2 (x + 5) 8 (nI 0)) (x + 14) 5 (nI 0)) (x + 20) 2 (nI 0)) (x + 23) 3 (nI 0)) (x + 23) 4 (nI 0)) r i) → (∀ p i, p < k → 0 < i → i < 8 → f0 (x + 28 + p) i = nI 0) → (∀ p, p < k → f0 (x + 28 + p) 0 = f (u + 2) p) → LpX10_begin_74 l G d (qv sh (up2 fR x 7 (some u)) K) sh (up2 fR x 7 (some u)) x u f0 g (nI k) := by
    intro n
    induction n with
    | zero =>
      intro k f0 hk q1 q2 q3
      have b0 : ∀ k, 8 ≤ k → k ≤ 12 → f0 x k = if k = 11 then f u 3 else nI 0 := fun k h8 h12 => by
        rw [q1 _ _ (by omega), up2_r (by omega), up2_r (by omega), up2_r (by omega), up2_r (by omega), up2_r (by omega), a7 _ _ (by omega)]
        exact m1 k h8 h12
      have bo : ∀ r i, (r < x ∨ x + 32 ≤ r) → f0 r i = f r i := fun r i hr => by
        rw [q1 _ _ (by omega), up2_r (by omega), up2_r (by omega), up2_r (by omega), up2_r (by omega), up2_r (by omega), a7 _ _ (by omega)]
        exact m0 r i (by omega)
      have b2 : ∀ j i, j = 2 ∨ j = 3 ∨ j = 4 → f0 (x + j) i = f2 (x + j) i := fun j i hj => by
        rw [q1 _ _ (by omega), up2_r (by omega), up2_r (by omega), up2_r (by omega), up2_r (by omega), up2_r (by omega)]
      have b5 : f0 (x + 5) 8 = nI 0 := by rw [q1 _ _ (by omega), up2_r (by omega), up2_r (by omega), up2_r (by omega), up2_r (by omega), up2_eq]
      have b14 : f0 (x + 14) 5 = nI 0 := by rw [q1 _ _ (by omega), up2_r (by omega), up2_r (by omega), up2_r (by omega), up2_eq]
      have b20 : f0 (x + 20) 2 = nI 0 := by rw [q1 _ _ (by omega), up2_r (by omega), up2_r (by omega), up2_eq]
      have b23 : f0 (x + 23) 3 = nI 0 := by rw [q1 _ _ (by omega), up2_k (by decide), up2_eq]
      have b24 : f0 (x + 23) 4 = nI 0 := by rw [q1 _ _ (by omega), up2_eq]
      have fin : ∀ f9 : FI, (∀ r i, ¬ (r = x + 28 ∧ (i = 1 ∨ i = 3)) → f9 r i = f0 r i) → f9 (x + 28) 1 = nI (if 0 < π.1 6 then 1 else 0) → f9 (x + 28) 3 = nI (if 0 < π.1 6 then 2000 else 0) → K f9 g := by
        intro f9 g1 g2 g3
        refine H f9 ⟨fun i hi => ?_, fun p i hp hi => ?_, fun p hp => ?_, fun p hp hp6 => ?_, ⟨?_, Nat.zero_le _, fun k s hk => by simp [beginW] at hk⟩, ⟨?_, Nat.zero_le _, fun k q hk => by simp at hk⟩, ⟨?_, Nat.zero_le _, fun k q hk => by simp at hk⟩, ⟨fun c hc => ?_, ?_⟩, ⟨?_, Nat.zero_le _, 0, ?_, by decide, fun k q hk => by simp [beginW] at hk⟩, ⟨?_, ?_⟩⟩ (fun r i hr => by rw [g1 _ _ (by omega)]; exact bo r i hr)
        · show _ = nI (if i = 3 then π.1 3 else 0)
          unfold nset at hi
          by_cases hi6 : i < 6
          · by_cases e4 : i = 4
            · subst e4
              rw [if_neg (by decide)]
              show f9 (x + 2) 5 = _
              rw [g1 _ _ (by omega), b2 2 5 (Or.inl rfl)]
              exact a6
            · have e1 : cnr i = 0 := by unfold cnr; rw [if_neg e4, if_pos (by omega)]
              have e2 : 8 ≤ cnk i ∧ cnk i ≤ 12 ∧ (cnk i = 11 ↔ i = 3) := by unfold cnk; rw [if_neg e4]; split <;> (try split) <;> omega
              rw [e1, Nat.add_zero, g1 _ _ (by omega), b0 (cnk i) e2.1 e2.2.1]
              by_cases e3 : i = 3
              · rw [if_pos e3, if_pos (e2.2.2.mpr e3)]
                exact hc.1 3 (by decide)
              · rw [if_neg e3, if_neg (fun z => e3 (e2.2.2.mp z))]
          · rw [if_neg (by omega), show cnr i = 4 by unfold cnr; rw [if_neg (by omega), if_neg (by omega)], show cnk i = i - 10 by unfold cnk; rw [if_neg (by omega), if_neg (by omega), if_neg (by omega)], g1 _ _ (by omega), b2 4 _ (Or.inr (Or.inr rfl))]
            exact a2 _ (by omega)
        · show _ = nI (if p = 0 ∧ 0 < π.1 6 then (if i = 0 then 1 else if i = 2 then 2000 else 0) else 0)
          by_cases ep : p = 0
          · subst ep
            by_cases e0 : i = 0
            · subst e0
              show f9 (x + 28) 1 = _
              rw [g2]
              by_cases h6 : 0 < π.1 6 <;> simp [h6]
            · by_cases e2 : i = 2
              · subst e2
                show f9 (x + 28) 3 = _
                rw [g3]
                by_cases h6 : 0 < π.1 6 <;> simp [h6]
              · have : f9 (x + 28 + 0) (qk i) = nI 0 := by
                  rw [g1 _ _ (by unfold qk; split <;> omega), q2 0 _ (by omega) (by unfold qk; split <;> omega) (by unfold qk; split <;> omega)]
                rw [this]
                by_cases h6 : 0 < π.1 6 <;> simp [h6, e0, e2]
          · rw [if_neg (fun z => ep z.1), g1 _ _ (by omega)]
            exact q2 p _ (by omega) (by unfold qk; split <;> omega) (by unfold qk; split <;> omega)
        · show _ = nI 0
          rw [g1 _ _ (by omega)]
          exact q2 p 5 (by omega) (by decide) (by decide)
        · rw [g1 _ _ (by omega), q3 p (by omega), hdl p hp6]
          exact hc.2.1 p hp6
        · rw [g1 _ _ (by omega)]; exact b5
        · rw [g1 _ _ (by omega)]; exact b20
        · rw [g1 _ _ (by omega)]; exact b14
        · rw [g1 _ _ (by omega), b2 3 c (Or.inr (Or.inl rfl))]; exact a1 c hc
        · rw [g1 _ _ (by omega), b2 2 4 (Or.inl rfl), begin_taken]; exact a5
        · rw [g1 _ _ (by omega)]; exact b23
        · rw [g1 _ _ (by omega)]; exact b24
        · rw [g1 _ _ (by omega), b2 2 2 (Or.inl rfl), a3]; exact hc.1 1 (by decide)
        · rw [g1 _ _ (by omega), b2 2 3 (Or.inl rfl), a4]; exact hc.1 3 (by decide)
      have hu6 : f0 u 6 = nI (π.1 6) := by rw [bo _ _ (by omega)]; exact hc.1 6 (by decide)
      refine VX10_begin_74 hs' hU' ?_
      rw [hu6]
      refine ⟨fun _ => ⟨fun z => ⟨_, _, rfl, rfl, fin f0 (fun _ _ _ => rfl) ?_ ?_⟩, fun z => ⟨x + 28, rW_1_0 hs', sW_28 hs', by omega, _, _, rfl, rfl, fin _ (fun r i hr => ?_) ?_ ?_⟩⟩, fun z => absurd (nI_le (by omega) (by omega)) z⟩
      · have z0 : ¬ 0 < π.1 6 := fun y => nI_nle y (by omega) z
        rw [if_neg z0]
        exact q2 0 1 (by omega) (by decide) (by decide)
      · have z0 : ¬ 0 < π.1 6 := fun y => nI_nle y (by omega) z
        rw [if_neg z0]
        exact q2 0 3 (by omega) (by decide) (by decide)
      · rw [up2_ne (by omega), up2_ne (by omega)]
      · have z0 : 0 < π.1 6 := Nat.pos_of_ne_zero (fun y => z (by rw [y]; decide))
        rw [if_pos z0, up2_k (by decide), up2_eq]
      · have z0 : 0 < π.1 6 := Nat.pos_of_ne_zero (fun y => z (by rw [y]; decide))
        rw [if_pos z0, up2_eq]
    | succ n ih =>
      intro k f0 hk q1 q2 q3
      obtain ⟨t1, t2, t3⟩ := rt_ok hs' (show k < 4 by omega)
      refine VX10_begin_74 hs' hU' ?_
      rw [clN (by omega), nI_add]
      refine ⟨fun z => absurd z (nI_ge (by omega) (by decide)), fun _ => ⟨inbN (by omega) (by decide), x + 28 + k, t1, t2, t3, inbN (by omega) (by decide), ih (k + 1) _ (by omega) (fun r i hr => ?_) (fun p i hp h0 hi => ?_) (fun p hp => ?_)⟩⟩
      · rw [up2_r (by omega), up2_r (by omega), up2_r (by omega), up2_r (by omega), up2_r (by omega), up2_r (by omega), up2_r (by omega), up2_r (by omega)]
        exact q1 r i hr
      · by_cases ep : p = k
        · subst ep
          rcases (show i = 1 ∨ i = 2 ∨ i = 3 ∨ i = 4 ∨ i = 5 ∨ i = 6 ∨ i = 7 by omega) with rfl | rfl | rfl | rfl | rfl | rfl | rfl
          · rw [up2_k (by decide), up2_k (by decide), up2_k (by decide), up2_k (by decide), up2_k (by decide), up2_k (by decide), up2_eq]
          · rw [up2_k (by decide), up2_k (by decide), up2_k (by decide), up2_k (by decide), up2_k (by decide), up2_eq]
          · rw [up2_k (by decide), up2_k (by decide), up2_k (by decide), up2_k (by decide), up2_eq]
          · rw [up2_k (by decide), up2_k (by decide), up2_k (by decide), up2_eq]
          · rw [up2_k (by decide), up2_k (by decide), up2_eq]
          · rw [up2_k (by decide), up2_eq]
          · rw [up2_eq]
        · rw [up2_r (by omega), up2_r (by omega), up2_r (by omega), up2_r (by omega), up2_r (by omega), up2_r (by omega), up2_r (by omega), up2_r (by omega)]
          exact q2 p i (by omega) h0 hi
      · by_cases ep : p = k
        · subst ep
          rw [up2_k (by decide), up2_k (by decide), up2_k (by decide), up2_k (by decide), up2_k (by decide), up2_k (by decide), up2_k (by decide), up2_eq, q1 _ _ (by omega), up2_r (by omega), up2_r (by omega), up2_r (by omega), up2_r (by omega), up2_r (by omega), a7 _ _ (by omega)]
          exact m0 _ _ (by omega)
        · rw [up2_r (by omega), up2_r (by omega), up2_r (by omega), up2_r (by omega), up2_r (by omega), up2_r (by omega), up2_r (by omega), up2_r (by omega)]
          exact q3 p (by omega)
  exact loop 4 0 _ rfl (fun _ _ _ => rfl) (fun p i hp => by omega) (fun p hp => by omega)
theorem C_begin {K : FI → FL → Prop} (hs : StM sh fR B) (h13 : f B 13 = nI b) (hb : b < 2) (h3 : f (B + 4) b = nI (π.1 3)) (h6 : f (B + 6) b = nI (π.1 6)) (h64 : π.1 6 ≤ 4) (H : ∀ f' : FI, RM f' B 0 (beginW π) [] → f' B 52 = nI (π.1 3) → (∀ p, p < 4 → f' (B + 29) p = f (B + 7) (4 * b + p)) → f' B 50 = nI 0 → f' B 64 = nI 0 → (∀ r k, ¬ (r = B + 23 ∧ k < 40) → ¬ (r = B + 27 ∧ k < 200) → r ≠ B + 29 → ¬ (r = B ∧ (k = 50 ∨ k = 52 ∨ k = 64)) → f' r k = f r k) → K f' g) : Cl l G (d + 2) 0 0 mX12_begin [.ref B] (sh, f, g, fR) (qv sh fR K) := by
  have loop3 : ∀ n p (f0 : FI), n + p = 4 → (∀ i, i < 40 → f0 (B + 23) i = nI (if i = 3 then π.1 3 else 0)) → (∀ i, i < 200 → f0 (B + 27) i = nI 0) → f0 B 52 = nI (π.1 3) → (∀ q, q < p → f0 (B + 29) q = f (B + 7) (4 * b + q)) → (∀ r k, ¬ (r = B + 23 ∧ k < 40) → ¬ (r = B + 27 ∧ k < 200) → r ≠ B + 29 → ¬ (r = B ∧ (k = 50 ∨ k = 52 ∨ k = 64)) → f0 r k = f r k) → LpX12_begin_73 l G d (qv sh fR K) sh fR B f0 g (nI p) := by
    intro n
    induction n with
    | zero =>
      intro p f0 hp e1 e2 e3 e4 e5
      have fin : ∀ f9 : FI, (∀ i, i < 40 → i ≠ 14 → i ≠ 16 → f9 (B + 23) i = f0 (B + 23) i) → f9 (B + 23) 14 = nI (if 0 < π.1 6 then 1 else 0) → f9 (B + 23) 16 = nI (if 0 < π.1 6 then 2000 else 0) → (∀ r k, ¬ (r = B + 23 ∧ k < 40) → f9 r k = f0 r k) → K (up2 (up2 f9 B 50 (nI 0)) B 64 (nI 0)) g := by
        intro f9 g1 g2 g3 g4
        refine H _ ⟨fun i hi => ?_, fun q i hq hi => ?_, ⟨?_, Nat.zero_le _, fun k s hk => by simp [beginW] at hk⟩, ⟨?_, Nat.zero_le _, fun k s hk => by simp at hk⟩, ⟨?_, Nat.zero_le _, fun k s hk => by simp [beginW] at hk⟩, fun c hc => ?_, ⟨?_, Nat.zero_le _, fun k s hk => by simp [beginW] at hk⟩⟩ ?_ (fun q hq => ?_) ?_ ?_ (fun r k z1 z2 z3 z4 => ?_)
        · show _ = nI (if i = 3 then π.1 3 else 0)
          unfold nset at hi
          rw [up2_r (by omega), up2_r (by omega), Nat.mul_zero, Nat.zero_add, g1 i (by omega) (by omega) (by omega)]
          exact e1 i (by omega)
        · show _ = nI (if q = 0 ∧ 0 < π.1 6 then (if i = 0 then 1 else if i = 2 then 2000 else 0) else 0)
          rw [up2_r (by omega), up2_r (by omega), Nat.mul_zero, Nat.zero_add]
          by_cases e14 : 14 + 6 * q + i = 14
          · rw [e14, g2, show q = 0 by omega, show i = 0 by omega]
            by_cases h6 : 0 < π.1 6 <;> simp [h6]
          · by_cases e16 : 14 + 6 * q + i = 16
            · rw [e16, g3, show q = 0 by omega, show i = 2 by omega]
              by_cases h6 : 0 < π.1 6 <;> simp [h6]
            · rw [g1 _ (by omega) e14 e16, e1 _ (by omega), if_neg (by omega)]
              by_cases hq0 : q = 0 ∧ 0 < π.1 6
              · rw [if_pos hq0, if_neg (by omega), if_neg (by omega)]
              · rw [if_neg hq0]
        · rw [up2_r (by omega), up2_r (by omega), Nat.mul_zero, Nat.zero_add, g1 6 (by decide) (by decide) (by decide)]; exact e1 6 (by decide)
        · rw [up2_r (by omega), up2_r (by omega), Nat.mul_zero, Nat.zero_add, g1 7 (by decide) (by decide) (by decide)]; exact e1 7 (by decide)
        · rw [up2_r (by omega), up2_r (by omega), Nat.mul_zero, Nat.zero_add, g1 8 (by decide) (by decide) (by decide)]; exact e1 8 (by decide)
        · rw [up2_r (by omega), up2_r (by omega), Nat.mul_zero, Nat.zero_add, g4 _ _ (by omega)]; exact e2 c hc
        · rw [up2_r (by omega), up2_r (by omega), Nat.mul_zero, Nat.zero_add, g1 9 (by decide) (by decide) (by decide)]; exact e1 9 (by decide)
        · rw [up2_k (by decide), up2_k (by decide), g4 _ _ (by omega)]; exact e3
        · rw [up2_r (by omega), up2_r (by omega), g4 _ _ (by omega)]; exact e4 q (by omega)
        · rw [up2_k (by decide), up2_eq]
        · rw [up2_eq]
        · rw [up2_ne (by omega), up2_ne (by omega), g4 _ _ z1]; exact e5 r k z1 z2 z3 z4
      have b13 : f0 B 13 = nI b := by rw [e5 _ _ (by omega) (by omega) (by omega) (by omega)]; exact h13
      have b6 : f0 (B + 6) b = nI (π.1 6) := by rw [e5 _ _ (by omega) (by omega) (by omega) (by omega)]; exact h6
      refine VX12_begin_73 hs ?_
      rw [b13]
      simp (disch := omega) only [pk_mul, nI_add, clN]
      rw [b6]
      refine ⟨fun _ => ⟨inbN hb (by decide), fun z => ⟨_, _, rfl, rfl, fin f0 (fun _ _ _ _ => rfl) ?_ ?_ (fun _ _ _ => rfl)⟩, fun z => ⟨inbN (by decide) (by decide), inbN (by decide) (by decide), _, _, rfl, rfl, fin _ (fun i hi h14 h16 => ?_) ?_ ?_ (fun r k hr => ?_)⟩⟩, fun z => absurd (nI_le (by omega) (by omega)) z⟩
      · have z0 : ¬ 0 < π.1 6 := fun y => nI_nle y (by omega) z
        rw [if_neg z0, e1 14 (by decide)]; rfl
      · have z0 : ¬ 0 < π.1 6 := fun y => nI_nle y (by omega) z
        rw [if_neg z0, e1 16 (by decide)]; rfl
      · rw [up2_k (by omega), up2_k (by omega)]
      · have z0 : 0 < π.1 6 := Nat.pos_of_ne_zero (fun y => z (by rw [y]; decide))
        rw [if_pos z0, up2_k (by decide)]
        exact up2_eq
      · have z0 : 0 < π.1 6 := Nat.pos_of_ne_zero (fun y => z (by rw [y]; decide))
        rw [if_pos z0]
        exact up2_eq
      · rw [up2_ne (by omega), up2_ne (by omega)]
    | succ n ih =>
      intro p f0 hp e1 e2 e3 e4 e5
      have b13 : f0 B 13 = nI b := by rw [e5 _ _ (by omega) (by omega) (by omega) (by omega)]; exact h13
      refine VX12_begin_73 hs ?_
      rw [b13]
      simp (disch := omega) only [pk_mul, nI_add, clN]
      refine ⟨fun z => absurd z (nI_ge (by omega) (by decide)), fun _ => ⟨inbN (by omega) (by decide), inbN (by omega) (by decide), ih (p + 1) _ (by omega) (fun i hi => ?_) (fun i hi => ?_) ?_ (fun q hq => ?_) (fun r k z1 z2 z3 z4 => ?_)⟩⟩
      · rw [up2_r (by omega)]; exact e1 i hi
      · rw [up2_r (by omega)]; exact e2 i hi
      · rw [up2_r (by omega)]; exact e3
      · by_cases eq : q = p
        · subst eq
          rw [up2_eq, e5 _ _ (by omega) (by omega) (by omega) (by omega)]
        · rw [up2_k eq]; exact e4 q (by omega)
      · rw [up2_r z3]; exact e5 r k z1 z2 z3 z4
  have loop2 : ∀ n k (f0 : FI), n + k = 200 → (∀ i, i < 40 → f0 (B + 23) i = nI 0) → (∀ i, i < k → f0 (B + 27) i = nI 0) → (∀ r k, ¬ (r = B + 23 ∧ k < 40) → ¬ (r = B + 27 ∧ k < 200) → f0 r k = f r k) → LpX12_begin_23 l G d (qv sh fR K) sh fR B f0 g (nI k) := by
    intro n
    induction n with
    | zero =>
      intro k f0 hk e1 e2 e5
      have b13 : f0 B 13 = nI b := by rw [e5 _ _ (by omega) (by omega)]; exact h13
      have b4 : f0 (B + 4) b = nI (π.1 3) := by rw [e5 _ _ (by omega) (by omega)]; exact h3
      refine VX12_begin_23 hs ?_
      rw [b13]
      simp (disch := omega) only [pk_mul, nI_add, clN]
      rw [b4]
      refine ⟨fun _ => ⟨inbN hb (by decide), inbN (by decide) (by decide), inbN hb (by decide), loop3 4 0 _ rfl (fun i hi => ?_) (fun i hi => ?_) ?_ (fun q hq => by omega) (fun r k z1 z2 z3 z4 => ?_)⟩, fun z => absurd (nI_le (by omega) (by omega)) z⟩
      · rw [up2_r (by omega)]
        by_cases e3 : i = 3
        · subst e3
          rw [if_pos rfl]
          exact up2_eq
        · rw [if_neg e3, up2_k (by omega)]
          exact e1 i hi
      · rw [up2_r (by omega), up2_r (by omega)]; exact e2 i (by omega)
      · rw [up2_eq]
      · rw [up2_ne (by omega), up2_ne (by omega)]; exact e5 r k z1 z2
    | succ n ih =>
      intro k f0 hk e1 e2 e5
      refine VX12_begin_23 hs ?_
      rw [clN (by omega), nI_add]
      refine ⟨fun z => absurd z (nI_ge (by omega) (by decide)), fun _ => ⟨inbN (by omega) (by decide), ih (k + 1) _ (by omega) (fun i hi => ?_) (fun i hi => ?_) (fun r a z1 z2 => ?_)⟩⟩
      · rw [up2_r (by omega)]; exact e1 i hi
      · by_cases ei : i = k
        · subst ei; exact up2_eq
        · rw [up2_k ei]; exact e2 i (by omega)
      · rw [up2_ne (by omega)]; exact e5 r a z1 z2
  have loop1 : ∀ n k (f0 : FI), n + k = 40 → (∀ i, i < k → f0 (B + 23) i = nI 0) → (∀ r k, ¬ (r = B + 23 ∧ k < 40) → f0 r k = f r k) → LpX12_begin_2 l G d (qv sh fR K) sh fR B f0 g (nI k) := by
    intro n
    induction n with
    | zero =>
      intro k f0 hk e1 e5
      refine VX12_begin_2 hs ?_
      exact ⟨fun _ => loop2 200 0 f0 rfl (fun i hi => e1 i (by omega)) (fun i hi => by omega) (fun r k z1 _ => e5 r k z1), fun z => absurd (nI_le (by omega) (by omega)) z⟩
    | succ n ih =>
      intro k f0 hk e1 e5
      refine VX12_begin_2 hs ?_
      rw [clN (by omega), nI_add]
      refine ⟨fun z => absurd z (nI_ge (by omega) (by decide)), fun _ => ⟨inbN (by omega) (by decide), ih (k + 1) _ (by omega) (fun i hi => ?_) (fun r a z1 => ?_)⟩⟩
      · by_cases ei : i = k
        · subst ei; exact up2_eq
        · rw [up2_k ei]; exact e1 i (by omega)
      · rw [up2_ne (by omega)]; exact e5 r a z1
  refine VX12_begin hs ?_
  exact loop1 40 0 f rfl (fun i hi => by omega) (fun _ _ _ => rfl)
end BG
