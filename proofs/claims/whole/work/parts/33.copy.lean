/-! the reference's layers: one is copied into another -/
def lyr (B v r k : Nat) : Prop := (r = B + 23 ∧ 40 * v ≤ k ∧ k < 40 * v + 40) ∨ (r = B + 24 ∧ 3840 * v ≤ k ∧ k < 3840 * v + 3840) ∨ (r = B + 25 ∧ 960 * v ≤ k ∧ k < 960 * v + 960) ∨ (r = B + 26 ∧ 2600 * v ≤ k ∧ k < 2600 * v + 2600) ∨ (r = B + 27 ∧ 200 * v ≤ k ∧ k < 200 * v + 200) ∨ (r = B + 28 ∧ 120 * v ≤ k ∧ k < 120 * v + 120)
/-- another layer is left alone -/
theorem RM.oly {f f' : FI} {B v u : Nat} {w : Wd} {m : List (Nat × Nat)} (h : RM f B v w m) (hu : u ≠ v) (e : ∀ j k, 23 ≤ j → j ≤ 28 → ¬ lyr B u (B + j) k → f' (B + j) k = f (B + j) k) : RM f' B v w m := by
  obtain ⟨h1, h2, h3, h4, h5, h6, h7⟩ := h
  have a3 := h3.2.1
  have a4 := h4.2.1
  have a5 := h5.2.1
  have a7 := h7.2.1
  have e23 : ∀ i, i < 40 → f' (B + 23) (40 * v + i) = f (B + 23) (40 * v + i) := fun i hi => e 23 _ (by decide) (by decide) (by unfold lyr; omega)
  refine ⟨fun i hi => ?_, fun p i hp hi => ?_, ⟨?_, a3, fun k s hk i hi => ?_⟩, ⟨?_, a4, fun k q hk => ⟨?_, ?_⟩⟩, ⟨?_, a5, fun k a hk i hi => ?_⟩, fun b hb => ?_, ⟨?_, a7, fun k q hk i hi => ?_⟩⟩
  · rw [e23 i (by unfold nset at hi; omega)]; exact h1 i hi
  · rw [show 40 * v + 14 + 6 * p + i = 40 * v + (14 + 6 * p + i) by omega, e23 _ (by omega), show 40 * v + (14 + 6 * p + i) = 40 * v + 14 + 6 * p + i by omega]; exact h2 p i hp hi
  · rw [e23 6 (by decide)]; exact h3.1
  · have := (List.getElem?_eq_some_iff.mp hk).1
    rw [e 24 _ (by decide) (by decide) (by unfold lyr; omega)]; exact h3.2.2 k s hk i hi
  · rw [e23 7 (by decide)]; exact h4.1
  · have := (List.getElem?_eq_some_iff.mp hk).1
    rw [e 25 _ (by decide) (by decide) (by unfold lyr; omega)]; exact (h4.2.2 k q hk).1
  · have := (List.getElem?_eq_some_iff.mp hk).1
    rw [e 25 _ (by decide) (by decide) (by unfold lyr; omega)]; exact (h4.2.2 k q hk).2
  · rw [e23 8 (by decide)]; exact h5.1
  · have := (List.getElem?_eq_some_iff.mp hk).1
    rw [e 26 _ (by decide) (by decide) (by unfold lyr; omega)]; exact h5.2.2 k a hk i hi
  · rw [e 27 _ (by decide) (by decide) (by unfold lyr; omega)]; exact h6 b hb
  · rw [e23 9 (by decide)]; exact h7.1
  · have := (List.getElem?_eq_some_iff.mp hk).1
    rw [e 28 _ (by decide) (by decide) (by unfold lyr; omega)]; exact h7.2.2 k q hk i hi
theorem copyLoop {W : FI → Int32 → Prop} {f : FI} {B ar st n a c : Nat} (hn : n ≤ st) (hne : ∀ j, j < n → c + j < a ∨ a + st ≤ c + j)
    (step : ∀ (f0 : FI) j, (∀ r k, ¬ (r = B + ar ∧ a ≤ k ∧ k < a + st) → f0 r k = f r k) → j < n → W (up2 f0 (B + ar) (a + j) (f0 (B + ar) (c + j))) (nI (j + 1)) → W f0 (nI j))
    (fin : ∀ f0 : FI, (∀ r k, ¬ (r = B + ar ∧ a ≤ k ∧ k < a + st) → f0 r k = f r k) → (∀ i, i < n → f0 (B + ar) (a + i) = f (B + ar) (c + i)) → W f0 (nI n)) : W f (nI 0) := by
  have loop : ∀ q j (f0 : FI), q + j = n → (∀ r k, ¬ (r = B + ar ∧ a ≤ k ∧ k < a + st) → f0 r k = f r k) → (∀ i, i < j → f0 (B + ar) (a + i) = f (B + ar) (c + i)) → W f0 (nI j) := by
    intro q
    induction q with
    | zero =>
      intro j f0 hj e1 e2
      rw [Nat.zero_add] at hj
      subst hj
      exact fin f0 e1 e2
    | succ q ih =>
      intro j f0 hj e1 e2
      refine step f0 j e1 (by omega) (ih (j + 1) _ (by omega) (fun r k z => ?_) (fun i hi => ?_))
      · rw [up2_ne (by omega)]
        exact e1 r k z
      · by_cases ei : i = j
        · subst ei
          rw [up2_eq]
          have := hne i (by omega)
          exact e1 _ _ (by omega)
        · rw [up2_k (by omega)]
          exact e2 i (by omega)
  exact loop n 0 f rfl (fun _ _ _ => rfl) (fun i hi => by omega)
section C11
variable {l : Launch} {G : Gx} {d : Nat} {sh : Sh} {fR : FRt} {B v b win : Nat} {f : FI} {g : FL} {w : Wd} {m : List (Nat × Nat)} {π : Pl} {dl : Nat → Nat}
theorem C_copies {K : FI → FL → Prop} {u : Nat} (hs : StM sh fR B) (hv : v < 22) (hu : u < 22) (huv : u ≠ v) (hR : RM f B v w m) (H : ∀ f' : FI, RM f' B u w m → (∀ r k, ¬ lyr B u r k → f' r k = f r k) → K f' g) : Cl l G (d + 1) 0 0 mX12_copies [.ref B, .int (nI u), .int (nI v)] (sh, f, g, fR) (qv sh fR K) := by
  obtain ⟨h1, h2, h3, h4, h5, h6, h7⟩ := hR
  have a3 := h3.2.1
  have a4 := h4.2.1
  have a5 := h5.2.1
  have a7 := h7.2.1
  refine VX12_copies hs ?_
  refine copyLoop (W := fun f0 x => LpX12_copies_2 l G d (qv sh fR K) sh fR B f0 g (nI u) (nI v) x) (B := B) (ar := 23) (st := 40) (n := 40) (a := 40 * u) (c := 40 * v) (by decide) (fun j hj => by omega) (fun f0 j e1 hj h => ?_) (fun f1 e1 c1 => ?_)
  · refine VX12_copies_2 hs ?_
    simp (disch := omega) only [pk_mul, nI_add, clN]
    exact ⟨fun z => absurd z (nI_ge (by omega) (by decide)), fun _ => ⟨inbN (by omega) (by decide), inbN (by omega) (by decide), h⟩⟩
  refine VX12_copies_2 hs ⟨fun _ => ?_, fun z => absurd (nI_le (Nat.le_refl _) (by decide)) z⟩
  have n6 : f1 (B + 23) (40 * v + 6) = nI w.2.2.1.length := by rw [e1 _ _ (by omega)]; exact h3.1
  refine copyLoop (W := fun f0 x => LpX12_copies_38 l G d (qv sh fR K) sh fR B f0 g (nI u) (nI v) x) (B := B) (ar := 24) (st := 3840) (n := 8 * w.2.2.1.length) (a := 3840 * u) (c := 3840 * v) (by omega) (fun j hj => by omega) (fun f0 j e2 hj h => ?_) (fun f2 e2 c2 => ?_)
  · refine VX12_copies_38 hs ?_
    simp (disch := omega) only [pk_mul, nI_add, clN]
    rw [e2 _ (40 * v + 6) (by omega), n6, pk_mul]
    exact ⟨inbN (by omega) (by decide), fun z => absurd z (nI_ge (by omega) (by omega)), fun _ => ⟨inbN (by omega) (by decide), inbN (by omega) (by decide), h⟩⟩
  refine VX12_copies_38 hs ?_
  simp (disch := omega) only [pk_mul, nI_add, clN]
  rw [e2 _ (40 * v + 6) (by omega), n6, pk_mul]
  refine ⟨inbN (by omega) (by decide), fun _ => ?_, fun z => absurd (nI_le (Nat.le_refl _) (by omega)) z⟩
  have n7 : f2 (B + 23) (40 * v + 7) = nI m.length := by rw [e2 _ _ (by omega), e1 _ _ (by omega)]; exact h4.1
  refine copyLoop (W := fun f0 x => LpX12_copies_84 l G d (qv sh fR K) sh fR B f0 g (nI u) (nI v) x) (B := B) (ar := 25) (st := 960) (n := 2 * m.length) (a := 960 * u) (c := 960 * v) (by omega) (fun j hj => by omega) (fun f0 j e3 hj h => ?_) (fun f3 e3 c3 => ?_)
  · refine VX12_copies_84 hs ?_
    simp (disch := omega) only [pk_mul, nI_add, clN]
    rw [e3 _ (40 * v + 7) (by omega), n7, pk_mul]
    exact ⟨inbN (by omega) (by decide), fun z => absurd z (nI_ge (by omega) (by omega)), fun _ => ⟨inbN (by omega) (by decide), inbN (by omega) (by decide), h⟩⟩
  refine VX12_copies_84 hs ?_
  simp (disch := omega) only [pk_mul, nI_add, clN]
  rw [e3 _ (40 * v + 7) (by omega), n7, pk_mul]
  refine ⟨inbN (by omega) (by decide), fun _ => ?_, fun z => absurd (nI_le (Nat.le_refl _) (by omega)) z⟩
  have n8 : f3 (B + 23) (40 * v + 8) = nI w.2.2.2.2.1.length := by rw [e3 _ _ (by omega), e2 _ _ (by omega), e1 _ _ (by omega)]; exact h5.1
  refine copyLoop (W := fun f0 x => LpX12_copies_129 l G d (qv sh fR K) sh fR B f0 g (nI u) (nI v) x) (B := B) (ar := 26) (st := 2600) (n := 5 * w.2.2.2.2.1.length) (a := 2600 * u) (c := 2600 * v) (by omega) (fun j hj => by omega) (fun f0 j e4 hj h => ?_) (fun f4 e4 c4 => ?_)
  · refine VX12_copies_129 hs ?_
    simp (disch := omega) only [pk_mul, nI_add, clN]
    rw [e4 _ (40 * v + 8) (by omega), n8, pk_mul]
    exact ⟨inbN (by omega) (by decide), fun z => absurd z (nI_ge (by omega) (by omega)), fun _ => ⟨inbN (by omega) (by decide), inbN (by omega) (by decide), h⟩⟩
  refine VX12_copies_129 hs ?_
  simp (disch := omega) only [pk_mul, nI_add, clN]
  rw [e4 _ (40 * v + 8) (by omega), n8, pk_mul]
  refine ⟨inbN (by omega) (by decide), fun _ => ?_, fun z => absurd (nI_le (Nat.le_refl _) (by omega)) z⟩
  refine copyLoop (W := fun f0 x => LpX12_copies_174 l G d (qv sh fR K) sh fR B f0 g (nI u) (nI v) x) (B := B) (ar := 27) (st := 200) (n := 200) (a := 200 * u) (c := 200 * v) (by omega) (fun j hj => by omega) (fun f0 j e5 hj h => ?_) (fun f5 e5 c5 => ?_)
  · refine VX12_copies_174 hs ?_
    simp (disch := omega) only [pk_mul, nI_add, clN]
    exact ⟨fun z => absurd z (nI_ge (by omega) (by omega)), fun _ => ⟨inbN (by omega) (by decide), inbN (by omega) (by decide), h⟩⟩
  refine VX12_copies_174 hs ⟨fun _ => ?_, fun z => absurd (nI_le (Nat.le_refl _) (by decide)) z⟩
  have n9 : f5 (B + 23) (40 * v + 9) = nI w.2.2.2.2.2.2.length := by rw [e5 _ _ (by omega), e4 _ _ (by omega), e3 _ _ (by omega), e2 _ _ (by omega), e1 _ _ (by omega)]; exact h7.1
  refine copyLoop (W := fun f0 x => LpX12_copies_213 l G d (qv sh fR K) sh fR B f0 g (nI u) (nI v) x) (B := B) (ar := 28) (st := 120) (n := 3 * w.2.2.2.2.2.2.length) (a := 120 * u) (c := 120 * v) (by omega) (fun j hj => by omega) (fun f0 j e6 hj h => ?_) (fun f6 e6 c6 => ?_)
  · refine VX12_copies_213 hs ?_
    simp (disch := omega) only [pk_mul, nI_add, clN]
    rw [e6 _ (40 * v + 9) (by omega), n9, pk_mul]
    exact ⟨inbN (by omega) (by decide), fun z => absurd z (nI_ge (by omega) (by omega)), fun _ => ⟨inbN (by omega) (by decide), inbN (by omega) (by decide), h⟩⟩
  refine VX12_copies_213 hs ?_
  simp (disch := omega) only [pk_mul, nI_add, clN]
  rw [e6 _ (40 * v + 9) (by omega), n9, pk_mul]
  refine ⟨inbN (by omega) (by decide), fun _ => ⟨_, _, rfl, rfl, H f6 ?_ (fun r k z => ?_)⟩, fun z => absurd (nI_le (Nat.le_refl _) (by omega)) z⟩
  · have g23 : ∀ i, i < 40 → f6 (B + 23) (40 * u + i) = f (B + 23) (40 * v + i) := fun i hi => by
      rw [e6 _ _ (by omega), e5 _ _ (by omega), e4 _ _ (by omega), e3 _ _ (by omega), e2 _ _ (by omega), c1 i hi]
    refine ⟨fun i hi => ?_, fun p i hp hi => ?_, ⟨?_, a3, fun k s hk i hi => ?_⟩, ⟨?_, a4, fun k q hk => ⟨?_, ?_⟩⟩, ⟨?_, a5, fun k a hk i hi => ?_⟩, fun b hb => ?_, ⟨?_, a7, fun k q hk i hi => ?_⟩⟩
    · rw [g23 i (by unfold nset at hi; omega)]; exact h1 i hi
    · rw [show 40 * u + 14 + 6 * p + i = 40 * u + (14 + 6 * p + i) by omega, g23 _ (by omega), show 40 * v + (14 + 6 * p + i) = 40 * v + 14 + 6 * p + i by omega]; exact h2 p i hp hi
    · rw [g23 6 (by decide)]; exact h3.1
    · have := (List.getElem?_eq_some_iff.mp hk).1
      rw [show 8 * (480 * u + k) + i = 3840 * u + (8 * k + i) by omega, e6 _ _ (by omega), e5 _ _ (by omega), e4 _ _ (by omega), e3 _ _ (by omega), c2 _ (by omega), e1 _ _ (by omega), show 3840 * v + (8 * k + i) = 8 * (480 * v + k) + i by omega]
      exact h3.2.2 k s hk i hi
    · rw [g23 7 (by decide)]; exact h4.1
    · have := (List.getElem?_eq_some_iff.mp hk).1
      rw [show 2 * (480 * u + k) = 960 * u + (2 * k) by omega, e6 _ _ (by omega), e5 _ _ (by omega), e4 _ _ (by omega), c3 _ (by omega), e2 _ _ (by omega), e1 _ _ (by omega), show 960 * v + 2 * k = 2 * (480 * v + k) by omega]
      exact (h4.2.2 k q hk).1
    · have := (List.getElem?_eq_some_iff.mp hk).1
      rw [show 2 * (480 * u + k) + 1 = 960 * u + (2 * k + 1) by omega, e6 _ _ (by omega), e5 _ _ (by omega), e4 _ _ (by omega), c3 _ (by omega), e2 _ _ (by omega), e1 _ _ (by omega), show 960 * v + (2 * k + 1) = 2 * (480 * v + k) + 1 by omega]
      exact (h4.2.2 k q hk).2
    · rw [g23 8 (by decide)]; exact h5.1
    · have := (List.getElem?_eq_some_iff.mp hk).1
      rw [show 5 * (520 * u + k) + i = 2600 * u + (5 * k + i) by omega, e6 _ _ (by omega), e5 _ _ (by omega), c4 _ (by omega), e3 _ _ (by omega), e2 _ _ (by omega), e1 _ _ (by omega), show 2600 * v + (5 * k + i) = 5 * (520 * v + k) + i by omega]
      exact h5.2.2 k a hk i hi
    · rw [e6 _ _ (by omega), c5 _ hb, e4 _ _ (by omega), e3 _ _ (by omega), e2 _ _ (by omega), e1 _ _ (by omega)]
      exact h6 b hb
    · rw [g23 9 (by decide)]; exact h7.1
    · have := (List.getElem?_eq_some_iff.mp hk).1
      rw [show 3 * (40 * u + k) + i = 120 * u + (3 * k + i) by omega, c6 _ (by omega), e5 _ _ (by omega), e4 _ _ (by omega), e3 _ _ (by omega), e2 _ _ (by omega), e1 _ _ (by omega), show 120 * v + (3 * k + i) = 3 * (40 * v + k) + i by omega]
      exact h7.2.2 k q hk i hi
  · have z1 : ¬ lyr B u r k := z
    unfold lyr at z1
    rw [e6 _ _ (by omega), e5 _ _ (by omega), e4 _ _ (by omega), e3 _ _ (by omega), e2 _ _ (by omega), e1 _ _ (by omega)]
end C11
