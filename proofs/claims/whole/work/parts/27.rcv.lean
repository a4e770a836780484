/-! the reference's tick: reading, answering -/
section C5
variable {l : Launch} {G : Gx} {d : Nat} {sh : Sh} {fR : FRt} {B v b win : Nat} {f : FI} {g : FL} {w : Wd} {m : List (Nat × Nat)} {π : Pl} {dl : Nat → Nat}
theorem lackS_ge (tk : Nat → Bool) : ∀ n b, b ≤ lackS tk n b ∧ lackS tk n b ≤ b + n := by
  intro n
  induction n with
  | zero => intro b; exact ⟨Nat.le_refl _, Nat.le_refl _⟩
  | succ n ih =>
    intro b
    unfold lackS
    split
    · have := ih (b + 1)
      omega
    · omega
theorem lack_ge : w.1 4 ≤ lack π w := (lackS_ge _ _ _).1
theorem lack_le (h : w.1 4 ≤ π.1 1) : lack π w ≤ π.1 1 := by
  have := (lackS_ge w.2.2.2.2.2.1 (π.1 1 - w.1 4) (w.1 4)).2
  unfold lack
  omega
theorem lack_le2 : lack π w ≤ w.1 4 + π.1 1 := by
  have := (lackS_ge w.2.2.2.2.2.1 (π.1 1 - w.1 4) (w.1 4)).2
  unfold lack
  omega
theorem C_firstLacking {K : Int32 → FI → FL → Prop} (hs : StM sh fR B) (hv : v < 22) (h4 : f (B + 23) (40 * v + 4) = nI (w.1 4)) (ht : RMt f B v w.2.2.2.2.2.1) (hn : w.1 4 ≤ 1000) (hP : PM f B b π) (hπ : πOK π) (H : K (nI (lack π w)) f g) : Cl l G (d + 1) 0 0 mX12_firstLacking [.ref B, .int (nI v)] (sh, f, g, fR) (qi sh fR K) := by
  have hb := hP.2.1
  have h200 := hπ.1.2
  have loop : ∀ n c, n = π.1 1 - c → c ≤ 1000 → lackS w.2.2.2.2.2.1 n c = lack π w → LpX12_firstLacking_7 l G d (qi sh fR K) sh fR B f g (nI v) (nI c) := by
    intro n
    induction n with
    | zero =>
      intro c hc hc1 e
      refine VX12_firstLacking_7 hs ?_
      rw [hP.1]
      simp (disch := omega) only [pk_mul, nI_add, clN]
      rw [hP.2.2.1]
      refine ⟨inbN (by omega) (by decide), fun _ => ⟨_, _, _, rfl, rfl, ?_⟩, fun z => absurd (nI_le (by omega) (by omega)) z⟩
      rw [show c = lack π w from e]
      exact H
    | succ n ih =>
      intro c hc hc1 e
      have e7 : f (B + 27) (200 * v + c) = bI (w.2.2.2.2.2.1 c) := ht c (by omega)
      refine VX12_firstLacking_7 hs ?_
      rw [hP.1]
      simp (disch := omega) only [pk_mul, nI_add, clN]
      rw [hP.2.2.1, e7]
      unfold lackS at e
      refine ⟨inbN (by omega) (by decide), fun z => absurd z (nI_ge (by omega) (by omega)), fun _ => ⟨inbN (by omega) (by decide), fun c1 => ⟨_, _, _, rfl, rfl, ?_⟩, fun c1 => ?_⟩⟩
      · have z : w.2.2.2.2.2.1 c = false := by
          cases hz : w.2.2.2.2.2.1 c with
          | false => rfl
          | true => exact absurd (bI_1.mpr hz) c1
        rw [z] at e
        rw [show c = lack π w from e]
        exact H
      · have z := bI_1.mp c1
        rw [z] at e
        exact ih (c + 1) (by omega) (by omega) e
  refine VX12_firstLacking hs ?_
  simp (disch := omega) only [pk_mul, nI_add, clN]
  refine ⟨inbN (by omega) (by decide), fun x hx => ?_⟩
  rw [hx, h4]
  exact loop _ _ rfl hn rfl
theorem C_takenAll {K : Int32 → FI → FL → Prop} (hs : StM sh fR B) (hv : v < 22) (ht : RMt f B v w.2.2.2.2.2.1) (hP : PM f B b π) (hπ : πOK π) (H : K (nI (takenS π w)) f g) : Cl l G d 0 0 mX12_takenAll [.ref B, .int (nI v)] (sh, f, g, fR) (qi sh fR K) := by
  have hb := hP.2.1
  have h200 := hπ.1.2
  refine VX12_takenAll hs ?_
  have loop : ∀ n k, n + k = π.1 1 → LpX12_takenAll_4 l G d (qi sh fR K) sh fR B f g (nI v) (nI (forN k (fun b n => if w.2.2.2.2.2.1 b then n + 1 else n) 0)) (nI k) := by
    intro n
    induction n with
    | zero =>
      intro k hk
      rw [Nat.zero_add] at hk
      subst hk
      refine VX12_takenAll_4 hs ?_
      rw [hP.1]
      simp (disch := omega) only [pk_mul, nI_add, clN]
      rw [hP.2.2.1]
      exact ⟨inbN (by omega) (by decide), fun _ => ⟨_, _, _, rfl, rfl, H⟩, fun z => absurd (nI_le (Nat.le_refl _) (by omega)) z⟩
    | succ n ih =>
      intro k hk
      refine VX12_takenAll_4 hs ?_
      rw [hP.1]
      simp (disch := omega) only [pk_mul, nI_add, clN]
      rw [hP.2.2.1, ht k (by omega)]
      refine ⟨inbN (by omega) (by decide), fun z => absurd z (nI_ge (by omega) (by omega)), fun _ => ⟨inbN (by omega) (by decide), fun x hx => ?_⟩⟩
      have := ih (k + 1) (by omega)
      rw [hx]
      show LpX12_takenAll_4 l G d (qi sh fR K) sh fR B f g (nI v) _ (nI (k + 1))
      have e : nI (forN k (fun b n => if w.2.2.2.2.2.1 b then n + 1 else n) 0) + bI (w.2.2.2.2.2.1 k) = nI (forN (k + 1) (fun b n => if w.2.2.2.2.2.1 b then n + 1 else n) 0) := by
        show _ = nI (if w.2.2.2.2.2.1 k then _ else _)
        cases w.2.2.2.2.2.1 k with
        | false => rw [show bI false = nI 0 from rfl, nI_add]; rfl
        | true => rw [show bI true = nI 1 from rfl, nI_add]; rfl
      rw [e]
      exact this
  exact loop (π.1 1) 0 rfl
theorem takenS_le (h : π.1 1 ≤ 200) : takenS π w ≤ 200 := by
  have := forN_le (n := π.1 1) (k := 1) (body := fun b n => if w.2.2.2.2.2.1 b then n + 1 else n) (fun p x => by split <;> omega)
  unfold takenS
  omega
theorem nI_sub3 {a b c : Nat} (ha : a ≤ 10000) (hb : b ≤ 10000) (hc : c ≤ 10000) : (nI a - nI b - nI c).toInt = (a : Int) - b - c := by
  rw [Int32.toInt_sub, Int32.toInt_sub, nI_toInt (by omega), nI_toInt (by omega), nI_toInt (by omega)]
  rw [Int.bmod_def, Int.bmod_def]
  omega
theorem clampS_le {v : Int} {n : Nat} : clampS v n ≤ n := by
  unfold clampS
  split
  · omega
  · split
    · omega
    · omega
theorem manyS_le : manyS π w ≤ lack π w - w.1 4 := by
  unfold manyS
  split
  · exact Nat.le_refl _
  · exact clampS_le
theorem C_readsOn {K : Int32 → FI → FL → Prop} (hs : StM sh fR B) (hv : v < 22) (hR : RM f B v w m) (h0 : w.1 0 ≤ 1000) (h4 : w.1 4 ≤ 1000) (hP : PM f B b π) (hπ : πOK π) (H : ∀ (f' : FI) (g' : FL), RM f' B v (wsc w 4 (w.1 4 + manyS π w)) m → (∀ r k, r ≠ B + 31 → ¬ (r = B + 23 ∧ k = 40 * v + 4) → f' r k = f r k) → (∀ r k, r ≠ B + 30 → g' r k = g r k) → K (nI (manyS π w)) f' g') : Cl l G (d + 3) 0 0 mX12_readsOn [.ref B, .int (nI v)] (sh, f, g, fR) (qi sh fR K) := by
  have h200 := hπ.1.2
  have hlg := lack_ge (w := w) (π := π)
  have hll := lack_le2 (w := w) (π := π)
  have fin : ∀ (f1 : FI) (g1 : FL) (x : Int32), x = nI (manyS π w) → (∀ r k, r ≠ B + 31 → f1 r k = f r k) → (∀ r k, r ≠ B + 30 → g1 r k = g r k) → LpX12_readsOn_98 l G d (qi sh fR K) sh fR B f1 g1 (nI v) x := by
    intro f1 g1 x hx e1 e2
    refine VX12_readsOn_98 hs ?_
    simp (disch := omega) only [pk_mul, nI_add, clN]
    rw [hx, e1 _ _ (by omega), hR.1 4 (by unfold nset; omega), nI_add]
    refine ⟨inbN (by omega) (by decide), inbN (by omega) (by decide), _, _, _, rfl, rfl, H _ _ ?_ (fun r k z1 z2 => ?_) e2⟩
    · refine (hR.congr (f' := f1) (fun j a b i => e1 _ _ (by omega))).setn (by unfold nset; omega)
    · rw [up2_ne z2]
      exact e1 r k z1
  refine VX12_readsOn hs ?_
  simp (disch := omega) only [pk_mul, nI_add, clN]
  refine C_firstLacking hs hv (hR.1 4 (by unfold nset; omega)) hR.2.2.2.2.2.1 h4 hP hπ ⟨inbN (by omega) (by decide), fun x hx => ?_⟩
  rw [hR.1 4 (by unfold nset; omega), pk_sub hlg] at hx
  subst hx
  refine C_isTold hs hP (by decide) ⟨fun c => ?_, fun c => ?_⟩
  · have hn : π.2.2.2.2 2 = none := by
      cases h : π.2.2.2.2 2 with
      | none => rfl
      | some o => rw [h] at c; exact absurd (show bI true = 0 from c) (by decide)
    refine fin f g _ ?_ (fun _ _ _ => rfl) (fun _ _ _ => rfl)
    unfold manyS
    rw [hn]
  · obtain ⟨ops, ho⟩ : ∃ ops, π.2.2.2.2 2 = some ops := by
      cases h : π.2.2.2.2 2 with
      | none => rw [h] at c; exact absurd rfl c
      | some o => exact ⟨o, rfl⟩
    have hm : manyS π w = clampS (ev ops (faR π w)) (lack π w - w.1 4) := by unfold manyS; rw [ho]
    have hF : FmM f B b 2 ops := by
      have := hP.2.2.2.2.2.2.2.2.2.2 2 (by decide)
      rw [ho] at this
      exact this
    have htk := takenS_le (π := π) (w := w) h200
    refine ⟨inbN (by omega) (by decide), ?_⟩
    rw [hR.1 0 (by unfold nset; omega)]
    have hR2 : RM (up2 (up2 f (B + 31) 1 (nI (w.1 0))) (B + 31) 9 (nI (lack π w - w.1 4))) B v w m := (hR.oth (r := B + 31) (by omega)).oth (r := B + 31) (by omega)
    have hP2 : PM (up2 (up2 f (B + 31) 1 (nI (w.1 0))) (B + 31) 9 (nI (lack π w - w.1 4))) B b π := hP.congr (fun j a b i => by rw [up2_r (by omega), up2_r (by omega)]) (by rw [up2_r (by omega), up2_r (by omega)])
    refine C_takenAll hs hv hR2.2.2.2.2.2.1 hP2 hπ ⟨inbN (by omega) (by decide), ?_⟩
    rw [hR2.1 4 (by unfold nset; omega)]
    refine C_reckons hs (by decide) (ops := ops) (b := b) ?_ (hπ.2.2.2.2.2.2.2.2.2.2.1 ops ho) (fa := faR π w) (fun k hk0 hk hal => ?_) (fun y g' hy _ hg => ?_)
    · obtain ⟨a1, a2, c0, a3, a4, a5, a6⟩ := hF
      refine ⟨by rw [up2_r (by omega), up2_r (by omega), up2_r (by omega)]; exact a1, a2, c0, by rw [up2_r (by omega), up2_r (by omega), up2_r (by omega)]; exact a3, by rw [up2_r (by omega), up2_r (by omega), up2_r (by omega)]; exact a4, a5, fun j o hj => ?_⟩
      rw [up2_r (by omega), up2_r (by omega), up2_r (by omega), up2_r (by omega), up2_r (by omega), up2_r (by omega)]
      exact a6 j o hj
    · unfold alR at hal
      simp only [Bool.or_eq_true, beq_iff_eq] at hal
      rcases hal with (rfl | rfl) | rfl
      · rw [up2_k (by decide), up2_k (by decide), up2_eq]
        exact nI_r (by omega)
      · rw [up2_k (by decide), up2_eq]
        exact nI_r (by omega)
      · rw [up2_eq, nI_sub3 (by omega) (by omega) (by omega)]
        exact ⟨rfl, by unfold faR rng; omega⟩
    · have ee : ∀ r k, r ≠ B + 31 → (up2 (up2 (up2 f (B + 31) 1 (nI (w.1 0))) (B + 31) 9 (nI (lack π w - w.1 4))) (B + 31) 10 (nI (takenS π w) - nI (w.1 4) - nI (lack π w - w.1 4))) r k = f r k := fun r k hr => by rw [up2_r hr, up2_r hr, up2_r hr]
      simp only [Int64.le_iff_toInt_le, hy, nI_l (show lack π w - w.1 4 < 2 ^ 31 by omega), lN_toInt (show lack π w - w.1 4 < 2 ^ 31 by omega), show (lN 0).toInt = 0 by decide]
      refine ⟨fun c1 => ⟨fun c2 => fin _ _ _ ?_ ee hg, fun c2 => fin _ _ _ ?_ ee hg⟩, fun c1 => fin _ _ _ ?_ ee hg⟩
      · refine toNat_nI ?_ ?_
        · rw [Kit.i32_of_i64 (by rw [hy]; omega) (by rw [hy]; omega), hy, hm]
          unfold clampS
          rw [if_neg (by omega), if_neg (by omega)]
          omega
        · have := manyS_le (π := π) (w := w)
          omega
      · rw [hm]
        unfold clampS
        rw [if_neg (by omega), if_pos (by omega)]
      · rw [hm]
        unfold clampS
        rw [if_pos (by omega)]
theorem C_answers {K : FI → FL → Prop} {p t : Nat} {n : Option Nat} (hs : StM sh fR B) (hv : v < 22) (hR : RM f B v w m) (h0 : w.1 0 ≤ 1000) (h4 : w.1 4 ≤ 1000) (hT : TM f B b π win dl) (hπ : πOK π) (hp : p < 4) (hl : w.2.2.2.2.1.length < 520) (H : ∀ f' : FI, RM f' B v (answS π win dl w p n t) m → (∀ r k, ¬ (r = B + 23 ∧ k = 40 * v + 8) → ¬ (r = B + 26 ∧ 2600 * v ≤ k ∧ k < 2600 * v + 2600) → f' r k = f r k) → K f' g) : Cl l G (d + 2) 0 0 mX12_answers [.ref B, .int (nI v), .int (nI p), .int (oI n)] (sh, f, g, fR) (qv sh fR K) := by
  have hlg := lack_ge (w := w) (π := π)
  have n8 := hR.2.2.2.2.1.1
  refine VX12_answers hs ?_
  simp (disch := omega) only [pk_mul, nI_add, clN]
  rw [n8]
  simp (disch := omega) only [pk_mul, nI_add, clN]
  refine ⟨inbN (by omega) (by decide), fun x hx => ?_⟩
  subst hx
  simp (disch := omega) only [pk_mul, nI_add, clN]
  refine ⟨inbN (by omega) (by decide), inbN (by omega) (by decide), ?_⟩
  have h27 : RMt (up2 (up2 f (B + 26) (5 * (520 * v + w.2.2.2.2.1.length) + 0) (nI p)) (B + 26) (5 * (520 * v + w.2.2.2.2.1.length) + 1) (oI n)) B v w.2.2.2.2.2.1 := fun c hc => by
    rw [up2_r (by omega), up2_r (by omega)]
    exact hR.2.2.2.2.2.1 c hc
  refine C_firstLacking hs hv (by rw [up2_r (by omega), up2_r (by omega)]; exact hR.1 4 (by unfold nset; omega)) h27 h4 (hT.1.congr (fun j a b i => by rw [up2_r (by omega), up2_r (by omega)]) (by rw [up2_r (by omega), up2_r (by omega)])) hπ ?_
  rw [up2_r (show ¬ B + 23 = B + 26 by omega), up2_r (show ¬ B + 23 = B + 26 by omega), up2_r (show ¬ B = B + 26 by omega), up2_r (show ¬ B = B + 26 by omega), hR.1 4 (by unfold nset; omega), hT.2.1, up2_r (show ¬ B + 23 = B + 26 by omega), up2_r (show ¬ B + 23 = B + 26 by omega), hR.1 0 (by unfold nset; omega), up2_r (show ¬ B + 29 = B + 26 by omega), up2_r (show ¬ B + 29 = B + 26 by omega), hT.2.2.1 p hp, up2_r (show ¬ B + 23 = B + 26 by omega), up2_r (show ¬ B + 23 = B + 26 by omega), n8]
  simp only [nI_add]
  refine ⟨inbN (by omega) (by decide), inbN (by omega) (by decide), inbN (by omega) (by decide), inbN (by omega) (by decide), inbN (by omega) (by decide), inbN (by omega) (by decide), inbN (by omega) (by decide), inbN (by omega) (by decide), _, _, rfl, rfl, H _ ?_ (fun r k z1 z2 => ?_)⟩
  · refine RM.repa hR (fun j a1 a2 a3 i hi => ?_) ⟨?_, ?_, fun k a hk i hi => ?_⟩
    · rw [up2_ne (by omega), up2_r (by omega), up2_r (by omega), up2_r (by omega), up2_r (by omega), up2_r (by omega)]
    · rw [up2_eq, List.length_append, List.length_singleton]
    · rw [List.length_append, List.length_singleton]
      omega
    · rw [up2_r (by omega)]
      by_cases ek : k < w.2.2.2.2.1.length
      · rw [List.getElem?_append_left ek] at hk
        rw [up2_k (by omega), up2_k (by omega), up2_k (by omega), up2_k (by omega), up2_k (by omega)]
        exact hR.2.2.2.2.1.2.2 k a hk i hi
      · rw [List.getElem?_append_right (by omega)] at hk
        have e3 : k = w.2.2.2.2.1.length := by
          have := (List.getElem?_eq_some_iff.mp hk).1
          simp at this
          omega
        subst e3
        simp at hk
        subst hk
        rcases (show i = 0 ∨ i = 1 ∨ i = 2 ∨ i = 3 ∨ i = 4 by omega) with rfl | rfl | rfl | rfl | rfl
        · rw [up2_k (by omega), up2_k (by omega), up2_k (by omega), up2_k (by omega)]
          exact up2_eq
        · rw [up2_k (by omega), up2_k (by omega), up2_k (by omega)]
          exact up2_eq
        · rw [up2_k (by omega), up2_k (by omega)]
          exact up2_eq
        · rw [up2_k (by omega)]
          exact up2_eq
        · exact up2_eq
  · rw [up2_ne z1, up2_ne (by omega), up2_ne (by omega), up2_ne (by omega), up2_ne (by omega), up2_ne (by omega)]
theorem C_isFreeQ {K : Int32 → FI → FL → Prop} {p : Nat} (hs : StM sh fR B) (hv : v < 22) (hR : RM f B v w m) (hN : ∀ p i, w.2.1 p i ≤ 500000) (hp : p < 4) (H : K (bI (freS w p)) f g) : Cl l G (d + 1) 0 0 mX12_isFree [.ref B, .int (nI v), .int (nI p)] (sh, f, g, fR) (qi sh fR K) := by
  have b0 := hN p 0
  have b1 := hN p 1
  refine VX12_isFree hs ?_
  simp (disch := omega) only [pk_mul, nI_add, clN]
  rw [hR.2.1 p 0 hp (by decide), hR.2.1 p 1 hp (by decide)]
  refine ⟨inbN (by omega) (by decide), fun c1 => ?_, fun c1 => ⟨inbN (by omega) (by decide), fun c2 => ?_, fun c2 => ?_⟩⟩
  · have z : ¬ w.2.1 p 0 = 1 := fun z => c1 (by rw [z])
    have e : freS w p = false := by simp [freS, z]
    rw [e] at H
    exact ⟨_, _, _, rfl, rfl, H⟩
  · have z : ¬ w.2.1 p 1 = 0 := fun z => c2 (by rw [z]; rfl)
    have e : freS w p = false := by simp [freS, z]
    rw [e] at H
    exact ⟨_, _, _, rfl, rfl, H⟩
  · have z1 : w.2.1 p 0 = 1 := (nI_eq (by omega) (by decide)).mp c1
    have z2 : w.2.1 p 1 = 0 := (nI_eq (b := 0) (by omega) (by decide)).mp c2
    have e : freS w p = true := by simp [freS, z1, z2]
    rw [e] at H
    exact ⟨_, _, _, rfl, rfl, H⟩
theorem C_firstOpen {K : Int32 → FI → FL → Prop} (hs : StM sh fR B) (hv : v < 22) (hR : RM f B v w m) (hN : ∀ p i, w.2.1 p i ≤ 500000) (hP : PM f B b π) (hπ : πOK π) (H : K (oI (openS π w)) f g) : Cl l G (d + 2) 0 0 mX12_firstOpen [.ref B, .int (nI v)] (sh, f, g, fR) (qi sh fR K) := by
  have hb := hP.2.1
  have h4 := hπ.2.2.2.2.2.1
  have loop : ∀ n k, n + k = π.1 6 → (List.range k).find? (freS w) = none → LpX12_firstOpen_2 l G d (qi sh fR K) sh fR B f g (nI v) (nI k) := by
    intro n
    induction n with
    | zero =>
      intro k hk hf
      rw [Nat.zero_add] at hk
      subst hk
      refine VX12_firstOpen_2 hs ?_
      rw [hP.1]
      simp (disch := omega) only [pk_mul, nI_add, clN]
      rw [hP.2.2.2.2.2.2.2.1]
      refine ⟨inbN (by omega) (by decide), fun _ => ⟨_, _, _, rfl, rfl, ?_⟩, fun z => absurd (nI_le (Nat.le_refl _) (by omega)) z⟩
      unfold openS at H
      rw [hf] at H
      exact H
    | succ n ih =>
      intro k hk hf
      refine VX12_firstOpen_2 hs ?_
      rw [hP.1]
      simp (disch := omega) only [pk_mul, nI_add, clN]
      rw [hP.2.2.2.2.2.2.2.1]
      refine ⟨inbN (by omega) (by decide), fun z => absurd z (nI_ge (by omega) (by omega)), fun _ => ?_⟩
      refine C_isFreeQ hs hv hR hN (by omega) ⟨fun c => ?_, fun c => ⟨_, _, _, rfl, rfl, ?_⟩⟩
      · refine ih (k + 1) (by omega) ?_
        rw [List.range_succ, List.find?_append, hf]
        simp [bI_0.mp c]
      · have z1 : freS w k = true := by
          cases hz : freS w k with
          | true => rfl
          | false => exact absurd (bI_0.mpr hz) c
        have e : openS π w = some k := by
          unfold openS
          rw [show π.1 6 = k + 1 + n by omega, List.range_add, List.find?_append, List.range_succ, List.find?_append, hf]
          simp [z1]
        rw [e] at H
        exact H
  refine VX12_firstOpen hs ?_
  exact loop (π.1 6) 0 rfl rfl
theorem C_setsOut {K : FI → FL → Prop} {many : Nat} {rs : List Sg} (hs : StM sh fR B) (hv : v < 22) (hR : RM f B v w m) (h0 : w.1 0 ≤ 1000) (h4 : w.1 4 ≤ 1000) (hN : ∀ p i, w.2.1 p i ≤ 500000) (hT : TM f B b π win dl) (hπ : πOK π) (hm : many ≤ 1000) (hl : w.2.2.2.2.1.length + rs.length < 520) (h57 : f B 57 = nI rs.length) (h32 : ∀ (k : Nat) (s : Sg), rs[k]? = some s → ∃ i s', f (B + 32) k = nI i ∧ w.2.2.1[i]? = some s' ∧ s'.1 = s.1 ∧ s'.2.1 = s.2.1 ∧ s.1 < 4) (hrl : rs.length ≤ 480)
    (H : ∀ f' : FI, RM f' B v (outS π win dl rs many w) m → (∀ r k, ¬ (r = B + 23 ∧ k = 40 * v + 8) → ¬ (r = B + 26 ∧ 2600 * v ≤ k ∧ k < 2600 * v + 2600) → f' r k = f r k) → K f' g) : Cl l G (d + 3) 0 0 mX12_setsOut [.ref B, .int (nI v), .int (nI many)] (sh, f, g, fR) (qv sh fR K) := by
  have loop : ∀ (R D : List Sg) (f0 : FI) (wk : Wd), rs = D ++ R → wk = D.foldl (fun w s => answS π win dl w s.1 (some s.2.1) s.2.2.2.2.1) w → (wk.1 = w.1 ∧ wk.2.1 = w.2.1 ∧ wk.2.2.1 = w.2.2.1 ∧ wk.2.2.2.2.1.length = w.2.2.2.2.1.length + D.length) → RM f0 B v wk m → (∀ r k, ¬ (r = B + 23 ∧ k = 40 * v + 8) → ¬ (r = B + 26 ∧ 2600 * v ≤ k ∧ k < 2600 * v + 2600) → f0 r k = f r k) → LpX12_setsOut_2 l G d (qv sh fR K) sh fR B f0 g (nI v) (nI many) (nI D.length) := by
    intro R
    induction R with
    | nil =>
      intro D f0 wk e hwk hz hR0 hF
      rw [List.append_nil] at e
      subst e
      have hT0 : TM f0 B b π win dl := hT.fr (v := v) (fun r k z => hF r k (fun q => z (by unfold tch; omega)) (fun q => z (by unfold tch; omega)))
      refine VX12_setsOut_2 hs ?_
      rw [hF B 57 (by omega) (by omega), h57]
      refine ⟨fun _ => ?_, fun z => absurd (nI_le (Nat.le_refl _) (by omega)) z⟩
      refine C_firstOpen hs hv hR0 (by rw [hz.2.1]; exact hN) hT0.1 hπ ?_
      rw [hF B 57 (by omega) (by omega), h57]
      have hop : ∀ p, openS π wk = some p → p < 4 := by
        intro p hp
        have := List.mem_of_find?_eq_some hp
        rw [List.mem_range] at this
        have := hπ.2.2.2.2.2.1
        omega
      have fin : outS π win dl rs many w = wk → K f0 g := fun e => H f0 (by rw [e]; exact hR0) hF
      refine ⟨fun c => ⟨_, _, rfl, rfl, fin ?_⟩, fun c => ⟨fun c2 => ⟨_, _, rfl, rfl, fin ?_⟩, fun c2 => ⟨fun c3 => ⟨_, _, rfl, rfl, fin ?_⟩, fun c3 => ?_⟩⟩⟩
      · unfold outS
        rw [← hwk]
        cases rs with
        | nil => exact absurd rfl c
        | cons x xs => rfl
      · have z : many = 0 := by
          have := (nI_leI (a := many) (b := 0) (by omega) (by decide)).mp c2
          omega
        unfold outS
        rw [← hwk, z]
        simp
      · have z : openS π wk = none := (oI_none (fun k hk => by have := hop k hk; omega)).mp c3
        unfold outS
        rw [← hwk]
        dsimp only
        rw [z]
        split <;> rfl
      · cases hop2 : openS π wk with
        | none => rw [hop2] at c3; exact absurd rfl c3
        | some p =>
          have e0 : rs = [] := by
            have := (nI_eq (a := rs.length) (b := 0) (by omega) (by decide)).mp c
            exact List.length_eq_zero_iff.mp this
          have z : 0 < many := by
            apply Nat.pos_of_ne_zero
            intro z
            rw [z] at c2
            exact c2 (by decide)
          refine C_answers hs hv hR0 (n := none) (t := wk.1 0) (by rw [hz.1]; exact h0) (by rw [hz.1]; exact h4) hT0 hπ (hop p hop2) (by rw [hz.2.2.2]; exact hl) (fun f1 h1 h2 => ⟨_, _, rfl, rfl, H f1 ?_ (fun r k z1 z2 => ?_)⟩)
          · have : outS π win dl rs many w = answS π win dl wk p none (wk.1 0) := by
              unfold outS
              rw [← hwk]
              dsimp only
              rw [hop2, e0]
              simp [z]
            rw [this]
            exact h1
          · rw [h2 r k z1 z2]
            exact hF r k z1 z2
    | cons s R ih =>
      intro D f0 wk e hwk hz hR0 hF
      have hT0 : TM f0 B b π win dl := hT.fr (v := v) (fun r k z => hF r k (fun q => z (by unfold tch; omega)) (fun q => z (by unfold tch; omega)))
      have hk : rs[D.length]? = some s := by rw [e]; exact at_len
      have hlen : rs.length = D.length + (R.length + 1) := by rw [e]; simp
      obtain ⟨i, s', q1, q2, q3, q4, q5⟩ := h32 _ s hk
      have q2' : wk.2.2.1[i]? = some s' := by rw [hz.2.2.1]; exact q2
      have hi : i < 480 := Nat.lt_of_lt_of_le (List.getElem?_eq_some_iff.mp q2).1 hR.2.2.1.2.1
      have g0 : f0 (B + 24) (8 * (480 * v + i) + 0) = nI s.1 := by rw [hR0.2.2.1.2.2 i s' q2' 0 (by decide), ← q3]; rfl
      have g1 : f0 (B + 24) (8 * (480 * v + i) + 1) = nI s.2.1 := by rw [hR0.2.2.1.2.2 i s' q2' 1 (by decide), ← q4]; rfl
      refine VX12_setsOut_2 hs ?_
      rw [hF B 57 (by omega) (by omega), h57, clN (by omega), hF (B + 32) _ (by omega) (by omega), q1]
      simp (disch := omega) only [pk_mul, nI_add, clN]
      rw [g0, g1]
      refine ⟨fun z => absurd z (nI_ge (by omega) (by omega)), fun _ => ⟨inbN (by omega) (by decide), inbN (by omega) (by decide), inbN (by omega) (by decide), inbN (by omega) (by decide), ?_⟩⟩
      refine C_answers hs hv hR0 (n := some s.2.1) (t := s.2.2.2.2.1) (by rw [hz.1]; exact h0) (by rw [hz.1]; exact h4) hT0 hπ q5 (by rw [hz.2.2.2]; omega) (fun f1 h1 h2 => ?_)
      have := ih (D ++ [s]) f1 (answS π win dl wk s.1 (some s.2.1) s.2.2.2.2.1) (by rw [e]; simp) (by rw [List.foldl_append, ← hwk]; rfl) ⟨hz.1, hz.2.1, hz.2.2.1, ?_⟩ h1 (fun r k z1 z2 => by rw [h2 r k z1 z2]; exact hF r k z1 z2)
      · rw [List.length_append, List.length_singleton] at this
        exact this
      · show (wk.2.2.2.2.1 ++ [_]).length = _
        rw [List.length_append, List.length_append, hz.2.2.2]
        simp
        omega
  refine VX12_setsOut hs ?_
  exact loop rs [] f w rfl rfl ⟨rfl, rfl, rfl, rfl⟩ hR (fun _ _ _ _ => rfl)
end C5
