/-! the reference: delays, tells -/
def okR (q : Td) (p e : Nat) (r : Nat × Nat × Nat) : Bool := gotS q.1 q.2.1 q.2.2.1 p e r.1 r.2.1 == r.2.2
theorem cnt_succ (q : Td) (p e k : Nat) (l : List (Nat × Nat × Nat)) : l.countP (fun r => decide (r.1 < k + 1) && okR q p e r) = l.countP (fun r => decide (r.1 < k) && okR q p e r) + l.countP (fun r => r.1 == k && okR q p e r) := by
  induction l with
  | nil => rfl
  | cons s l ih =>
    simp only [List.countP_cons]
    rw [ih]
    by_cases c : s.1 = k
    · cases okR q p e s <;> simp [c] <;> omega
    · by_cases c2 : s.1 < k
      · have : s.1 < k + 1 := by omega
        cases okR q p e s <;> simp [c, c2, this] <;> omega
      · have : ¬ s.1 < k + 1 := by omega
        cases okR q p e s <;> simp [c, c2, this]
section MY
variable {l : Launch} {G : Gx} {d : Nat} {sh : Sh} {fR : FRt} {B b x : Nat} {f f' : FI} {g g' : FL} {Z : Zs} {q : Td} {p : Nat}
theorem C_aheadN {K : Int32 → FI → FL → Prop} {n lo hi T : Nat} (hs : StM sh fR B) (h41 : f B 41 = bI true) (h0 : f (B + 23) (40 * 0 + 0) = nI T) (hT : T ≤ 999) (hlo : lo ≤ n) (hn : n ≤ 1000) (hhi : hi ≤ 200) (H1 : n ≤ hi → T + n ≤ 999 → K (nI 1) f g) (H0 : ¬ (n ≤ hi ∧ T + n ≤ 999) → K (nI 0) f g) : Cl l G (d + 1) 0 0 mX12_isAhead [.ref B, .int (nI n), .int (nI lo), .int (nI hi)] (sh, f, g, fR) (qi sh fR K) := by
  refine VX12_isAhead hs ?_
  rw [h41]
  refine ⟨fun c => absurd c (by decide), fun _ => VX12_is hs ⟨fun c => absurd (nI_le hlo (by omega)) (Int32.not_le.mpr c), fun _ => ⟨fun c2 => ⟨_, _, _, rfl, rfl, ⟨fun _ => ⟨_, _, _, rfl, rfl, H0 (fun z => ?_)⟩, fun c => absurd rfl c⟩⟩, fun c2 => ⟨_, _, _, rfl, rfl, ⟨fun c => absurd c (by decide), fun _ => ?_⟩⟩⟩⟩⟩
  · have := (nI_ltI (by omega) (by omega)).mp c2
    omega
  · have hle : n ≤ hi := Nat.not_lt.mp (fun z => c2 (nI_lt z (by omega)))
    simp (disch := omega) only [pk_mul, nI_add, clN]
    rw [h0, pk_sub (by omega)]
    refine ⟨inbN (by omega) (by decide), fun c3 => ⟨_, _, _, rfl, rfl, H0 (fun z => ?_)⟩, fun c3 => ⟨_, _, _, rfl, rfl, H1 hle ?_⟩⟩
    · have := (nI_ltI (by omega) (by omega)).mp c3
      omega
    · have : ¬ 999 - n < T := fun z => c3 (nI_lt z (by omega))
      omega
/-- what was foreseen with delay e -/
def TbM (f : FI) (B : Nat) (q : Td) (p e n : Nat) : Prop := ∀ k, k < n → q.2.2.1.1 0 + k ≤ 999 → ∀ i, i < 2 → f (B + 37) (122 * e + 2 * k + i) = nI (gotS q.1 q.2.1 q.2.2.1 p e k i) ∧ gotS q.1 q.2.1 q.2.2.1 p e k i ≤ 1000
/-- a trial with another delay -/
def FrD (B p : Nat) (f f' : FI) : Prop := ∀ r k, ¬ lyr B 1 r k → r ≠ B + 31 → r ≠ B + 32 → r ≠ B + 33 → r ≠ B + 37 → ¬ (r = B ∧ (k = 57 ∨ k = 59 ∨ k = 61 ∨ k = 62 ∨ k = 63)) → ¬ (r = B + 29 ∧ k = p) → f' r k = f r k
theorem C_canBe {K : Int32 → FI → FL → Prop} {e : Nat} (hs : StM sh fR B) (h : MSt f g B Z) (hz : zOK Z) (hq : Z.2.2.2.2 = some q) (hp6 : p < q.1.1 6) (he : 1 ≤ e) (he9 : e ≤ 9) (H : ∀ (f' : FI) (g' : FL), FrU B f f' → FrG B g g' → (∀ k, ¬ (122 * e ≤ k ∧ k < 122 * e + 122) → f' (B + 37) k = f (B + 37) k) → TbM f' B q p e 61 → K (bI (canS q p e)) f' g') : Cl l G (d + 7) 0 0 mX12_canBe [.ref B, .int (nI p), .int (nI e)] (sh, f, g, fR) (qi sh fR K) := by
  obtain ⟨b, hb, h13, h2, h6, hX, hT, h60, h51, hg⟩ := h.rx hq hz
  have ok := hz.2.2.2.2 q hq
  have h64 := ok.1.2.2.2.2.2.1
  have hp4 : p < 4 := by omega
  have h0 := ok.2.2.2.2.1.1
  have hl := ok.1.1
  have hml := ok.2.2.2.2.2.2.2.1
  have hmb := ok.2.2.2.2.2.2.2.2
  obtain ⟨b', hb', h13', t⟩ := h.td hq
  have m64 : f B 64 = nI q.2.2.2.2.length := t.2.2.2.2.2.1
  have mrow := t.2.2.2.2.2.2
  have h41 : f B 41 = bI true := by have := h.2.2.2.2.1; rw [hq] at this; exact this
  have hdl : ∀ p', p' < q.1.1 6 → 1 ≤ fu q.2.1 p e p' ∧ fu q.2.1 p e p' ≤ 9 := fun p' hp' => by
    unfold fu
    split
    · omega
    · exact ok.dl p' hp'
  have hd9 : ∀ p', fu q.2.1 p e p' ≤ 9999 := fun p' => by
    unfold fu
    split
    · omega
    · exact ok.2.2.2.1 p'
  have base0 : f (B + 23) (40 * 0 + 0) = nI (q.2.2.1.1 0) := by
    obtain ⟨m, hR, -⟩ := hX
    exact hR.1 0 (by unfold nset; omega)
  refine VX12_canBe hs ?_
  refine C_try hs hX (fun f1 a1 i1 e1 => ?_)
  rw [clN (by omega)]
  refine ⟨inbN hp4 (by decide), ?_⟩
  have T1 := hT.u i1
  have T2 : TM (up2 f1 (B + 29) p (nI e)) B b q.1 (q.1.1 3) (fu q.2.1 p e) := ⟨T1.1.congr (fun j _ _ i => up2_r (by omega)) (up2_r (by omega)), by rw [up2_r (by omega)]; exact T1.2.1, fun p' hp' => by
    unfold fu
    by_cases ep : p' = p
    · subst ep; rw [up2_eq, if_pos rfl]
    · rw [up2_k ep, if_neg ep]; exact T1.2.2.1 p' hp', T1.2.2.2.1, hd9⟩
  have a2 : HM (up2 f1 (B + 29) p (nI e)) B 1 q.1 q.2.2.1 := by
    obtain ⟨m, hR, hI⟩ := a1
    exact ⟨m, hR.oth (fun j a b => by omega), hI⟩
  have d1 : FrD B p f (up2 f1 (B + 29) p (nI e)) := fun r k a _ _ _ _ _ i => by rw [up2_ne i]; exact e1 r k a
  have rdD : ∀ {f0 : FI}, FrD B p f f0 → f0 B 41 = bI true ∧ f0 (B + 23) (40 * 0 + 0) = nI (q.2.2.1.1 0) ∧ f0 B 64 = nI q.2.2.2.2.length ∧ f0 B 13 = nI b ∧ f0 (B + 7) (4 * b + p) = nI (q.1.2.2.1 p) ∧ (∀ (k : Nat) (r : Nat × Nat × Nat), q.2.2.2.2[k]? = some r → f0 (B + 34) k = nI r.1 ∧ f0 (B + 35) k = nI r.2.1 ∧ f0 (B + 36) k = nI r.2.2) := fun {f0} i => by
    refine ⟨?_, ?_, ?_, ?_, ?_, fun k r hk => ?_⟩
    · rw [i _ _ (by unfold lyr; omega) (by omega) (by omega) (by omega) (by omega) (by omega) (by omega)]; exact h41
    · rw [i _ _ (by unfold lyr; omega) (by omega) (by omega) (by omega) (by omega) (by omega) (by omega)]; exact base0
    · rw [i _ _ (by unfold lyr; omega) (by omega) (by omega) (by omega) (by omega) (by omega) (by omega)]; exact m64
    · rw [i _ _ (by unfold lyr; omega) (by omega) (by omega) (by omega) (by omega) (by omega) (by omega)]; exact h13
    · rw [i _ _ (by unfold lyr; omega) (by omega) (by omega) (by omega) (by omega) (by omega) (by omega)]; exact hT.1.2.2.2.2.2.2.2.2.1 p hp6
    · rw [i (B + 34) k (by unfold lyr; omega) (by omega) (by omega) (by omega) (by omega) (by omega) (by omega), i (B + 35) k (by unfold lyr; omega) (by omega) (by omega) (by omega) (by omega) (by omega) (by omega), i (B + 36) k (by unfold lyr; omega) (by omega) (by omega) (by omega) (by omega) (by omega) (by omega)]
      exact mrow k r hk
  have done : ∀ k (f0 : FI) (g0 : FL), ¬ (k ≤ 60 ∧ q.2.2.1.1 0 + k ≤ 999) → (∀ j, j < k → q.2.2.1.1 0 + j ≤ 999) → k ≤ 61 → FrD B p f f0 → FrG B g g0 → (∀ j, ¬ (122 * e ≤ j ∧ j < 122 * e + 122) → f0 (B + 37) j = f (B + 37) j) → TbM f0 B q p e k → ∀ y, y = (if q.2.2.2.2.countP (fun r => decide (r.1 < k) && okR q p e r) = q.2.2.2.2.length then nI 1 else nI 0) → qi sh fR K (some (.int y)) (sh, up2 f0 (B + 29) p (nI (q.1.2.2.1 p)), g0, fR) := by
    intro k f0 g0 hk hlt hk61 i0 j0 tab tb y hy
    have hU : FrU B f (up2 f0 (B + 29) p (nI (q.1.2.2.1 p))) := fun r k' a b c d e' i => by
      by_cases z : r = B + 29 ∧ k' = p
      · rw [z.1, z.2, up2_eq, hT.2.2.1 p hp4, ok.2.2.1 p hp6]
      · rw [up2_ne z]
        exact i0 r k' a b c d e' i z
    have hcan : canS q p e = decide (q.2.2.2.2.countP (fun r => decide (r.1 < k) && okR q p e r) = q.2.2.2.2.length) := by
      rw [Bool.eq_iff_iff, decide_eq_true_iff, List.countP_eq_length]
      unfold canS
      rw [List.all_eq_true]
      refine ⟨fun H r hr => ?_, fun H r hr => ?_⟩
      · have := H r hr
        rw [Bool.and_eq_true, decide_eq_true_iff] at this
        have hb60 := (hmb r hr).1
        rw [Bool.and_eq_true, decide_eq_true_iff]
        refine ⟨?_, this.2⟩
        rcases Nat.lt_or_ge r.1 k with z | z
        · exact z
        · exact absurd ⟨by omega, by omega⟩ hk
      · have := H r hr
        rw [Bool.and_eq_true, decide_eq_true_iff] at this
        rw [Bool.and_eq_true, decide_eq_true_iff]
        exact ⟨hlt r.1 this.1, this.2⟩
    have htb : TbM (up2 f0 (B + 29) p (nI (q.1.2.2.1 p))) B q p e 61 := fun k' hk' h9 i hi => by
      rw [up2_r (by omega)]
      refine tb k' ?_ h9 i hi
      rcases Nat.lt_or_ge k' k with z | z
      · exact z
      · exact absurd ⟨by omega, by omega⟩ hk
    have hK := H (up2 f0 (B + 29) p (nI (q.1.2.2.1 p))) g0 hU j0 (fun j hj => by rw [up2_r (by omega)]; exact tab j hj) htb
    refine ⟨_, _, _, rfl, rfl, ?_⟩
    rw [hcan] at hK
    rw [hy]
    by_cases c : q.2.2.2.2.countP (fun r => decide (r.1 < k) && okR q p e r) = q.2.2.2.2.length
    · rw [decide_eq_true c] at hK; rw [if_pos c]; exact hK
    · rw [decide_eq_false c] at hK; rw [if_neg c]; exact hK
  have loop : ∀ r k (f0 : FI) (g0 : FL), r + k = 61 → (∀ j, j < k → q.2.2.1.1 0 + j ≤ 999) → RX f0 g0 B b q.1 (q.1.1 3) (fu q.2.1 p e) (runS q.1 (q.1.1 3) (fu q.2.1 p e) k q.2.2.1) Z.2.2.1 → (runS q.1 (q.1.1 3) (fu q.2.1 p e) k q.2.2.1).1 0 = q.2.2.1.1 0 + k → FrD B p f f0 → FrG B g g0 → (∀ j, ¬ (122 * e ≤ j ∧ j < 122 * e + 122) → f0 (B + 37) j = f (B + 37) j) → TbM f0 B q p e k → LpX12_canBe_18 l G d (qi sh fR K) sh fR B f0 g0 (nI p) (nI e) (nI (q.2.2.2.2.countP (fun r => decide (r.1 < k) && okR q p e r))) (nI k) := by
    intro r
    induction r with
    | zero =>
      intro k f0 g0 hk hlt a0 t0 i0 j0 tab tb
      obtain ⟨u1, u2, u3, u4, u5, u6⟩ := rdD i0
      refine VX12_canBe_18 hs (C_aheadN hs u1 u2 h0 (Nat.zero_le _) (by omega) (by decide) (fun z1 z2 => by omega) (fun hno => ⟨fun _ => ?_, fun c => absurd rfl c⟩))
      rw [u4, u3, pk_mul, nI_add, clN (by omega), clN (by omega), u5]
      have hle := List.countP_le_length (p := fun r => decide (r.1 < k) && okR q p e r) (l := q.2.2.2.2)
      refine ⟨inbN (by omega) (by decide), inbN hp4 (by decide), fun c => done k f0 g0 hno hlt (by omega) i0 j0 tab tb _ ?_, fun c => done k f0 g0 hno hlt (by omega) i0 j0 tab tb _ ?_⟩
      · rw [if_neg (fun z => c (by rw [z]))]
      · rw [if_pos ((nI_eq (by omega) (by omega)).mp c)]
    | succ r ih =>
      intro k f0 g0 hk hlt a0 t0 i0 j0 tab tb
      obtain ⟨u1, u2, u3, u4, u5, u6⟩ := rdD i0
      have hle := List.countP_le_length (p := fun r => decide (r.1 < k) && okR q p e r) (l := q.2.2.2.2)
      refine VX12_canBe_18 hs (C_aheadN hs u1 u2 h0 (Nat.zero_le _) (by omega) (by decide) (fun z1 z2 => ⟨fun c => absurd c (by decide), fun _ => ?_⟩) (fun hno => ⟨fun _ => ?_, fun c => absurd rfl c⟩))
      · obtain ⟨m, hR, -⟩ := id a0.1
        have bd2 : (runS q.1 (q.1.1 3) (fu q.2.1 p e) k q.2.2.1).1 2 ≤ 1000 := by have := a0.2.1.2.1.2.2.1; omega
        have bd4 : (runS q.1 (q.1.1 3) (fu q.2.1 p e) k q.2.2.1).1 4 ≤ 1000 := by have := a0.2.1.2.1.2.2.2.2; omega
        simp (disch := omega) only [pk_mul, nI_add, clN]
        rw [show f0 (B + 23) (40 * 1 + 2) = nI ((runS q.1 (q.1.1 3) (fu q.2.1 p e) k q.2.2.1).1 2) from hR.1 2 (by unfold nset; omega), show f0 (B + 23) (40 * 1 + 4) = nI ((runS q.1 (q.1.1 3) (fu q.2.1 p e) k q.2.2.1).1 4) from hR.1 4 (by unfold nset; omega)]
        refine ⟨inbN (by omega) (by decide), inbN (by omega) (by decide), inbN (by omega) (by decide), inbN (by omega) (by decide), ?_⟩
        obtain ⟨f2, hf2⟩ : ∃ f2 : FI, f2 = up2 (up2 f0 (B + 37) (122 * e + 2 * k) (nI ((runS q.1 (q.1.1 3) (fu q.2.1 p e) k q.2.2.1).1 2))) (B + 37) (122 * e + 2 * k + 1) (nI ((runS q.1 (q.1.1 3) (fu q.2.1 p e) k q.2.2.1).1 4)) := ⟨_, rfl⟩
        rw [← hf2]
        have fr2 : ∀ r k', r ≠ B + 37 → f2 r k' = f0 r k' := fun r k' hne => by rw [hf2, up2_r hne, up2_r hne]
        have i2 : FrD B p f f2 := fun r k' a b c d e' i z => by rw [fr2 r k' e']; exact i0 r k' a b c d e' i z
        have tab2 : ∀ j, ¬ (122 * e ≤ j ∧ j < 122 * e + 122) → f2 (B + 37) j = f (B + 37) j := fun j hj => by rw [hf2, up2_k (by omega), up2_k (by omega)]; exact tab j hj
        have tb2 : TbM f2 B q p e (k + 1) := fun k' hk' h9 i hi => by
          rcases (show k' < k ∨ k' = k by omega) with z | z
          · rw [hf2, up2_k (by omega), up2_k (by omega)]
            exact tb k' z h9 i hi
          · subst z
            rcases (show i = 0 ∨ i = 1 by omega) with rfl | rfl
            · rw [hf2, up2_k (by omega)]
              refine ⟨?_, bd2⟩
              exact up2_eq
            · rw [hf2, up2_eq]
              exact ⟨rfl, bd4⟩
        have a2 : RX f2 g0 B b q.1 (q.1.1 3) (fu q.2.1 p e) (runS q.1 (q.1.1 3) (fu q.2.1 p e) k q.2.2.1) Z.2.2.1 := by
          obtain ⟨⟨m, hR, hI⟩, b1, b2, b3, b4⟩ := a0
          exact ⟨⟨m, hR.congr (fun j _ _ i => fr2 _ _ (by omega)), hI⟩, b1, ⟨b2.1.congr (fun j _ _ i => fr2 _ _ (by omega)) (fr2 _ _ (by omega)), by rw [fr2 _ _ (by omega)]; exact b2.2.1, fun p' hp' => by rw [fr2 _ _ (by omega)]; exact b2.2.2.1 p' hp', b2.2.2.2⟩, by rw [fr2 _ _ (by omega)]; exact b3, b4⟩
        obtain ⟨-, -, v3, -, -, v6⟩ := rdD i2
        have rows : ∀ (rest dn : List (Nat × Nat × Nat)), q.2.2.2.2 = dn ++ rest → LpX12_canBe_75 l G d (qi sh fR K) sh fR B f2 g0 (nI p) (nI e) (nI (q.2.2.2.2.countP (fun r => decide (r.1 < k) && okR q p e r) + dn.countP (fun r => r.1 == k && okR q p e r))) (nI k) (nI dn.length) := by
          intro rest
          induction rest with
          | nil =>
            intro dn ed
            rw [List.append_nil] at ed
            refine VX12_canBe_75 hs ?_
            rw [v3, ← ed]
            refine ⟨fun _ => C_step1 hs ok.1 hdl a2 hz.2.2.1 (by omega) (fun f3 g3 a3 t3 _ _ _ i3 j3 k37 => ?_), fun c => absurd (nI_le (Nat.le_refl _) (by omega)) c⟩
            rw [← cnt_succ, nI_add]
            refine ih (k + 1) f3 g3 (by omega) (fun j hj => ?_) a3 (by show (tickS q.1 (q.1.1 3) (fu q.2.1 p e) false (runS q.1 (q.1.1 3) (fu q.2.1 p e) k q.2.2.1) 0).1.1 0 = _; rw [t3, t0]; omega) (fun r k' a b c d e' i z => by rw [i3 r k' a b c d e' i]; exact i2 r k' a b c d e' i z) (j0.tr j3) (fun j hj => by rw [k37]; exact tab2 j hj) (fun k' hk' h9 i hi => by rw [k37]; exact tb2 k' hk' h9 i hi)
            rcases (show j < k ∨ j = k by omega) with z | z
            · exact hlt j z
            · omega
          | cons s rest ih2 =>
            intro dn ed
            have hk' : q.2.2.2.2[dn.length]? = some s := by rw [ed]; exact at_len
            have hlt' := (List.getElem?_eq_some_iff.mp hk').1
            obtain ⟨s1, s2, s3⟩ := v6 _ s hk'
            obtain ⟨b1, b2, b3⟩ := hmb s (List.mem_of_getElem? hk')
            have nx := ih2 (dn ++ [s]) (by rw [ed]; simp)
            rw [List.length_append, List.length_singleton, List.countP_append, List.countP_singleton, ← Nat.add_assoc] at nx
            refine VX12_canBe_75 hs ?_
            rw [v3, clN (by omega), s1, s2, s3]
            simp (disch := omega) only [pk_mul, nI_add, clN]
            refine ⟨fun c => absurd c (nI_ge hlt' (by omega)), fun _ => ⟨inbN (by omega) (by decide), fun c w20 hw => ?_, fun c => ⟨inbN (by omega) (by decide), inbN (by omega) (by decide), inbN (by omega) (by decide), fun c2 w26 hw => ?_, fun c2 w28 hw => ?_⟩⟩⟩
            · rw [show (s.1 == k) = false from by simp; exact fun z => c (by rw [z]), Bool.false_and, if_neg (by decide)] at nx
              rw [hw]
              exact nx
            · have hsk : s.1 = k := (nI_eq (by omega) (by omega)).mp c
              obtain ⟨y1, y2⟩ := tb2 k (by omega) (by omega) s.2.1 (by omega)
              have hne : okR q p e s = false := by
                unfold okR
                rw [hsk]
                simp only [beq_eq_false_iff_ne]
                exact fun z => c2 (by rw [y1, z])
              rw [hne, Bool.and_false, if_neg (by decide)] at nx
              rw [hw]
              exact nx
            · have hsk : s.1 = k := (nI_eq (by omega) (by omega)).mp c
              obtain ⟨y1, y2⟩ := tb2 k (by omega) (by omega) s.2.1 (by omega)
              rw [y1] at c2
              have hyes : okR q p e s = true := by
                unfold okR
                rw [hsk]
                simp only [beq_iff_eq]
                exact (nI_eq (by omega) (by omega)).mp c2
              rw [hyes, hsk, Bool.and_true, beq_self_eq_true, if_pos rfl] at nx
              rw [hw]
              exact nx
        have := rows q.2.2.2.2 [] rfl
        rw [List.countP_nil, Nat.add_zero] at this
        exact this
      · rw [u4, u3, pk_mul, nI_add, clN (by omega), clN (by omega), u5]
        refine ⟨inbN (by omega) (by decide), inbN hp4 (by decide), fun c => done k f0 g0 hno hlt (by omega) i0 j0 tab tb _ ?_, fun c => done k f0 g0 hno hlt (by omega) i0 j0 tab tb _ ?_⟩
        · rw [if_neg (fun z => c (by rw [z]))]
        · rw [if_pos ((nI_eq (by omega) (by omega)).mp c)]
  have := loop 61 0 _ g rfl (fun j hj => by omega) ⟨a2, hg, T2, by rw [up2_r (by omega), e1 _ _ (by unfold lyr; omega)]; exact h60, h51⟩ rfl d1 FrG.rf (fun j hj => by rw [up2_r (by omega)]; exact e1 _ _ (by unfold lyr; omega)) (fun k hk => by omega)
  rw [show q.2.2.2.2.countP (fun r => decide (r.1 < 0) && okR q p e r) = 0 from by simp] at this
  exact this
end MY
