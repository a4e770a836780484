/-! the class' reader: tokens -/
def CK (f : FI) (A : Nat) (tp : List Nat) : Prop := f (A + 38) 4 = nI tp.length ∧ tp.length ≤ 1600 ∧ (∀ k, k < tp.length → f (A + 1) k = nI (bt tp k)) ∧ (∀ b ∈ tp, b < 256) ∧ POw f A
def CTk (f : FI) (A : Nat) (tp : List Nat) (e : Nat) : Prop := f (A + 38) 5 = nI (tkE tp e) ∧ f (A + 38) 10 = nI (tkK tp e) ∧ f (A + 38) 11 = nI (tkS tp e) ∧ (tkK tp e = 4 → f (A + 38) 12 = nI (tkB tp e)) ∧ (tkK tp e = 1 → f (A + 38) 13 = nI (packC (tkW tp e)) ∧ f (A + 38) 14 = oI (ownI (tkW tp e))) ∧ (tkK tp e = 2 ∨ tkK tp e = 3 → f (A + 38) 13 = nI (tkV tp e))
def Fa (A : Nat) (f f' : FI) : Prop := ∀ r k, ¬ (r = A + 38 ∧ (k = 5 ∨ 10 ≤ k)) → f' r k = f r k
def Ft (A : Nat) (f f' : FI) : Prop := ∀ r k, ¬ (r = A + 38 ∧ (k = 1 ∨ k = 2 ∨ k = 5 ∨ 10 ≤ k)) → f' r k = f r k
theorem Fa.rf {A : Nat} {f : FI} : Fa A f f := fun _ _ _ => rfl
theorem Fa.tr {A : Nat} {f f' f'' : FI} (h : Fa A f f') (h' : Fa A f' f'') : Fa A f f'' := fun r k z => (h' r k z).trans (h r k z)
theorem Fa.up {A k : Nat} {f f' : FI} {v : Int32} (h : Fa A f f') (hk : k = 5 ∨ 10 ≤ k) : Fa A f (up2 f' (A + 38) k v) := fun r i z => by
  rw [up2_ne (fun z2 => z ⟨z2.1, by omega⟩)]
  exact h r i z
theorem Ft.rf {A : Nat} {f : FI} : Ft A f f := fun _ _ _ => rfl
theorem Ft.tr {A : Nat} {f f' f'' : FI} (h : Ft A f f') (h' : Ft A f' f'') : Ft A f f'' := fun r k z => (h' r k z).trans (h r k z)
theorem Fa.ft {A : Nat} {f f' : FI} (h : Fa A f f') : Ft A f f' := fun r k z => h r k (fun q => z ⟨q.1, by omega⟩)
theorem CK.ft {A : Nat} {f f' : FI} {tp : List Nat} (h : CK f A tp) (e : Ft A f f') : CK f' A tp := by
  obtain ⟨c1, c2, c3, c4, c5⟩ := h
  refine ⟨by rw [e _ _ (by omega)]; exact c1, c2, fun k hk => by rw [e _ _ (by omega)]; exact c3 k hk, c4, fun k o hk => by rw [e _ _ (by omega)]; exact c5 k o hk⟩
def R9 (sh : Sh) (fR : FRt) (A p q : Nat) : Prop := StA sh fR A ∧ fR (A + 38) 6 = some p ∧ StPl sh fR p ∧ StF sh fR q
theorem bI_T {b : Bool} (h : b = true) : ¬ bI b = 0 := by rw [h]; decide
theorem bI_F {b : Bool} (h : b = false) : bI b = 0 := by rw [h]; decide
theorem bI_cs {b : Bool} {P R : Prop} (h0 : b = false → P) (h1 : b = true → R) : (bI b = 0 → P) ∧ (¬ bI b = 0 → R) := ⟨fun c => h0 (bI_0.mp c), fun c => h1 (by cases b with
  | true => rfl
  | false => exact absurd rfl c)⟩
theorem bI_cs' {b : Bool} {P R : Prop} (h0 : b = false → P) (h1 : b = true → R) : (¬ bI b = 0 → R) ∧ (bI b = 0 → P) := ⟨(bI_cs h0 h1).2, (bI_cs h0 h1).1⟩
theorem cnt_t {P : Nat → Bool} {tp : List Nat} {n i : Nat} (c : P (bt tp i) = true) : cnt P tp (n + 1) i = cnt P tp n (i + 1) + 1 := if_pos c
section TKC
variable {l : Launch} {G : Gx} {d : Nat} {sh : Sh} {fR : FRt} {A p q : Nat} {f : FI} {g : FL} {tp : List Nat}
theorem K_isLt {K : Int32 → FI → FL → Prop} {i : Nat} (h9 : R9 sh fR A p q) (hC : CK f A tp) (hi : i ≤ tp.length) (H : K (bI (isLt (bt tp i))) f g) : Cl l G d 0 0 mX9_isLetter [.ref (A + 38), .int (nI i)] (sh, f, g, (up2 fR (A + 38) 7 (some q))) (qi sh (up2 fR (A + 38) 7 (some q)) K) := by
  obtain ⟨c1, c2, c3, c4, c5⟩ := hC
  refine VX9_isLetter h9.1 h9.2.1 h9.2.2.1 h9.2.2.2 ?_
  rw [c1, clN (by omega)]
  by_cases hi2 : i < tp.length
  · rw [c3 i hi2]
    have hb := bt_lt c4 i
    refine ⟨fun c => absurd c (nI_ge hi2 (by omega)), fun _ => ⟨inbN (by omega) (by decide), fun c => ?_, fun c => ⟨inbN (by omega) (by decide), fun c2 => ?_, fun c2 => ?_⟩⟩⟩
    · rw [nI_ltI (by omega) (by decide)] at c
      rw [show isLt (bt tp i) = false by unfold isLt; simp; omega] at H
      exact ⟨_, _, _, rfl, rfl, H⟩
    · rw [nI_ltI (by decide) (by omega)] at c2
      rw [show isLt (bt tp i) = false by unfold isLt; simp; omega] at H
      exact ⟨_, _, _, rfl, rfl, H⟩
    · rw [nI_ltI (by omega) (by decide)] at c
      rw [nI_ltI (by decide) (by omega)] at c2
      rw [show isLt (bt tp i) = true by unfold isLt; simp; omega] at H
      exact ⟨_, _, _, rfl, rfl, H⟩
  · rw [bt_out (by omega)] at H
    exact ⟨fun _ => ⟨_, _, _, rfl, rfl, H⟩, fun c => absurd (nI_le (by omega) (by omega)) c⟩
theorem K_isDg {K : Int32 → FI → FL → Prop} {i : Nat} (h9 : R9 sh fR A p q) (hC : CK f A tp) (hi : i ≤ tp.length) (H : K (bI (isDg (bt tp i))) f g) : Cl l G d 0 0 mX9_isDigit [.ref (A + 38), .int (nI i)] (sh, f, g, (up2 fR (A + 38) 7 (some q))) (qi sh (up2 fR (A + 38) 7 (some q)) K) := by
  obtain ⟨c1, c2, c3, c4, c5⟩ := hC
  refine VX9_isDigit h9.1 h9.2.1 h9.2.2.1 h9.2.2.2 ?_
  rw [c1, clN (by omega)]
  by_cases hi2 : i < tp.length
  · rw [c3 i hi2]
    have hb := bt_lt c4 i
    refine ⟨fun c => absurd c (nI_ge hi2 (by omega)), fun _ => ⟨inbN (by omega) (by decide), fun c => ?_, fun c => ⟨inbN (by omega) (by decide), fun c2 => ?_, fun c2 => ?_⟩⟩⟩
    · rw [nI_ltI (by omega) (by decide)] at c
      rw [show isDg (bt tp i) = false by unfold isDg; simp; omega] at H
      exact ⟨_, _, _, rfl, rfl, H⟩
    · rw [nI_ltI (by decide) (by omega)] at c2
      rw [show isDg (bt tp i) = false by unfold isDg; simp; omega] at H
      exact ⟨_, _, _, rfl, rfl, H⟩
    · rw [nI_ltI (by omega) (by decide)] at c
      rw [nI_ltI (by decide) (by omega)] at c2
      rw [show isDg (bt tp i) = true by unfold isDg; simp; omega] at H
      exact ⟨_, _, _, rfl, rfl, H⟩
  · rw [bt_out (by omega)] at H
    exact ⟨fun _ => ⟨_, _, _, rfl, rfl, H⟩, fun c => absurd (nI_le (by omega) (by omega)) c⟩
theorem pk_pack {P c j : Nat} (hj : j < 6) (hP : P < 32 ^ j) (hc : c ≤ 26) : nI P ||| (nI c <<< ((nI 5 * nI j) &&& 31)) = nI (P + 32 ^ j * c) := by
  have e32 : 32 ^ j = 2 ^ (5 * j) := by rw [Nat.pow_mul]
  have hp : 32 ^ j ≤ 32 ^ 5 := Nat.pow_le_pow_right (by decide) (by omega)
  have h5 : (32 : Nat) ^ 5 = 33554432 := by decide
  rw [h5] at hp
  have hm : c * 32 ^ j ≤ 26 * 33554432 := Nat.mul_le_mul hc hp
  rw [pk_shlN (n := c) _ (5 * j) (by rcases (show j = 0 ∨ j = 1 ∨ j = 2 ∨ j = 3 ∨ j = 4 ∨ j = 5 by omega) with rfl | rfl | rfl | rfl | rfl | rfl <;> decide) (by rw [← e32]; omega), ← e32, pk_orN (by omega) (by omega)]
  have h := Nat.two_pow_add_eq_or_of_lt (show P < 2 ^ (5 * j) by rw [← e32]; exact hP) c
  rw [← e32] at h
  rw [Nat.mul_comm c, Nat.or_comm, ← h, Nat.add_comm]
theorem packC_l32 : ∀ (l : List Nat), (∀ c ∈ l, c ≤ 31) → packC l < 32 ^ l.length
  | [], _ => by decide
  | c :: l, h => by
    have h1 := packC_l32 l (fun x hx => h x (List.mem_cons_of_mem _ hx))
    have h2 := h c List.mem_cons_self
    rw [packC, List.length_cons, Nat.pow_succ]
    omega
theorem packC_inj : ∀ {a b : List Nat}, (∀ c ∈ a, 1 ≤ c ∧ c ≤ 26) → (∀ c ∈ b, 1 ≤ c ∧ c ≤ 26) → packC a = packC b → a = b
  | [], [], _, _, _ => rfl
  | [], c :: b, _, hb, h => by
    have := hb c List.mem_cons_self
    rw [packC, packC] at h; omega
  | c :: a, [], ha, _, h => by
    have := ha c List.mem_cons_self
    rw [packC, packC] at h; omega
  | c :: a, c' :: b, ha, hb, h => by
    have h1 := ha c List.mem_cons_self
    have h2 := hb c' List.mem_cons_self
    rw [packC, packC] at h
    have e : c = c' := by omega
    rw [e, packC_inj (fun x hx => ha x (List.mem_cons_of_mem _ hx)) (fun x hx => hb x (List.mem_cons_of_mem _ hx)) (by omega)]
theorem ow_mem : ∀ k, k < 29 → ∀ c ∈ ow k, 1 ≤ c ∧ c ≤ 26 := by decide +kernel
theorem packC_ow : ∀ k, k < 29 → packC (ow k) < 2 ^ 30 := by decide +kernel
theorem ow_own {k : Nat} (hk : k < 29) : ownL[k]? = some (ow k) := by
  unfold ow
  rw [List.getD_eq_getElem?_getD]
  cases h : ownL[k]? with
  | some o => rfl
  | none => rw [List.getElem?_eq_none_iff] at h; exact absurd h (by show ¬ 29 ≤ k; omega)
/-- the letters of a word -/
theorem L_word {Q : Option Value → Hp → Prop} {a3 : Int32} (h9 : R9 sh fR A p q) : ∀ n j i P, n + j = 6 → P < 32 ^ j → i ≤ tp.length → ∀ f, CK f A tp → f (A + 38) 5 = nI i → (∀ f', Fa A f f' → (∀ k, k ≠ 5 → f' (A + 38) k = f (A + 38) k) → f' (A + 38) 5 = nI (i + cnt isLt tp n i) → LpX9_takeWord_58 l G d Q sh fR A p q f' g (nI (P + 32 ^ j * packC (ltrs tp n i)))) → LpX9_takeWord_4 l G d Q sh fR A p q f g (nI P) (nI j) := by
  intro n
  induction n with
  | zero =>
    intro j i P hn hP hi f hC h5 H
    have hj : j = 6 := by omega
    subst hj
    refine VX9_takeWord_4 h9.1 h9.2.1 h9.2.2.1 h9.2.2.2 ⟨fun _ => ?_, fun c => absurd (nI_le (Nat.le_refl _) (by decide)) c⟩
    have := H f Fa.rf (fun _ _ => rfl) h5
    unfold ltrs packC at this
    exact this
  | succ n ih =>
    intro j i P hn hP hi f hC h5 H
    refine VX9_takeWord_4 h9.1 h9.2.1 h9.2.2.1 h9.2.2.2 ⟨fun c => absurd c (nI_ge (by omega) (by decide)), fun _ => ?_⟩
    rw [h5]
    refine K_isLt h9 hC hi (bI_cs (fun c => ?_) (fun c => ?_))
    · have := H f Fa.rf (fun _ _ => rfl) (by unfold cnt; rw [c]; exact h5)
      unfold ltrs at this
      rw [c] at this
      exact this
    · have hi2 := in_of (P := isLt) (by decide) c
      have c0 := isLt_i.mp c
      refine ⟨by rw [h5]; exact inbN (by have := hC.2.1; omega) (by decide), fun w hw => ?_⟩
      rw [h5, clN (by have := hC.2.1; omega), hC.2.2.1 i hi2, pk_sub c0.1, nI_add, show bt tp i - 97 + 1 = bt tp i - 96 by omega, pk_pack (by omega) hP (by omega)] at hw
      rw [hw, h5, nI_add, nI_add]
      have hP' : P + 32 ^ j * (bt tp i - 96) < 32 ^ (j + 1) := by
        have : 32 ^ j * (bt tp i - 96) ≤ 32 ^ j * 31 := Nat.mul_le_mul_left _ (by omega)
        rw [Nat.pow_succ]; omega
      have hF : Fa A f (up2 f (A + 38) 5 (nI (i + 1))) := Fa.rf.up (Or.inl rfl)
      refine ih (j + 1) (i + 1) _ (by omega) hP' (by omega) _ (hC.ft hF.ft) up2_eq (fun f' e1 e2 e3 => ?_)
      have := H f' (hF.tr e1) (fun k hk => by rw [e2 k hk, up2_k hk]) (by rw [e3, cnt_t c]; congr 1; omega)
      unfold ltrs at this
      rw [if_pos c, packC] at this
      rw [show P + 32 ^ j * (bt tp i - 96) + 32 ^ (j + 1) * packC (ltrs tp n (i + 1)) = P + 32 ^ j * (bt tp i - 96 + 32 * packC (ltrs tp n (i + 1))) by rw [Nat.mul_add, Nat.pow_succ, Nat.mul_assoc]; omega]
      exact this
/-- the own word that it is -/
theorem L_own {Q : Option Value → Hp → Prop} (h9 : R9 sh fR A p q) {w : List Nat} (hw : ∀ c ∈ w, 1 ≤ c ∧ c ≤ 26) (hl : w.length ≤ 6) : ∀ n k, n + k = 29 → ∀ f, POw f A → f (A + 38) 14 = oI (ownF w k) → (∀ f', Fa A f f' → (∀ k, k ≠ 14 → f' (A + 38) k = f (A + 38) k) → f' (A + 38) 14 = oI (ownI w) → Q none (sh, f', g, (up2 fR (A + 38) 7 (some q)))) → LpX9_takeWord_98 l G d Q sh fR A p q f g (nI (packC w)) (nI k) := by
  have hp6 : packC w < 2 ^ 31 := by
    have h1 := packC_l32 w (fun c hc => by have := hw c hc; omega)
    have h2 : 32 ^ w.length ≤ 32 ^ 6 := Nat.pow_le_pow_right (by decide) hl
    have h3 : (32 : Nat) ^ 6 = 1073741824 := by decide
    omega
  intro n
  induction n with
  | zero =>
    intro k hn f hO h14 H
    have hk : k = 29 := by omega
    subst hk
    exact VX9_takeWord_98 h9.1 h9.2.1 h9.2.2.1 h9.2.2.2 ⟨fun _ => H f Fa.rf (fun _ _ => rfl) h14, fun c => absurd (nI_le (Nat.le_refl _) (by decide)) c⟩
  | succ n ih =>
    intro k hn f hO h14 H
    refine VX9_takeWord_98 h9.1 h9.2.1 h9.2.2.1 h9.2.2.2 ⟨fun c => absurd c (nI_ge (by omega) (by decide)), fun _ => ⟨inbN (by omega) (by decide), ?_⟩⟩
    have ho := packC_ow k (by omega)
    rw [clN (by omega), hO k _ (ow_own (by omega)), nI_eq (by omega) hp6]
    have hi : packC (ow k) = packC w ↔ ow k = w := ⟨fun h => packC_inj (ow_mem k (by omega)) hw h, fun h => by rw [h]⟩
    rw [hi]
    refine ⟨fun c => VX9_takeWord_119 h9.1 h9.2.1 h9.2.2.1 h9.2.2.2 ?_, fun c => VX9_takeWord_119 h9.1 h9.2.1 h9.2.2.1 h9.2.2.2 ?_⟩
    · rw [nI_add]
      exact ih (k + 1) (by omega) f hO (by unfold ownF; rw [if_neg c]; exact h14) H
    · rw [nI_add]
      have hF : Fa A f (up2 f (A + 38) 14 (nI k)) := Fa.rf.up (Or.inr (by decide))
      refine ih (k + 1) (by omega) _ (fun j o hj => by rw [hF _ _ (by omega)]; exact hO j o hj) (by unfold ownF; rw [if_pos c, up2_eq]; rfl) (fun f' e1 e2 e3 => H f' (hF.tr e1) (fun j hj => by rw [e2 j hj, up2_k hj]) e3)
theorem K_takeWord {K : FI → FL → Prop} {s : Nat} (h9 : R9 sh fR A p q) (hC : CK f A tp) (h5 : f (A + 38) 5 = nI s) (hs : s ≤ tp.length) (H : ∀ f', Fa A f f' → f' (A + 38) 11 = f (A + 38) 11 → f' (A + 38) 5 = nI (s + cnt isLt tp 6 s) → f' (A + 38) 10 = nI (if isLt (bt tp (s + cnt isLt tp 6 s)) then 4 else 1) → f' (A + 38) 12 = nI (s + cnt isLt tp 6 s) → f' (A + 38) 13 = nI (packC (ltrs tp 6 s)) → f' (A + 38) 14 = oI (ownI (ltrs tp 6 s)) → K f' g) : Cl l G (d + 1) 0 0 mX9_takeWord [.ref (A + 38)] (sh, f, g, (up2 fR (A + 38) 7 (some q))) (qv sh (up2 fR (A + 38) 7 (some q)) K) := by
  refine VX9_takeWord h9.1 h9.2.1 h9.2.2.1 h9.2.2.2 ?_
  refine L_word (a3 := 0) h9 6 0 s 0 rfl (by decide) hs f hC h5 (fun f1 e1 e2 e3 => ?_)
  rw [show 0 + 32 ^ 0 * packC (ltrs tp 6 s) = packC (ltrs tp 6 s) by simp]
  refine VX9_takeWord_58 h9.1 h9.2.1 h9.2.2.1 h9.2.2.2 ?_
  have hC1 := hC.ft e1.ft
  rw [e3]
  have key : ∀ v : Nat, (v = if isLt (bt tp (s + cnt isLt tp 6 s)) then 4 else 1) → LpX9_takeWord_98 l G d (qv sh (up2 fR (A + 38) 7 (some q)) K) sh fR A p q (up2 (up2 (up2 (up2 f1 (A + 38) 10 (nI v)) (A + 38) 12 (nI (s + cnt isLt tp 6 s))) (A + 38) 13 (nI (packC (ltrs tp 6 s)))) (A + 38) 14 (-1)) g (nI (packC (ltrs tp 6 s))) (nI 0) := by
    intro v hv
    have hF : Fa A f1 (up2 (up2 (up2 (up2 f1 (A + 38) 10 (nI v)) (A + 38) 12 (nI (s + cnt isLt tp 6 s))) (A + 38) 13 (nI (packC (ltrs tp 6 s)))) (A + 38) 14 (-1)) := (((Fa.rf.up (Or.inr (by decide))).up (Or.inr (by decide))).up (Or.inr (by decide))).up (Or.inr (by decide))
    refine L_own h9 (ltrs_mem 6 s) (by rw [ltrs_len]; exact cnt_le _ _) 29 0 rfl _ (hC1.ft hF.ft).2.2.2.2 up2_eq (fun f' d1 d2 d3 => ⟨_, _, rfl, rfl, H f' ((e1.tr hF).tr d1) ?_ ?_ ?_ ?_ ?_ d3⟩)
    · rw [d2 _ (by decide), up2_k (by decide), up2_k (by decide), up2_k (by decide), up2_k (by decide), e2 _ (by decide)]
    · rw [d2 _ (by decide), up2_k (by decide), up2_k (by decide), up2_k (by decide), up2_k (by decide), e3]
    · rw [d2 _ (by decide), up2_k (by decide), up2_k (by decide), up2_k (by decide), up2_eq, hv]
    · rw [d2 _ (by decide), up2_k (by decide), up2_k (by decide), up2_eq]
    · rw [d2 _ (by decide), up2_k (by decide), up2_eq]
  refine K_isLt h9 hC1 (cnt_len (by decide) _ _ hs) (bI_cs (fun c => ?_) (fun c => ?_))
  · rw [e3]; exact key 1 (by rw [c]; rfl)
  · rw [e3]; exact key 4 (by rw [if_pos c])
theorem L_num {Q : Option Value → Hp → Prop} (h9 : R9 sh fR A p q) : ∀ n j i v, n + j = 4 → i ≤ tp.length → ∀ f, CK f A tp → f (A + 38) 5 = nI i → f (A + 38) 13 = nI v → (∀ f', Fa A f f' → f' (A + 38) 11 = f (A + 38) 11 → f' (A + 38) 5 = nI (i + cnt isDg tp n i) → f' (A + 38) 13 = nI (dgs tp n i v) → LpX9_takeNumber_63 l G d Q sh fR A p q f' g) → LpX9_takeNumber_7 l G d Q sh fR A p q f g (nI j) := by
  intro n
  induction n with
  | zero =>
    intro j i v hn hi f hC h5 h13 H
    have hj : j = 4 := by omega
    subst hj
    exact VX9_takeNumber_7 h9.1 h9.2.1 h9.2.2.1 h9.2.2.2 ⟨fun _ => H f Fa.rf rfl h5 h13, fun c => absurd (nI_le (Nat.le_refl _) (by decide)) c⟩
  | succ n ih =>
    intro j i v hn hi f hC h5 h13 H
    refine VX9_takeNumber_7 h9.1 h9.2.1 h9.2.2.1 h9.2.2.2 ⟨fun c => absurd c (nI_ge (by omega) (by decide)), fun _ => ?_⟩
    rw [h5]
    refine K_isDg h9 hC hi (bI_cs (fun c => ?_) (fun c => ?_))
    · exact H f Fa.rf rfl (by unfold cnt; rw [c]; exact h5) (by unfold dgs; rw [c]; exact h13)
    · have hi2 := in_of (P := isDg) (by decide) c
      have c0 := isDg_i.mp c
      refine ⟨by rw [h5]; exact inbN (by have := hC.2.1; omega) (by decide), ?_⟩
      rw [h5, clN (by have := hC.2.1; omega), hC.2.2.1 i hi2, h13, pk_mul, nI_add, pk_sub (by omega), nI_add, nI_add]
      have hF : Fa A f (up2 (up2 f (A + 38) 13 (nI (10 * v + bt tp i - 48))) (A + 38) 5 (nI (i + 1))) := (Fa.rf.up (Or.inr (by decide))).up (Or.inl rfl)
      refine ih (j + 1) (i + 1) (10 * v + bt tp i - 48) (by omega) (by omega) _ (hC.ft hF.ft) up2_eq ((up2_k (by decide)).trans up2_eq) (fun f' e1 e2 e3 e4 => ?_)
      refine H f' (hF.tr e1) (by rw [e2, up2_k (by decide), up2_k (by decide)]) (by rw [e3, cnt_t c]; congr 1; omega) (by rw [e4]; conv => rhs; unfold dgs; rw [if_pos c])
theorem K_takeNumber {K : FI → FL → Prop} {s : Nat} (h9 : R9 sh fR A p q) (hC : CK f A tp) (h5 : f (A + 38) 5 = nI s) (hs : s ≤ tp.length) (H : ∀ f', Fa A f f' → f' (A + 38) 11 = f (A + 38) 11 → f' (A + 38) 5 = nI (s + cnt isDg tp 4 s) → f' (A + 38) 10 = nI (if isDg (bt tp (s + cnt isDg tp 4 s)) then 4 else 2) → f' (A + 38) 12 = nI (s + cnt isDg tp 4 s) → f' (A + 38) 13 = nI (dgs tp 4 s 0) → K f' g) : Cl l G (d + 1) 0 0 mX9_takeNumber [.ref (A + 38)] (sh, f, g, (up2 fR (A + 38) 7 (some q))) (qv sh (up2 fR (A + 38) 7 (some q)) K) := by
  refine VX9_takeNumber h9.1 h9.2.1 h9.2.2.1 h9.2.2.2 ?_
  have hF0 : Fa A f (up2 f (A + 38) 13 (nI 0)) := Fa.rf.up (Or.inr (by decide))
  refine L_num h9 4 0 s 0 rfl hs _ (hC.ft hF0.ft) ((up2_k (by decide)).trans h5) up2_eq (fun f1 e1 e2 e3 e4 => ?_)
  refine VX9_takeNumber_63 h9.1 h9.2.1 h9.2.2.1 h9.2.2.2 ?_
  have hC1 := hC.ft (hF0.tr e1).ft
  rw [e3]
  refine K_isDg h9 hC1 (cnt_len (by decide) _ _ hs) (bI_cs (fun c => ?_) (fun c => ?_))
  · rw [e3]
    refine ⟨_, _, rfl, rfl, H _ (((hF0.tr e1).up (Or.inr (by decide))).up (Or.inr (by decide))) ?_ ?_ ?_ up2_eq ?_⟩
    · rw [up2_k (by decide), up2_k (by decide), e2, up2_k (by decide)]
    · rw [up2_k (by decide), up2_k (by decide), e3]
    · rw [up2_k (by decide), up2_eq, c]; rfl
    · rw [up2_k (by decide), up2_k (by decide), e4]
  · rw [e3]
    refine ⟨_, _, rfl, rfl, H _ (((hF0.tr e1).up (Or.inr (by decide))).up (Or.inr (by decide))) ?_ ?_ ?_ up2_eq ?_⟩
    · rw [up2_k (by decide), up2_k (by decide), e2, up2_k (by decide)]
    · rw [up2_k (by decide), up2_k (by decide), e3]
    · rw [up2_k (by decide), up2_eq, if_pos c]
    · rw [up2_k (by decide), up2_k (by decide), e4]
end TKC
