/-! the class' reader: statements -/
def CPr (f : FI) (p : Nat) (π : Pl) : Prop := CP f p π ∧ (∀ k, k < π.1 6 → f (p + 1) k = nI (packC (π.2.1 k))) ∧ ∀ k, k < 4 → π.1 6 ≤ k → f (p + 3) k = -1
def CL0 (f : FI) (A p : Nat) : Prop := f (A + 38) 9 = nI 0 ∧ f p 0 = nI 0 ∧ f p 5 = nI 0 ∧ f p 6 = nI 0 ∧ (∀ k, k < 4 → f (p + 3) k = -1) ∧ ∀ i, i < 4 → f (p + 5 + 3 * i) 2 = nI 0
def SC (f : FI) (A p : Nat) (tp : List Nat) (r : Rr (Nat × Pl)) : Prop := TS f A tp (rF r) ∧ match r with
  | .ok x => f (A + 38) 9 = nI 0 ∧ CPr f p x.2
  | .error _ => True
def Fz (A p : Nat) (f f' : FI) : Prop := ∀ r k, r ≠ A + 38 → ¬ (p ≤ r ∧ r < p + 17) → f' r k = f r k
def RP9 (sh : Sh) (fR : FRt) (A p q : Nat) : Prop := R9 sh fR A p q ∧ A + 4 ≤ p ∧ p + 17 ≤ A + 38
theorem Fz.rf {A p : Nat} {f : FI} : Fz A p f f := fun _ _ _ _ => rfl
theorem Fz.tr {A p : Nat} {f f' f'' : FI} (h : Fz A p f f') (h' : Fz A p f' f'') : Fz A p f f'' := fun r k a b => (h' r k a b).trans (h r k a b)
theorem Ft.fz {A p : Nat} {f f' : FI} (h : Ft A f f') : Fz A p f f' := fun r k a _ => h r k (fun z => a z.1)
theorem Fz.up {A p r k : Nat} {f f' : FI} {v : Int32} (h : Fz A p f f') (hr : p ≤ r ∧ r < p + 17) : Fz A p f (up2 f' r k v) := fun r' k' a b => by
  rw [up2_r (fun z => b (by omega))]
  exact h r' k' a b
section CST
variable {l : Launch} {G : Gx} {d : Nat} {sh : Sh} {fR : FRt} {A p q : Nat} {f f' : FI} {g : FL} {tp : List Nat} {e : Nat} {π : Pl}
theorem TS.kp {r : Rr Nat} (h : TS f A tp r) (e : ∀ r k, (r = A + 1 ∨ r = A + 38 ∨ r = A + 39) → f' r k = f r k) : TS f' A tp r := by
  obtain ⟨⟨c1, c2, c3, c4, c5⟩, h2⟩ := h
  refine ⟨⟨by rw [e _ _ (by omega)]; exact c1, c2, fun k hk => by rw [e _ _ (by omega)]; exact c3 k hk, c4, fun k o hk => by rw [e _ _ (by omega)]; exact c5 k o hk⟩, ?_⟩
  cases r with
  | error x =>
    obtain ⟨d1, d2, d3, d4, d5, n, d6, d7⟩ := h2
    exact ⟨by rw [e _ _ (by omega)]; exact d1, d2, d3, by rw [e _ _ (by omega)]; exact d4, d5, n, d6, by rw [e _ _ (by omega)]; exact d7⟩
  | ok x =>
    obtain ⟨d1, d2, t1, t2, t3, t4, t5, t6⟩ := h2
    refine ⟨by rw [e _ _ (by omega)]; exact d1, d2, by rw [e _ _ (by omega)]; exact t1, by rw [e _ _ (by omega)]; exact t2, by rw [e _ _ (by omega)]; exact t3, fun z => by rw [e _ _ (by omega)]; exact t4 z, fun z => by rw [e _ _ (by omega), e _ _ (by omega)]; exact t5 z, fun z => by rw [e _ _ (by omega)]; exact t6 z⟩
theorem CPr.kp (h : CPr f p π) (e : ∀ r k, p ≤ r → r < p + 17 → f' r k = f r k) : CPr f' p π := by
  obtain ⟨h1, h2, h3⟩ := h
  exact ⟨h1.keep (fun r k a b _ _ _ _ => e r k a b), fun k hk => by rw [e _ _ (by omega) (by omega)]; exact h2 k hk, fun k hk hk2 => by rw [e _ _ (by omega) (by omega)]; exact h3 k hk hk2⟩
theorem strD_eq {n1 n2 n3 n4 : Rr (Nat × Nat)} (h1 : n1 = bd (bd (.ok e) (exW tp 0)) (numD tp 1 200)) (h2 : n2 = bd (bd (rF n1) (exW tp 1)) (numD tp 1 20)) (h3 : n3 = bd (bd (rF n2) (exW tp 2)) (numD tp 10 99)) (h4 : n4 = bd (bd (rF n3) (exW tp 3)) (numD tp 0 999)) : strD tp e = bd n4 (fun y => .ok (y.1, pStr (vOf n1) (vOf n2) (vOf n3) y.2)) := by
  unfold strD
  refine (bd_as (r := exW tp 0 e) (k := numD tp 1 200)).symm.trans ?_
  rw [show bd (exW tp 0 e) (numD tp 1 200) = n1 from h1.symm]
  cases n1 with
  | error x => subst h2; subst h3; subst h4; rfl
  | ok y1 =>
    rw [bd_ok]
    refine (bd_as (r := exW tp 1 y1.1) (k := numD tp 1 20)).symm.trans ?_
    rw [show bd (exW tp 1 y1.1) (numD tp 1 20) = n2 from h2.symm]
    cases n2 with
    | error x => subst h3; subst h4; rfl
    | ok y2 =>
      rw [bd_ok]
      refine (bd_as (r := exW tp 2 y2.1) (k := numD tp 10 99)).symm.trans ?_
      rw [show bd (exW tp 2 y2.1) (numD tp 10 99) = n3 from h3.symm]
      cases n3 with
      | error x => subst h4; rfl
      | ok y3 =>
        rw [bd_ok]
        refine (bd_as (r := exW tp 3 y3.1) (k := numD tp 0 999)).symm.trans ?_
        rw [show bd (exW tp 3 y3.1) (numD tp 0 999) = n4 from h4.symm]
        rfl
theorem T_stream {K : FI → FL → Prop} (h9 : RP9 sh fR A p q) (hT : TS f A tp (.ok e)) (h0 : CL0 f A p) (H : ∀ f', SC f' A p tp (strD tp e) → Fz A p f f' → K f' g) : Cl l G (d + 4) 0 0 mX9_readStream [.ref (A + 38)] (sh, f, g, (up2 fR (A + 38) 7 (some q))) (qv sh (up2 fR (A + 38) 7 (some q)) K) := by
  obtain ⟨h9, hp1, hp2⟩ := h9
  refine VX9_readStream h9.1 h9.2.1 h9.2.2.1 h9.2.2.2 ?_
  refine K_exWord h9 hT (by decide) (fun f1 a1 t1 => ?_)
  refine K_exNum h9 t1 (by decide) (by decide) (fun f2 a2 t2 => ?_)
  obtain ⟨n1, hn1⟩ : ∃ n, n = bd (bd (.ok e) (exW tp 0)) (numD tp 1 200) := ⟨_, rfl⟩
  rw [← hn1] at t2 ⊢
  refine K_exWord h9 (t2.kp (f' := up2 f2 p 1 (nI (vOf n1))) (fun r k z => up2_r (by omega))) (by decide) (fun f3 a3 t3 => ?_)
  refine K_exNum h9 t3 (by decide) (by decide) (fun f4 a4 t4 => ?_)
  obtain ⟨n2, hn2⟩ : ∃ n, n = bd (bd (rF n1) (exW tp 1)) (numD tp 1 20) := ⟨_, rfl⟩
  rw [← hn2] at t4 ⊢
  refine K_exWord h9 (t4.kp (f' := up2 f4 p 2 (nI (vOf n2))) (fun r k z => up2_r (by omega))) (by decide) (fun f5 a5 t5 => ?_)
  refine K_exNum h9 t5 (by decide) (by decide) (fun f6 a6 t6 => ?_)
  obtain ⟨n3, hn3⟩ : ∃ n, n = bd (bd (rF n2) (exW tp 2)) (numD tp 10 99) := ⟨_, rfl⟩
  rw [← hn3] at t6 ⊢
  refine K_exWord h9 (t6.kp (f' := up2 f6 p 3 (nI (vOf n3))) (fun r k z => up2_r (by omega))) (by decide) (fun f7 a7 t7 => ?_)
  refine K_exNum h9 t7 (by decide) (by decide) (fun f8 a8 t8 => ?_)
  obtain ⟨n4, hn4⟩ : ∃ n, n = bd (bd (rF n3) (exW tp 3)) (numD tp 0 999) := ⟨_, rfl⟩
  rw [← hn4] at t8 ⊢
  have t9 := t8.kp (f' := up2 f8 p 4 (nI (vOf n4))) (fun r k z => up2_r (by omega))
  have hF : Fz A p f (up2 f8 p 4 (nI (vOf n4))) := ((((((((a1.tr a2).fz.up (by omega)).tr (a3.tr a4).fz).up (by omega)).tr (a5.tr a6).fz).up (by omega)).tr (a7.tr a8).fz).up (by omega))
  refine ⟨_, _, rfl, rfl, H _ ?_ hF⟩
  rw [strD_eq hn1 hn2 hn3 hn4]
  have b7 : ∀ r k, ¬ (r = A + 38 ∧ (k = 1 ∨ k = 2 ∨ k = 5 ∨ 10 ≤ k)) → f8 r k = up2 f6 p 3 (nI (vOf n3)) r k := fun r k z => (a8 r k z).trans (a7 r k z)
  have b5 : ∀ r k, ¬ (r = A + 38 ∧ (k = 1 ∨ k = 2 ∨ k = 5 ∨ 10 ≤ k)) → f6 r k = up2 f4 p 2 (nI (vOf n2)) r k := fun r k z => (a6 r k z).trans (a5 r k z)
  have b3 : ∀ r k, ¬ (r = A + 38 ∧ (k = 1 ∨ k = 2 ∨ k = 5 ∨ 10 ≤ k)) → f4 r k = up2 f2 p 1 (nI (vOf n1)) r k := fun r k z => (a4 r k z).trans (a3 r k z)
  have b1 : ∀ r k, ¬ (r = A + 38 ∧ (k = 1 ∨ k = 2 ∨ k = 5 ∨ 10 ≤ k)) → f2 r k = f r k := fun r k z => (a2 r k z).trans (a1 r k z)
  have old : ∀ r k, ¬ (r = A + 38 ∧ (k = 1 ∨ k = 2 ∨ k = 5 ∨ 10 ≤ k)) → ¬ (r = p ∧ 1 ≤ k ∧ k ≤ 4) → up2 f8 p 4 (nI (vOf n4)) r k = f r k := fun r k z z2 => by
    rw [up2_ne (by omega), b7 r k z, up2_ne (by omega), b5 r k z, up2_ne (by omega), b3 r k z, up2_ne (by omega), b1 r k z]
  cases n4 with
  | error x => exact ⟨t9, trivial⟩
  | ok y =>
    obtain ⟨c1, c2, c3, c4, c5, c6⟩ := h0
    have v1 : up2 f8 p 4 (nI (vOf (.ok y : Rr (Nat × Nat)))) p 1 = nI (vOf n1) := by
      rw [up2_k (by decide), b7 _ _ (by omega), up2_k (by decide), b5 _ _ (by omega), up2_k (by decide), b3 _ _ (by omega), up2_eq]
    have v2 : up2 f8 p 4 (nI (vOf (.ok y : Rr (Nat × Nat)))) p 2 = nI (vOf n2) := by
      rw [up2_k (by decide), b7 _ _ (by omega), up2_k (by decide), b5 _ _ (by omega), up2_eq]
    have v3 : up2 f8 p 4 (nI (vOf (.ok y : Rr (Nat × Nat)))) p 3 = nI (vOf n3) := by
      rw [up2_k (by decide), b7 _ _ (by omega), up2_eq]
    refine ⟨t9, by rw [old _ _ (by omega) (by omega)]; exact c1, ⟨fun i hi => ?_, fun k hk => absurd hk (Nat.not_lt_zero _), fun k hk => absurd hk (Nat.not_lt_zero _), fun i hi => ?_⟩, fun k hk => absurd hk (Nat.not_lt_zero _), fun k hk _ => by rw [old _ _ (by omega) (by omega)]; exact c5 k hk⟩
    · rcases (show i = 0 ∨ i = 1 ∨ i = 2 ∨ i = 3 ∨ i = 4 ∨ i = 5 ∨ i = 6 by omega) with rfl | rfl | rfl | rfl | rfl | rfl | rfl
      · rw [old _ _ (by omega) (by omega)]; exact c2
      · exact v1
      · exact v2
      · exact v3
      · exact up2_eq
      · rw [old _ _ (by omega) (by omega)]; exact c3
      · rw [old _ _ (by omega) (by omega)]; exact c4
    · show up2 f8 p 4 _ (p + 5 + 3 * i) 2 = nI 0
      rw [old _ _ (by omega) (by omega)]; exact c6 i hi
theorem K_pn0 {K : Int32 → FI → FL → Prop} {a1 : Int32} {n : Nat} (hP : StPl sh fR p) (h6 : f p 6 = nI n) (hn : n ≤ 4) (H : ∀ x, (x = -1 ∨ ∃ k, k < 4 ∧ x = nI k) → K x f g) : Cl l G d 0 0 mX6_pathNamed [.ref p, .int a1] (sh, f, g, fR) (qi sh fR K) := by
  refine VX6_pathNamed hP ?_
  have loop : ∀ j k, j + k = n → LpX6_pathNamed_2 l G d (qi sh fR K) sh fR p f g a1 (nI k) := by
    intro j
    induction j with
    | zero =>
      intro k hk
      refine VX6_pathNamed_2 hP ?_
      rw [h6]
      exact ⟨fun _ => ⟨_, _, _, rfl, rfl, H _ (Or.inl rfl)⟩, fun z => absurd (nI_le (by omega) (by omega)) z⟩
    | succ j ih =>
      intro k hk
      refine VX6_pathNamed_2 hP ?_
      rw [h6]
      refine ⟨fun z => absurd z (nI_ge (by omega) (by omega)), fun _ => ⟨inbN (by omega) (by decide), fun _ => ?_, fun _ => ⟨_, _, _, rfl, rfl, H _ (Or.inr ⟨k, by omega, rfl⟩)⟩⟩⟩
      rw [nI_add]
      exact ih (k + 1) (by omega)
  exact loop n 0 (by omega)
theorem packC_l31 {w : List Nat} (hw : ∀ c ∈ w, 1 ≤ c ∧ c ≤ 26) (hl : w.length ≤ 6) : packC w < 2 ^ 31 := by
  have h1 := packC_l32 w (fun c hc => by have := hw c hc; omega)
  have h2 : 32 ^ w.length ≤ 32 ^ 6 := Nat.pow_le_pow_right (by decide) hl
  have h3 : (32 : Nat) ^ 6 = 1073741824 := by decide
  omega
theorem K_pn {K : Int32 → FI → FL → Prop} {w : List Nat} (hP : StPl sh fR p) (hc : CPr f p π) (hs : xOK π) (hw : ∀ c ∈ w, 1 ≤ c ∧ c ≤ 26) (hl : w.length ≤ 6) (H : K (oI (pnS π w)) f g) : Cl l G d 0 0 mX6_pathNamed [.ref p, .int (nI (packC w))] (sh, f, g, fR) (qi sh fR K) := by
  refine VX6_pathNamed hP ?_
  have h6 : f p 6 = nI (π.1 6) := hc.1.1 6 (by decide)
  have h64 : π.1 6 ≤ 4 := hs.1.2.2.2.2.2.1
  have loop : ∀ j k, j + k = π.1 6 → K (oI (pnF π w j k)) f g → LpX6_pathNamed_2 l G d (qi sh fR K) sh fR p f g (nI (packC w)) (nI k) := by
    intro j
    induction j with
    | zero =>
      intro k hk H
      refine VX6_pathNamed_2 hP ?_
      rw [h6]
      exact ⟨fun _ => ⟨_, _, _, rfl, rfl, H⟩, fun z => absurd (nI_le (by omega) (by omega)) z⟩
    | succ j ih =>
      intro k hk H
      refine VX6_pathNamed_2 hP ?_
      obtain ⟨m1, m2, m3⟩ := hs.2 k (by omega)
      have hi : packC (π.2.1 k) = packC w ↔ π.2.1 k = w := ⟨fun h => packC_inj m3 hw h, fun h => by rw [h]⟩
      rw [h6, clN (by omega), hc.2.1 k (by omega), nI_eq (packC_l31 m3 m2) (packC_l31 hw hl), hi]
      unfold pnF at H
      refine ⟨fun z => absurd z (nI_ge (by omega) (by omega)), fun _ => ⟨inbN (by omega) (by decide), fun z => ?_, fun z => ?_⟩⟩
      · rw [if_neg z] at H
        rw [nI_add]
        exact ih (k + 1) (by omega) H
      · rw [if_pos z] at H
        exact ⟨_, _, _, rfl, rfl, H⟩
  exact loop (π.1 6) 0 (by omega) H
/-- the rest of a path's statement -/
theorem T_58 {K : FI → FL → Prop} {a1 : Int32} {n : Nat} {r : Rr Nat} (h9 : RP9 sh fR A p q) (hT : TS f A tp r) (h6 : f p 6 = nI n) (hn : n < 4) (H : ∀ f', TS f' A tp (rF (bd (bd r (exW tp 5)) (numD tp 1 9))) → f' p 6 = nI (n + 1) → f' (p + 1) n = a1 → f' (p + 2) n = nI (vOf (bd (bd r (exW tp 5)) (numD tp 1 9))) → (∀ r k, ¬ (r = A + 38 ∧ (k = 1 ∨ k = 2 ∨ k = 5 ∨ 10 ≤ k)) → ¬ (r = p ∧ k = 6) → ¬ (r = p + 1 ∧ k = n) → ¬ (r = p + 2 ∧ k = n) → f' r k = f r k) → K f' g) : LpX9_readPath_58 l G d (qv sh (up2 fR (A + 38) 7 (some q)) K) sh fR A p q f g a1 := by
  obtain ⟨h9, hp1, hp2⟩ := h9
  refine VX9_readPath_58 h9.1 h9.2.1 h9.2.2.1 h9.2.2.2 ?_
  refine K_exWord h9 hT (by decide) (fun f1 b1 t1 => ?_)
  have h61 : f1 p 6 = nI n := by rw [b1 _ _ (by omega)]; exact h6
  rw [h61, clN (by omega)]
  refine ⟨inbN hn (by decide), ?_⟩
  refine K_exNum h9 (t1.kp (f' := up2 f1 (p + 1) n a1) (fun r k z => up2_r (by omega))) (by decide) (by decide) (fun f2 b2 t2 => ⟨inbN hn (by decide), ⟨_, _, rfl, rfl, ?_⟩⟩)
  have h62 : f2 p 6 = nI n := by rw [b2 _ _ (by omega), up2_r (by omega)]; exact h61
  rw [h62, nI_add]
  refine H _ (t2.kp (fun r k z => by rw [up2_r (by omega), up2_r (by omega)])) up2_eq ?_ ?_ (fun r k z z1 z2 z3 => ?_)
  · rw [up2_r (by omega), up2_r (by omega), b2 _ _ (by omega), up2_eq]
  · rw [up2_r (by omega), up2_eq]
  · rw [up2_ne z1, up2_ne z3, b2 r k z, up2_ne z2, b1 r k z]
theorem T_path {K : FI → FL → Prop} (h9 : RP9 sh fR A p q) (hS : SC f A p tp (.ok (e, π))) (hs : xOK π) (hw : isW tp e 4 = true) (H : ∀ f', SC f' A p tp (pthD tp π e) → Fz A p f f' → K f' g) : Cl l G (d + 4) 0 0 mX9_readPath [.ref (A + 38)] (sh, f, g, (up2 fR (A + 38) 7 (some q))) (qv sh (up2 fR (A + 38) 7 (some q)) K) := by
  have h9' := h9
  obtain ⟨h9, hp1, hp2⟩ := h9
  obtain ⟨hT, ho, hc⟩ := hS
  have hT : TS f A tp (.ok e) := hT
  have hc : CPr f p π := hc
  have hK := (isW_K hw).1
  have h6 : f p 6 = nI (π.1 6) := hc.1.1 6 (by decide)
  have h64 : π.1 6 ≤ 4 := hs.1.2.2.2.2.2.1
  have hl := hT.len
  have hPl := h9.2.2.1.fR7 (z := A + 38) (o := some q) (by omega)
  refine VX9_readPath h9.1 h9.2.1 h9.2.2.1 h9.2.2.2 ?_
  rw [h6, nI_ltI (by omega) (by decide)]
  unfold pthD at H
  refine ⟨fun c4 => ?_, fun c4 => ?_⟩
  · rw [if_neg (by omega)] at H
    refine K_advR h9 hT (fun e' he => by cases he; omega) (fun f1 a1 t1 => ?_)
    have t1 : TS f1 A tp (.ok (tkE tp e)) := t1
    intro w4 hw4 w6 hw6
    have h61 : f1 p 6 = nI (π.1 6) := by rw [a1 _ _ (by omega)]; exact h6
    have hc1 : CPr f1 p π := hc.kp (fun r k x y => a1 _ _ (by omega))
    refine K_exName h9 t1 (fun f2 a2 t2 => ?_)
    have hc2 : CPr f2 p π := hc1.kp (fun r k x y => a2 _ _ (by omega))
    have h62 : f2 p 6 = nI (π.1 6) := hc2.1.1 6 (by decide)
    have hF2 : Fz A p f f2 := (a1.ft.tr a2).fz
    have o2 : f2 (A + 38) 9 = nI 0 := by rw [a2 _ _ (by omega), a1 _ _ (by omega)]; exact ho
    have t2 : TS f2 A tp (exN tp (tkE tp e)) := t2
    have hse := tkS_le t1.2.2.1
    have fin : ∀ f3 x, Fz A p f f3 → f3 p 6 = nI (π.1 6) → TS f3 A tp (.error x) → (bd (exN tp (tkE tp e)) (fun e2 => if (pnS π (tkW tp (tkE tp e))).isSome then .error (2, tkS tp (tkE tp e)) else bd (exW tp 5 e2) (fun e3 => bd (numD tp 1 9 e3) (fun n => .ok (n.1, pAdd π (tkW tp (tkE tp e)) n.2)))) : Rr (Nat × Pl)) = .error x → LpX9_readPath_58 l G d (qv sh (up2 fR (A + 38) 7 (some q)) K) sh fR A p q f3 g w4 := by
      intro f3 x b1 b2 b3 hx
      rw [hx] at H
      refine T_58 h9' b3 b2 c4 (fun f4 d1 d2 d3 d4 d5 => H f4 ⟨d1, trivial⟩ (b1.tr (fun r k z z2 => d5 r k (fun y => z y.1) (by omega) (by omega) (by omega))))
    cases hx : exN tp (tkE tp e) with
    | error x =>
      rw [hx] at t2 fin
      refine K_pn0 hPl h62 h64 (fun y _ => ⟨fun _ => fin f2 x hF2 h62 t2 rfl, fun _ => ?_⟩)
      refine K_blame (k := 2) (pl := 0) h9 t2 (by decide) (fun e z => by cases z) (fun f3 b1 b2 => fin f3 x (hF2.tr b1.fz) (by rw [b1 _ _ (by omega)]; exact h62) b2 rfl)
    | ok e2 =>
      rw [hx] at t2 fin H
      obtain ⟨m1, m2, m3, m4⟩ := exN_ok hx t1.2.2.1
      have m5 := isNm_K m1
      have hw4' : w4 = nI (packC (tkW tp (tkE tp e))) := by rw [hw4]; exact (t1.2.2.2.2.2.2.2.1 m5.1).1
      have hw6' : w6 = nI (tkS tp (tkE tp e)) := by rw [hw6]; exact t1.2.2.2.2.2.1
      rw [bd_ok] at H fin
      rw [hw4']
      rw [hw4'] at fin
      refine K_pn hPl hc2 hs tkW_mem tkW_len ?_
      rw [oI_none (fun k hk => by have := (pnS_in hk).1; omega)]
      refine ⟨fun z => ?_, fun z => ?_⟩
      · rw [z] at H
        refine T_58 h9' t2 h62 c4 (fun f3 d1 d2 d3 d4 d5 => H f3 ?_ (hF2.tr (fun r k z z2 => d5 r k (fun y => z y.1) (by omega) (by omega) (by omega))))
        have eq : (if (none : Option Nat).isSome then .error (2, tkS tp (tkE tp e)) else bd (exW tp 5 e2) (fun e3 => bd (numD tp 1 9 e3) (fun n => .ok (n.1, pAdd π (tkW tp (tkE tp e)) n.2))) : Rr (Nat × Pl)) = bd (bd (bd (.ok e2) (exW tp 5)) (numD tp 1 9)) (fun n => .ok (n.1, pAdd π (tkW tp (tkE tp e)) n.2)) := by
          rw [bd_ok, bd_as]; rfl
        rw [eq]
        cases hy : bd (bd (.ok e2) (exW tp 5)) (numD tp 1 9) with
        | error y => rw [hy] at d1; exact ⟨d1, trivial⟩
        | ok y =>
          rw [hy] at d1 d4
          refine ⟨d1, by rw [d5 _ _ (by omega) (by omega) (by omega) (by omega)]; exact o2, ⟨fun i hi => ?_, fun k hk => ?_, fun k hk => ?_, fun i hi => ?_⟩, fun k hk => ?_, fun k hk hk2 => ?_⟩
          · show f3 p i = nI (fu π.1 6 (π.1 6 + 1) i)
            by_cases z6 : i = 6
            · rw [z6, fu_eq]; exact d2
            · rw [fu_ne z6, d5 _ _ (by omega) (by omega) (by omega) (by omega)]; exact hc2.1.1 i hi
          · have hk : k < π.1 6 + 1 := hk
            show f3 (p + 2) k = nI (fu π.2.2.1 (π.1 6) y.2 k)
            by_cases z6 : k = π.1 6
            · rw [z6, fu_eq]; exact d4
            · rw [fu_ne z6, d5 _ _ (by omega) (by omega) (by omega) (by omega)]; exact hc2.1.2.1 k (by omega)
          · have hk : k < π.1 6 + 1 := hk
            show CPj f3 p k (fu π.2.2.2.1 (π.1 6) none k)
            by_cases z6 : k = π.1 6
            · rw [z6, fu_eq]
              show f3 (p + 3) (π.1 6) = -1
              rw [d5 _ _ (by omega) (by omega) (by omega) (by omega)]; exact hc2.2.2 _ (by omega) (Nat.le_refl _)
            · rw [fu_ne z6]
              have := hc2.1.2.2.1 k (by omega)
              unfold CPj at this ⊢
              rw [d5 _ _ (by omega) (by omega) (by omega) (by omega), d5 _ _ (by omega) (by omega) (by omega) (by omega)]
              exact this
          · have := hc2.1.2.2.2 i hi
            show CPf f3 (p + 5 + 3 * i) (π.2.2.2.2 i)
            unfold CPf at this ⊢
            cases hf : π.2.2.2.2 i with
            | none =>
              rw [hf] at this
              show f3 (p + 5 + 3 * i) 2 = nI 0
              rw [d5 _ _ (by omega) (by omega) (by omega) (by omega)]; exact this
            | some ops =>
              rw [hf] at this
              exact FmC.congr this (fun k => d5 _ _ (by omega) (by omega) (by omega) (by omega)) (fun k => d5 _ _ (by omega) (by omega) (by omega) (by omega))
          · have hk : k < π.1 6 + 1 := hk
            show f3 (p + 1) k = nI (packC (fu π.2.1 (π.1 6) (tkW tp (tkE tp e)) k))
            by_cases z6 : k = π.1 6
            · rw [z6, fu_eq]; exact d3
            · rw [fu_ne z6, d5 _ _ (by omega) (by omega) (by omega) (by omega)]; exact hc2.2.1 k (by omega)
          · have hk2 : π.1 6 + 1 ≤ k := hk2
            rw [d5 _ _ (by omega) (by omega) (by omega) (by omega)]; exact hc2.2.2 k hk (by omega)
      · obtain ⟨v, hv⟩ : ∃ v, pnS π (tkW tp (tkE tp e)) = some v := by
          cases hq : pnS π (tkW tp (tkE tp e)) with
          | none => exact absurd hq z
          | some v => exact ⟨v, rfl⟩
        refine K_blame (k := 2) (pl := tkS tp (tkE tp e)) h9 t2 (by decide) (fun e z => ⟨hw6', by omega⟩) (fun f3 b1 b2 => fin f3 (2, tkS tp (tkE tp e)) (hF2.tr b1.fz) (by rw [b1 _ _ (by omega)]; exact h62) b2 (by rw [hv]; rfl))
  · rw [if_pos (by omega)] at H
    have hse := tkS_le hT.2.2.1
    refine K_blame (k := 6) (pl := tkS tp e) h9 hT (by decide) (fun e' z => ⟨hT.2.2.2.2.2.1, by omega⟩) (fun f3 b1 b2 => ⟨_, _, rfl, rfl, H f3 ⟨b2, trivial⟩ b1.fz⟩)
end CST
