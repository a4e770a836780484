/-! trials of the reference -/
def sx (T : Tk) (x : Nat) : Tk := (T.1, T.2.1, T.2.2.1, T.2.2.2.1, x)
section MX
variable {π : Pl} {win : Nat} {dl : Nat → Nat}
theorem sx_1 (T : Tk) (x : Nat) : (sx T x).1 = T.1 := rfl
theorem sendS_sx (T : Tk) (x p frm many : Nat) : sendS π dl false (sx T x) p frm many = sx (sendS π dl false T p frm many) x := by
  unfold sendS sx
  simp
theorem sendsS_sx (x : Nat) : ∀ (n : Nat) (T : Tk), sendsS π dl false n (sx T x) = (sx (sendsS π dl false n T).1 x, (sendsS π dl false n T).2)
  | 0, _ => rfl
  | n + 1, T => by
    unfold sendsS
    simp only [sx_1, sendS_sx]
    by_cases h : T.1.2.2.2.1 = [] ∧ minS (T.1.1 3) (π.1 1) ≤ T.1.1 1
    · rw [if_pos h, if_pos h]
    · rw [if_neg h, if_neg h]
      cases hp : pickS π dl T.1 none with
      | none => rfl
      | some pv =>
        dsimp only
        cases hq : T.1.2.2.2.1 with
        | nil => exact sendsS_sx x n (wsc (sendS π dl false T pv.1 (T.1.1 1) (minS (π.1 2) (minS (T.1.1 3) (π.1 1) - T.1.1 1))).1 1 ((sendS π dl false T pv.1 (T.1.1 1) (minS (π.1 2) (minS (T.1.1 3) (π.1 1) - T.1.1 1))).1.1 1 + minS (π.1 2) (minS (T.1.1 3) (π.1 1) - T.1.1 1)), (sendS π dl false T pv.1 (T.1.1 1) (minS (π.1 2) (minS (T.1.1 3) (π.1 1) - T.1.1 1))).2)
        | cons q ps => exact sendsS_sx x n (wpc (sendS π dl false T pv.1 q.1 q.2).1 ps, (sendS π dl false T pv.1 q.1 q.2).2)
theorem penS_sx (T : Tk) (x : Nat) : penS π dl false (sx T x) = (penS π dl false T).map (fun T => sx T x) := by
  unfold penS
  simp only [sx_1, sendS_sx]
  by_cases h : T.1.1 1 = T.1.1 3 ∧ T.1.1 1 < π.1 1
  · rw [if_pos h, if_pos h]
    cases blockS T.1 with
    | none => rfl
    | some k =>
      dsimp only
      cases T.1.2.2.1[k]? with
      | none => rfl
      | some s =>
        dsimp only
        cases pickS π dl T.1 (some s.1) with
        | none => rfl
        | some pv => rfl
  · rw [if_neg h, if_neg h]
    rfl
theorem tickS_sx (w : Wd) (x : Nat) : tickS π win dl false w x = sx (tickS π win dl false w 0) x := by
  have hx : ∀ w : Wd, ((w, 0, 0, false, x) : Tk) = sx (w, 0, 0, false, 0) x := fun _ => rfl
  unfold tickS
  dsimp only
  rw [hx, sendsS_sx]
  dsimp only
  split
  · rw [penS_sx]
    split
    · rename_i T hT
      split
      · rename_i T2 hT2
        rw [hT2] at hT
        cases hT
        rfl
      · rename_i hT2
        rw [hT2] at hT
        cases hT
    · rename_i hT
      split
      · rename_i T2 hT2
        rw [hT2] at hT
        cases hT
      · rfl
  · rfl
end MX
def gY (π : Pl) (w : Wd) : Prop := w.1 0 ≤ 1000 ∧ WI π (400 * w.1 0) (w.1 0) (fun _ => w.1 0) (w.1 0) w
theorem gW.y {π : Pl} {w : Wd} (h : gW π w) : gY π w := ⟨Nat.le_trans h.1 (by decide), h.2.1⟩
/-- what a trial writes -/
def FrU (B : Nat) (f f' : FI) : Prop := ∀ r k, ¬ lyr B 1 r k → r ≠ B + 31 → r ≠ B + 32 → r ≠ B + 33 → r ≠ B + 37 → ¬ (r = B ∧ (k = 57 ∨ k = 59 ∨ k = 61 ∨ k = 62 ∨ k = 63)) → f' r k = f r k
def FrG (B : Nat) (g g' : FL) : Prop := (∀ k, g' (B + 15) k = g (B + 15) k) ∧ g' B 51 = g B 51
section MT
variable {l : Launch} {G : Gx} {d : Nat} {sh : Sh} {fR : FRt} {B b win v : Nat} {f f' f'' : FI} {g g' g'' : FL} {Z : Zs} {π : Pl} {dl : Nat → Nat} {w : Wd} {q : Td}
theorem FrU.rf : FrU B f f := fun _ _ _ _ _ _ _ _ => rfl
theorem FrU.tr (h : FrU B f f') (h' : FrU B f' f'') : FrU B f f'' := fun r k a b c d e i => (h' r k a b c d e i).trans (h r k a b c d e i)
theorem FrG.rf : FrG B g g := ⟨fun _ => rfl, rfl⟩
theorem FrG.tr (h : FrG B g g') (h' : FrG B g' g'') : FrG B g g'' := ⟨fun k => (h'.1 k).trans (h.1 k), h'.2.trans h.2⟩
theorem FrU.m (h : MSt f g B Z) (e : FrU B f f') (eg : FrG B g g') : MSt f' g' B Z := by
  refine h.keep (fun r k z => e r k ?_ ?_ ?_ ?_ ?_ ?_) eg.1 eg.2
  · intro y
    unfold kpM at z
    rcases z with (z | z | z | z | z) | z | z | z
    · unfold lyr at y; omega
    · unfold lyr at y; omega
    · exact z.2.2 y
    · unfold lyr at y; omega
    · unfold lyr at y; omega
    · unfold lyr at y; omega
    · unfold lyr at y; omega
    · unfold lyr at y; omega
  all_goals (unfold kpM at z; omega)
theorem FrU.rq {y y' : Int32} (h : MSt f g B Z) (e : FrU B f f') (eg : FrG B g g') (ey : y = y') : RQ B sh fR f g Z y' (some (.int y)) (sh, f', g', fR) := by
  subst ey
  exact ⟨_, _, rfl, rfl, e.m h eg, fun r k z => e r k (by unfold lyr; omega) (by omega) (by omega) (by omega) (by omega) (by omega)⟩
theorem FrS.u (e : FrS B 1 f f') : FrU B f f' := fun r k a b c d _ i => e r k (by unfold tchS tchQ tch; unfold lyr at a; omega)
theorem FrL.u (e : FrL B g g') (e51 : g' B 51 = g B 51) : FrG B g g' := ⟨fun k => e _ _ (by omega) (by omega), e51⟩
theorem C_stepX {K : FI → FL → Prop} {x : Nat} (hs : StM sh fR B) (hv : v < 22) (hπ : πOK π) (hdl : ∀ p, p < π.1 6 → 1 ≤ dl p ∧ dl p ≤ 9) (hX : HM f B v π w) (hT : TM f B b π win dl) (hg : gY π w) (ht : w.1 0 < 1000) (h60 : f B 60 = bI false) (h51 : g B 51 = lN x) (hx : x < 2147483648) (H : ∀ (f' : FI) (g' : FL), HM f' B v π (tickS π win dl false w 0).1 → gY π (tickS π win dl false w 0).1 → (tickS π win dl false w 0).1.1 0 = w.1 0 + 1 → f' B 61 = nI (tickS π win dl false w 0).2.1 → (tickS π win dl false w 0).2.1 ≤ 1000 → f' B 63 = bI (tickS π win dl false w 0).2.2.2.1 → TM f' B b π win dl → f' B 60 = bI false → g' B 51 = lN x → FrS B v f f' → FrL B g g' → K f' g') : Cl l G (d + 6) 0 0 mX12_ticksOn [.ref B, .int (nI v)] (sh, f, g, fR) (qv sh fR K) := by
  obtain ⟨m, hR, hI⟩ := hX
  refine C_ticksOn hs hv hπ hdl hR hT hg.2 hI ht h60 h51 hx (fun f' g' m' c1 c2 c3 c4 c5 c6 c7 => ?_)
  rw [tickS_sx] at c1 c2 c3 c4 c5
  have c5' : (tickS π win dl false w 0).1.1 0 = w.1 0 + 1 := c5
  obtain ⟨k1, k2, -, k4, k5, -, k7⟩ := c2
  exact H f' g' ⟨m', c1, c4⟩ ⟨by rw [c5']; omega, by rw [c5']; exact c3⟩ c5' k2 k7 k4 (hT.frS c6) k1 k5 c6 c7
theorem C_try {K : FI → FL → Prop} (hs : StM sh fR B) (hX : HM f B 0 π w) (H : ∀ f' : FI, HM f' B 1 π w → FrU B f f' → (∀ r k, ¬ lyr B 1 r k → f' r k = f r k) → K f' g) : Cl l G (d + 1) 0 0 mX12_copies [.ref B, .int (nI 1), .int (nI 0)] (sh, f, g, fR) (qv sh fR K) := by
  obtain ⟨m, hR, hI⟩ := hX
  exact C_copies hs (by decide) (by decide) (by decide) hR (fun f' c e => H f' ⟨m, c, hI⟩ (fun r k a _ _ _ _ _ => e r k a) e)
theorem TM.u (h : TM f B b π win dl) (e : FrU B f f') : TM f' B b π win dl := by
  obtain ⟨h1, h2, h3, h4⟩ := h
  have e1 : ∀ j, 2 ≤ j → j ≤ 14 → ∀ i, f' (B + j) i = f (B + j) i := fun j a b i => e _ _ (by unfold lyr; omega) (by omega) (by omega) (by omega) (by omega) (by omega)
  exact ⟨h1.congr e1 (e _ _ (by unfold lyr; omega) (by omega) (by omega) (by omega) (by omega) (by omega)), by rw [e B 52 (by unfold lyr; omega) (by omega) (by omega) (by omega) (by omega) (by omega)]; exact h2, fun p hp => by rw [e (B + 29) p (by unfold lyr; omega) (by omega) (by omega) (by omega) (by omega) (by omega)]; exact h3 p hp, h4⟩
theorem C_ahead {K : Int32 → FI → FL → Prop} {a : Int32} {lo hi : Nat} (hs : StM sh fR B) (h : MSt f g B Z) (hz : zOK Z) (hlo : lo ≤ hi) (hhi : hi ≤ 200) (H1 : ∀ q n, Z.2.2.2.2 = some q → lo ≤ n → n ≤ hi → a = nI n → q.2.2.1.1 0 + n ≤ 999 → K (nI 1) f g) (H0 : (∀ q n, Z.2.2.2.2 = some q → a = nI n → n < 2 ^ 31 → lo ≤ n → n ≤ hi → 999 < q.2.2.1.1 0 + n) → K (nI 0) f g) : Cl l G (d + 1) 0 0 mX12_isAhead [.ref B, .int a, .int (nI lo), .int (nI hi)] (sh, f, g, fR) (qi sh fR K) := by
  refine VX12_isAhead hs ?_
  have h41 := h.2.2.2.2.1
  rw [h41]
  cases hq : Z.2.2.2.2 with
  | none => exact ⟨fun _ => ⟨_, _, _, rfl, rfl, H0 (fun q n e => by rw [hq] at e; cases e)⟩, fun c => absurd rfl c⟩
  | some q =>
    obtain ⟨b, hb, h13, t⟩ := h.td hq
    obtain ⟨m, hR, -⟩ := t.2.2.1
    have h0 := (hz.2.2.2.2 q hq).2.2.2.2.1.1
    have out : (∀ n, a = nI n → n < 2 ^ 31 → lo ≤ n → n ≤ hi → 999 < q.2.2.1.1 0 + n) → qi sh fR K (some (.int (nI 0))) (sh, f, g, fR) := fun ho => ⟨_, _, _, rfl, rfl, H0 (fun q' n e ea hn h1 h2 => by rw [hq] at e; cases e; exact ho n ea hn h1 h2)⟩
    refine ⟨fun c => absurd c (by show ¬ bI true = 0; decide), fun _ => VX12_is hs ⟨fun c => ⟨_, _, _, rfl, rfl, ⟨fun _ => out (fun n ea hn h1 h2 => ?_), fun c => absurd rfl c⟩⟩, fun c => ⟨fun c2 => ⟨_, _, _, rfl, rfl, ⟨fun _ => out (fun n ea hn h1 h2 => ?_), fun c => absurd rfl c⟩⟩, fun c2 => ⟨_, _, _, rfl, rfl, ⟨fun c => absurd c (by decide), fun _ => ?_⟩⟩⟩⟩⟩
    · rw [ea] at c
      have := (nI_ltI hn (by omega)).mp c
      omega
    · rw [ea] at c2
      have := (nI_ltI (by omega) hn).mp c2
      omega
    · have hle : a ≤ nI hi := Int32.not_lt.mp c2
      have hge : nI lo ≤ a := Int32.not_lt.mp c
      obtain ⟨n, hn, ea⟩ : ∃ n, n < hi + 1 ∧ a = nI n := by
        rcases pk_ix a (n := hi + 1) (by omega) with z | z | z
        · exact absurd (Int32.lt_of_lt_of_le z (nI_le (Nat.zero_le lo) (by omega))) (Int32.not_lt.mpr hge)
        · exact absurd (Int32.le_trans z hle) (nI_ge (by omega) (by omega))
        · exact z
      subst ea
      have hlo' : lo ≤ n := Nat.not_lt.mp (fun z => absurd hge (nI_ge z (by omega)))
      simp (disch := omega) only [pk_mul, nI_add, clN]
      rw [show f (B + 23) (40 * 0 + 0) = nI (q.2.2.1.1 0) from hR.1 0 (by unfold nset; omega), pk_sub (by omega)]
      refine ⟨inbN (by omega) (by decide), fun c3 => out (fun n' ea hn' h1 h2 => ?_), fun c3 => ⟨_, _, _, rfl, rfl, H1 q n hq hlo' (by omega) rfl ?_⟩⟩
      · have e : n = n' := (nI_eq (by omega) hn').mp ea
        have := (nI_ltI (by omega) (by omega)).mp c3
        omega
      · have : ¬ 999 - n < q.2.2.1.1 0 := fun z => c3 (nI_lt z (by omega))
        omega
end MT
