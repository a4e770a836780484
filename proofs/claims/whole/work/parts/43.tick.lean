/-! the reference's tick as a whole: from the failing paths on -/
section C12
variable {l : Launch} {G : Gx} {d : Nat} {sh : Sh} {fR : FRt} {B v b win : Nat} {f : FI} {g : FL} {w : Wd} {m : List (Nat × Nat)} {π : Pl} {dl : Nat → Nat} {k t h : Nat} {c : Nat → Nat}
theorem PI.clear (hP : PI π w m) : PI π (clearS w) m := by
  obtain ⟨p1, p2, p3⟩ := hP
  refine ⟨p1, p2, ?_⟩
  have : (w.2.2.1.filter stayS).countP (fun s => s.2.2.2.2.2.2.1) ≤ w.2.2.1.countP (fun s => s.2.2.2.2.2.2.1) := List.Sublist.countP_le List.filter_sublist
  show m.length + (w.2.2.1.filter stayS).countP _ ≤ 396
  omega
theorem dieS_1 (p : Nat) (w : Wd) : (dieS w p).1 = w.1 := by
  unfold dieS
  split <;> rfl
theorem failS_1 (p : Nat) (w : Wd) : (failS π dl w p).1 = w.1 := by
  unfold failS
  split
  · split
    · rfl
    · split
      · rfl
      · dsimp only
        split
        · rw [dieS_1]
          rfl
        · rfl
  · rfl
/-- after the last send, penalty or not -/
theorem pen_ok {T0 n : Nat} {T T' : Tk} {dr : Bool} (hπ : πOK π) (hdl : ∀ p, p < π.1 6 → 1 ≤ dl p ∧ dl p ≤ 9) (hJ : SJ π T0 (n + 1) T []) (hp : penS π dl dr T = some T') : WI π (400 * T0 + 400) (T0 + 1) (fun _ => T0 + 1) (T0 + 1) T'.1 ∧ PI π T'.1 [] ∧ T'.1.1 0 = T0 := by
  obtain ⟨hW, ⟨p1, p2, p3⟩, hst, h0, hn, hs⟩ := hJ
  unfold penS at hp
  split at hp
  · split at hp
    · cases hp
    · rename_i j hbl
      split at hp
      · cases hp
      · rename_i s hj
        split at hp
        · cases hp
        · rename_i p vv hpk
          cases hp
          obtain ⟨k1, k2, k3⟩ := pick_ok hpk
          obtain ⟨c1, c2, c3, c4, -⟩ := hW.2.2.1 s (List.mem_of_getElem? hj)
          have hW2 := hW.sent (dr := dr) (frm := s.2.2.1) (many := s.2.2.2.1) h0 hdl k1 k2 k3 c3 c4
          have hc := (hW2.2.1 s.1).2.2.1
          have hh : 1000 ≤ halfS ((sendS π dl dr T p s.2.2.1 s.2.2.2.1).1.2.1 s.1 2) ∧ halfS ((sendS π dl dr T p s.2.2.1 s.2.2.2.1).1.2.1 s.1 2) ≤ 99000 := by
            unfold halfS
            split <;> omega
          have hW3 := (hW2.cw (p := s.1) (x := halfS ((sendS π dl dr T p s.2.2.1 s.2.2.2.1).1.2.1 s.1 2)) hh.2 (fun _ => hh.1)).le (k' := 400 * T0 + 400) (c' := fun _ => T0 + 1) (h' := T0 + 1) (by omega) (fun _ => Nat.le_refl _) (Nat.le_refl _)
          refine ⟨hW3.cg (fun _ _ => rfl) rfl rfl rfl, ⟨fun y hy => (by cases hy), p2, ?_⟩, h0⟩
          have := fly_tot hW2 hπ
          show 0 + (sendS π dl dr T p s.2.2.1 s.2.2.2.1).1.2.2.1.countP _ ≤ 396
          omega
  · cases hp
def lastS (π : Pl) (dl : Nat → Nat) (dr : Bool) (w4 : Wd) (x : Nat) : Tk :=
  let r := sendsS π dl dr 400 (clearS (forN (π.1 6) (fun p w => failS π dl w p) w4), 0, 0, false, x)
  let T := if r.2 then (match penS π dl dr r.1 with
    | some T => T
    | none => r.1) else r.1
  (wsc T.1 0 (T.1.1 0 + 1), T.2)
def TkZ (f : FI) (g : FL) (B : Nat) (dr : Bool) (x : Nat) : Prop := f B 60 = bI dr ∧ f B 61 = nI 0 ∧ f B 62 = nI 0 ∧ f B 63 = bI false ∧ g B 51 = lN x ∧ x < 2147483648
theorem TkZ.fr {f f' : FI} {g g' : FL} {dr : Bool} {x : Nat} (h : TkZ f g B dr x) (e : Fr B v f f') (e2 : ∀ r k, r ≠ B + 30 → g' r k = g r k) : TkZ f' g' B dr x := by
  obtain ⟨k0, k1, k2, k3, k4, k5⟩ := h
  exact ⟨by rw [e _ _ (by unfold tch; omega)]; exact k0, by rw [e _ _ (by unfold tch; omega)]; exact k1, by rw [e _ _ (by unfold tch; omega)]; exact k2, by rw [e _ _ (by unfold tch; omega)]; exact k3, by rw [e2 _ _ (by omega)]; exact k4, k5⟩
theorem TkZ.frQ {f f' : FI} {g g' : FL} {dr : Bool} {x : Nat} (h : TkZ f g B dr x) (e : FrQ B v f f') (e2 : ∀ r k, r ≠ B + 30 → g' r k = g r k) : TkZ f' g' B dr x := by
  obtain ⟨k0, k1, k2, k3, k4, k5⟩ := h
  exact ⟨by rw [e _ _ (by unfold tchQ tch; omega)]; exact k0, by rw [e _ _ (by unfold tchQ tch; omega)]; exact k1, by rw [e _ _ (by unfold tchQ tch; omega)]; exact k2, by rw [e _ _ (by unfold tchQ tch; omega)]; exact k3, by rw [e2 _ _ (by omega)]; exact k4, k5⟩
theorem L_127 {K : FI → FL → Prop} {T0 x : Nat} {dr : Bool} (hs : StM sh fR B) (hv : v < 22) (hπ : πOK π) (hdl : ∀ p, p < π.1 6 → 1 ≤ dl p ∧ dl p ≤ 9) (hT0 : T0 < 1000)
    (H : ∀ (f' : FI) (g' : FL) (m' : List (Nat × Nat)), RM f' B v (lastS π dl dr w x).1 m' → TkR f' g' B dr (lastS π dl dr w x) → WI π (400 * (T0 + 1)) (T0 + 1) (fun _ => T0 + 1) (T0 + 1) (lastS π dl dr w x).1 → PI π (lastS π dl dr w x).1 m' → (lastS π dl dr w x).1.1 0 = T0 + 1 → FrS B v f f' → FrL B g g' → K f' g') :
    ∀ n p (f0 : FI) (g0 : FL) (wk : Wd) (m : List (Nat × Nat)), n + p = π.1 6 → wk = forN p (fun p w => failS π dl w p) w → RM f0 B v wk m → TM f0 B b π win dl → WI π (400 * T0) (T0 + 1) (fun q => if q < p then T0 + 1 else T0) (T0 + 1) wk → PI π wk m → wk.1 0 = T0 → TkZ f0 g0 B dr x → FrS B v f f0 → FrL B g g0 → LpX12_ticksOn_127 l G d (qv sh fR K) sh fR B f0 g0 (nI v) (nI p) := by
  have h4 := hπ.2.2.2.2.2.1
  intro n
  induction n with
  | zero =>
    intro p f0 g0 wk m hp hwk hR hT hW hP h0 hz hF hG
    rw [Nat.zero_add] at hp
    subst hp
    have hb := hT.1.2.1
    have hN := hW.wN hπ (by omega)
    refine VX12_ticksOn_127 hs ?_
    rw [hT.1.1, clN (by omega), hT.1.2.2.2.2.2.2.2.1]
    refine ⟨inbN (by omega) (by decide), fun _ => ?_, fun z => absurd (nI_le (Nat.le_refl _) (by omega)) z⟩
    refine C_clears hs hv hR hN.2.2.1 (fun f1 h1 h2 => ?_)
    have hW5 : WI π (400 * T0) (T0 + 1) (fun _ => T0 + 1) (T0 + 1) (clearS wk) := hW.clear.le (Nat.le_refl _) (fun q => by split <;> omega) (Nat.le_refl _)
    have hJ : SJ π T0 400 (clearS wk, 0, 0, false, x) m := ⟨hW5, hP.clear, fun s hs => (List.mem_filter.mp hs).2, h0, by omega, rfl⟩
    have hz1 := hz.fr (g' := g0) h2 (fun _ _ _ => rfl)
    have hk : TkR f1 g0 B dr (clearS wk, 0, 0, false, x) := ⟨hz1.1, hz1.2.1, hz1.2.2.1, hz1.2.2.2.1, hz1.2.2.2.2.1, hz1.2.2.2.2.2, Nat.zero_le _⟩
    refine C_sendsAll (J := SJ π T0) hs hv hπ hJ (fun _ _ => SJ.z) (fun _ _ _ hq => hq.jn hπ) (fun _ _ _ hq => hq.dw) (fun _ _ _ _ _ _ hq hnd hpk => hq.p hdl hnd hpk) (fun _ _ _ _ hq hlt hpk => hq.s hπ hdl hlt hpk) h1 (hT.fr h2) hk (fun f2 g2 n' m' T' q1 q2 q3 q4 q5 q6 q7 => ?_)
    have hlast : lastS π dl dr w x = (wsc T'.1 0 (T'.1.1 0 + 1), T'.2) := by
      unfold lastS
      rw [← hwk, q3]
      rfl
    have hfin : WI π (400 * T0 + 400) (T0 + 1) (fun _ => T0 + 1) (T0 + 1) T'.1 ∧ PI π T'.1 m' ∧ T'.1.1 0 = T0 := by
      generalize sendsS π dl dr 400 (clearS wk, 0, 0, false, x) = r at q1 q2 q3
      obtain ⟨n2, rfl⟩ : ∃ n2, n' = n2 + 1 := by
        cases n' with
        | zero => exact absurd q1 SJ.z
        | succ n2 => exact ⟨n2, rfl⟩
      have base : WI π (400 * T0 + 400) (T0 + 1) (fun _ => T0 + 1) (T0 + 1) r.1.1 ∧ PI π r.1.1 m' ∧ r.1.1.1 0 = T0 := by
        obtain ⟨a1, a2, a3, a4, a5, a6⟩ := q1
        exact ⟨a1.le (by omega) (fun _ => Nat.le_refl _) (Nat.le_refl _), a2, a4⟩
      cases hr : r.2 with
      | false =>
        rw [hr] at q3
        rw [show T' = r.1 from q3]
        exact base
      | true =>
        rw [hr] at q3
        have hm0 := q2 hr
        subst hm0
        cases hpen : penS π dl dr r.1 with
        | none =>
          rw [hpen] at q3
          rw [show T' = r.1 from q3]
          exact base
        | some T2 =>
          rw [hpen] at q3
          rw [show T' = T2 from q3]
          exact pen_ok hπ hdl q1 hpen
    obtain ⟨e1, e2, e3⟩ := hfin
    have n0 := q4.1 0 (by unfold nset; omega)
    simp (disch := omega) only [pk_mul, nI_add, clN]
    rw [n0, nI_add]
    refine ⟨inbN (by omega) (by decide), inbN (by omega) (by decide), _, _, rfl, rfl, H _ g2 m' ?_ ?_ ?_ ?_ ?_ ((hF.tr (h2.s.tr q6)).up (by unfold tchS tchQ tch; omega)) (hG.tr q7)⟩
    · rw [hlast]
      exact q4.setn (by unfold nset; omega)
    · rw [hlast]
      exact TkR.fr (v := v) (T := T') q5 (Fr.rf.up (by unfold tch; omega)) (fun _ _ _ => rfl)
    · rw [hlast]
      exact (e1.tick (by omega)).le (by omega) (fun _ => Nat.le_refl _) (Nat.le_refl _)
    · rw [hlast]
      exact e2
    · rw [hlast]
      show T'.1.1 0 + 1 = T0 + 1
      rw [e3]
  | succ n ih =>
    intro p f0 g0 wk m hp hwk hR hT hW hP h0 hz hF hG
    have hb := hT.1.2.1
    have hN := hW.wN hπ (by omega)
    have hp6 : p < π.1 6 := by omega
    have ec : (fu (fun q => if q < p then T0 + 1 else T0) p (T0 + 1)) = (fun q => if q < p + 1 then T0 + 1 else T0) := by
      funext q
      unfold fu
      by_cases e : q = p
      · rw [if_pos e, if_pos (by omega)]
      · rw [if_neg e]
        dsimp only
        by_cases e2 : q < p
        · rw [if_pos e2, if_pos (by omega)]
        · rw [if_neg e2, if_neg (by omega)]
    have hW2 := hW.fail (dl := dl) (p := p) (by rw [h0]; simp) (by rw [h0]; exact Nat.le_refl _)
    rw [h0, ec] at hW2
    have hf0 : (failS π dl wk p).1 0 = T0 := by
      rw [failS_1]
      exact h0
    have nx : ∀ (f1 : FI) (g1 : FL) (m1 : List (Nat × Nat)), RM f1 B v (failS π dl wk p) m1 → PI π (failS π dl wk p) m1 → Fr B v f0 f1 → (∀ r k, r ≠ B + 30 → g1 r k = g0 r k) → LpX12_ticksOn_155 l G d (qv sh fR K) sh fR B f1 g1 (nI v) (nI p) := by
      intro f1 g1 m1 q1 q2 q3 q4
      refine VX12_ticksOn_155 hs ?_
      rw [nI_add]
      exact ih (p + 1) f1 g1 _ m1 (by omega) (by rw [hwk]; rfl) q1 (hT.fr q3) hW2 q2 hf0 (hz.fr q3 q4) (hF.tr q3.s) (hG.tr (FrL.of q4))
    refine VX12_ticksOn_127 hs ?_
    rw [hT.1.1, clN (by omega), hT.1.2.2.2.2.2.2.2.1]
    refine ⟨inbN (by omega) (by decide), fun z => absurd z (nI_ge (by omega) (by omega)), fun _ => ?_⟩
    refine C_isFree hs hv hR hN (by omega) ⟨fun c1 => ?_, fun c1 => ?_⟩
    · have z := bI_0.mp c1
      have e : failS π dl wk p = wk := by
        unfold failS
        rw [z]
        rfl
      exact nx f0 g0 m (by rw [e]; exact hR) (by rw [e]; exact hP) Fr.rf (fun _ _ _ => rfl)
    · have z : freS wk p = true := by
        cases hz : freS wk p with
        | true => rfl
        | false => exact absurd (bI_0.mpr hz) c1
      refine C_fails hs hv hR hN hT hπ (by omega) z (fun s hs => (hW.2.2.1 s hs).2.2.2.2.1) ?_ ?_ (fun f1 g1 q1 q2 q3 => nx f1 g1 _ q1 (hP.fail hW z) q2 q3)
      · have := hP.2.2
        have hle : flyS wk p ≤ wk.2.2.1.countP (fun s => s.2.2.2.2.2.2.1) := countP_mono (fun s _ hz => by
          simp only [Bool.and_eq_true] at hz
          exact hz.1)
        omega
      · have := (hW.2.1 p).2.2.2.1
        omega
end C12
