/-! trials of the class: other delays -/
section TH
variable {l : Launch} {G : Gx} {d : Nat} {sh : Sh} {fR : FRt} {A x u win : Nat} {f : FI} {g : FL} {Z : Zs} {π : Pl} {dl : Nat → Nat} {w : Wd} {q : Td} {p : Nat}
theorem HX.oth {f' : FI} (h : HX f x π win dl w) (e : ∀ r k, x ≤ r → r < x + 32 → f' r k = f r k) : HX f' x π win dl w := by
  obtain ⟨m, hC, hI⟩ := h
  exact ⟨m, hC.sm (fun c _ j k hj _ => e _ _ (by omega) (by omega)), hI⟩
theorem HX.del {e : Nat} (h : HX f x π win dl w) (hp : p < 4) : HX (up2 f (x + 28 + p) 0 (nI e)) x π win (fu dl p e) w := by
  obtain ⟨m, hC, hI⟩ := h
  refine ⟨m, hC.repd ?_ (fun p' hp' hn => ?_), hI⟩
  · rw [Nat.add_assoc]
    refine Sx.rf.up ?_
    rw [comp_rt hp]
    decide
  · unfold fu
    by_cases ep : p' = p
    · subst ep; rw [up2_eq, if_pos rfl]
    · rw [up2_r (by omega), if_neg ep]
      exact hC.2.2.2.1 p' hp' hn
theorem row_ok (hs : StA sh fR A) {e : Nat} (he : e < 10) : fR (A + 106) e = some (A + 107 + e) ∧ sh[A + 107 + e]? = some (20, 122) ∧ 0 < A + 107 + e := by
  refine ⟨?_, ?_, by omega⟩
  · have h1 : (106, e, 107 + e) ∈ aFR := by
      rcases (show e = 0 ∨ e = 1 ∨ e = 2 ∨ e = 3 ∨ e = 4 ∨ e = 5 ∨ e = 6 ∨ e = 7 ∨ e = 8 ∨ e = 9 by omega) with rfl | rfl | rfl | rfl | rfl | rfl | rfl | rfl | rfl | rfl <;> decide
    have := hs.2.1 _ h1
    rw [← Nat.add_assoc] at this
    exact this
  · have h1 : (107 + e, 20, 122) ∈ aSh := by
      rcases (show e = 0 ∨ e = 1 ∨ e = 2 ∨ e = 3 ∨ e = 4 ∨ e = 5 ∨ e = 6 ∨ e = 7 ∨ e = 8 ∨ e = 9 by omega) with rfl | rfl | rfl | rfl | rfl | rfl | rfl | rfl | rfl | rfl <;> decide
    have := hs.1 _ h1
    rw [← Nat.add_assoc] at this
    exact this
/-- what was foreseen with delay e, up to place n -/
def TbC (f : FI) (A : Nat) (q : Td) (p e n : Nat) : Prop := ∀ j, j < n → f (A + 107 + e) j = nI (gotS q.1 q.2.1 q.2.2.1 p e (j / 2) (j % 2)) ∧ gotS q.1 q.2.1 q.2.2.1 p e (j / 2) (j % 2) ≤ 1000
theorem TbC.keep {f' : FI} {e n : Nat} (h : TbC f A q p e n) (k : ∀ j, f' (A + 107 + e) j = f (A + 107 + e) j) : TbC f' A q p e n := fun j hj => by rw [k]; exact h j hj
theorem D_tryR {K : FI → FL → Prop} {v na : Nat} (hr : PRs sh fR A u v) (ht : PTd fR f A u na q) (hq : tdOK q) (H : ∀ f' : FI, HX f' (A + 72) q.1 (q.1.1 3) q.2.1 q.2.2.1 → CP f' u q.1 → (∀ r k, (r < A + 72 ∨ A + 104 ≤ r) → f' r k = f r k) → K f' g) : Cl l G (d + 2) 0 0 mX10_copyFrom [.ref (A + 72), .ref (A + 40)] (sh, f, g, fR) (qv sh (up2 fR (A + 72) 7 (some u)) K) := by
  obtain ⟨hU, -, h1, h2, -, -⟩ := hr.pl
  obtain ⟨m, hC, hI⟩ := ht.2.2.1
  refine D_copy hr.1.2.2.2.2.1 hr.1.2.2.2.1 hr.2.2.2.2.1 hU (by omega) (by omega) hC hq.2.2.2.2.1.x.qN (fun f' c e => ?_)
  exact H f' ⟨m, c, hI⟩ (ht.1.keep (fun r k a b _ _ _ _ => e r k (by omega))) (fun r k a => e r k (by omega))
theorem D_foresee {K : FI → FL → Prop} {v T : Nat} (hr : PRs sh fR A u v) (hx : PSx fR f A u Z) (hq : Z.2.2.2.2 = some q) (ok : tdOK q) (hp6 : p < q.1.1 6) (hT : T ≤ 60) (h999 : q.2.2.1.1 0 + T ≤ 999) (H : ∀ f' : FI, FrT A u f f' → (∀ e, 1 ≤ e → e ≤ 9 → TbC f' A q p e (2 * (T + 1))) → K f' g) : Cl l G (d + 6) 0 0 mX11_foresee [.ref A, .int (nI p), .int (nI T)] (sh, f, g, fR) (qv sh (up2 fR (A + 72) 7 (some u)) K) := by
  obtain ⟨-, -, hu1, hu2, -, -⟩ := hr.pl
  have h6 := ok.1.2.2.2.2.2.1
  have hp4 : p < 4 := by omega
  have hr2 := hr.try
  have hpl := hr2.pl.1
  have hW2 := hr2.1.2.2.2.2.1
  have hwin : q.1.1 3 ≤ 99 := by have := ok.1.2.2.1; omega
  refine VX11_foresee hr.1 hr.2.2.1 hr.2.2.2.2.1 hr.pl.1 ?_
  have loop : ∀ r e (f0 : FI) (fR0 : FRt), r + e = 10 → 1 ≤ e → PRs sh fR0 A u v → up2 fR0 (A + 72) 7 (some u) = up2 fR (A + 72) 7 (some u) → (r = 0 → fR0 = up2 fR (A + 72) 7 (some u)) → (∃ na, PTd fR0 f0 A u na q) → FrT A u f f0 → (∀ e', 1 ≤ e' → e' < e → TbC f0 A q p e' (2 * (T + 1))) → LpX11_foresee_2 l G d (qv sh (up2 fR (A + 72) 7 (some u)) K) sh fR0 A u f0 g (nI p) (nI T) (nI e) := by
    intro r
    induction r with
    | zero =>
      intro e f0 fR0 he e1 hr0 eR e0 t0 i0 tb
      refine VX11_foresee_2 hr0.1 hr0.2.2.1 hr0.2.2.2.2.1 hr0.pl.1 ⟨fun _ => ⟨_, _, rfl, by rw [e0 rfl], H f0 i0 (fun e' h1 h2 => tb e' h1 (by omega))⟩, fun c => absurd (nI_lt (by omega) (by omega)) c⟩
    | succ r ih =>
      intro e f0 fR0 he e1 hr0 eR e0 t0 i0 tb
      obtain ⟨na0, t0⟩ := t0
      obtain ⟨r1, r2, r3⟩ := row_ok hr0.1 (e := e) (by omega)
      refine VX11_foresee_2 hr0.1 hr0.2.2.1 hr0.2.2.2.2.1 hr0.pl.1 ?_
      rw [clN (by omega)]
      refine ⟨fun c => absurd (nI_le (show e ≤ 9 by omega) (by decide)) (Int32.not_le.mpr c), fun _ => ⟨inbN (by omega) (by decide), _, r1, r2, r3, ?_⟩⟩
      rw [clN (by omega)]
      refine D_tryR hr0 t0 ok (fun f1 a1 c1 j1 => ?_)
      have i1 : FrT A u f0 f1 := fun r k a _ _ _ _ _ => j1 r k a
      rw [eR]
      obtain ⟨s1, s2, s3⟩ := rt_ok hW2 hp4
      refine ⟨inbN hp4 (by decide), _, s1, s2, s3, ?_⟩
      have hdl : ∀ p', p' < q.1.1 6 → 1 ≤ fu q.2.1 p e p' ∧ fu q.2.1 p e p' ≤ 9 := fun p' hp' => by
        unfold fu
        split
        · omega
        · exact ok.dl p' hp'
      have hd9 : ∀ p', fu q.2.1 p e p' ≤ 9999 := fun p' => by
        unfold fu
        split
        · omega
        · exact ok.2.2.2.1 p'
      have inner : ∀ s k (f2 : FI), s + k = T + 1 → HX f2 (A + 72) q.1 (q.1.1 3) (fu q.2.1 p e) (runS q.1 (q.1.1 3) (fu q.2.1 p e) (k - 1) q.2.2.1) → gX q.1 (runS q.1 (q.1.1 3) (fu q.2.1 p e) (k - 1) q.2.2.1) → (runS q.1 (q.1.1 3) (fu q.2.1 p e) (k - 1) q.2.2.1).1 0 = q.2.2.1.1 0 + (k - 1) → CP f2 u q.1 → FrT A u f f2 → (∀ e', 1 ≤ e' → e' < e → TbC f2 A q p e' (2 * (T + 1))) → TbC f2 A q p e (2 * k) → LpX11_foresee_43 l G d (qv sh (up2 fR (A + 72) 7 (some u)) K) sh (up2 fR (A + 72) 7 (some u)) A u f2 g (nI p) (nI T) (nI e) (A + 107 + e) (nI k) := by
        intro s
        induction s with
        | zero =>
          intro k f2 hk a2 b2 t2 c2 i2 tb2 te
          have hkT : k = T + 1 := by omega
          refine VX11_foresee_43 hr2.1 hr2.2.2.1 hr2.2.2.2.2.1 hpl ⟨r2, r3⟩ ⟨fun _ => ?_, fun c => absurd (nI_lt (by omega) (by omega)) c⟩
          refine VX11_foresee_108 hr2.1 hr2.2.2.1 hr2.2.2.2.2.1 hpl ?_
          rw [nI_add]
          refine ih (e + 1) f2 _ (by omega) (by omega) hr2 up2_up2 (fun _ => rfl) ⟨_, (FrT.px hr2 (PSx.try hr hx) i2).td hq |>.2.choose_spec.2.2⟩ i2 (fun e' h1 h2 => ?_)
          rcases (show e' < e ∨ e' = e by omega) with z | z
          · exact tb2 e' h1 z
          · rw [z, ← hkT]; exact te
        | succ s ih2 =>
          intro k f2 hk a2 b2 t2 c2 i2 tb2 te
          have wr : ∀ f3 : FI, HX f3 (A + 72) q.1 (q.1.1 3) (fu q.2.1 p e) (runS q.1 (q.1.1 3) (fu q.2.1 p e) k q.2.2.1) → gX q.1 (runS q.1 (q.1.1 3) (fu q.2.1 p e) k q.2.2.1) → (runS q.1 (q.1.1 3) (fu q.2.1 p e) k q.2.2.1).1 0 = q.2.2.1.1 0 + k → CP f3 u q.1 → FrT A u f f3 → (∀ e', 1 ≤ e' → e' < e → TbC f3 A q p e' (2 * (T + 1))) → TbC f3 A q p e (2 * k) → LpX11_foresee_69 l G d (qv sh (up2 fR (A + 72) 7 (some u)) K) sh (up2 fR (A + 72) 7 (some u)) A u f3 g (nI p) (nI T) (nI e) (A + 107 + e) (nI k) := by
            intro f3 a3 b3 t3 c3 i3 tb3 te3
            obtain ⟨m, hC, -⟩ := id a3
            have h200 := ok.1.1
            have bd2 : (runS q.1 (q.1.1 3) (fu q.2.1 p e) k q.2.2.1).1 2 ≤ 1000 := by have := b3.2.1.1.2.2.1; omega
            have bd4 : (runS q.1 (q.1.1 3) (fu q.2.1 p e) k q.2.2.1).1 4 ≤ 1000 := by have := b3.2.1.1.2.2.2.2; omega
            have g2 : f3 (A + 72) 10 = nI ((runS q.1 (q.1.1 3) (fu q.2.1 p e) k q.2.2.1).1 2) := hC.1 2 (by unfold nset; omega)
            have g4 : f3 (A + 72 + 2) 5 = nI ((runS q.1 (q.1.1 3) (fu q.2.1 p e) k q.2.2.1).1 4) := hC.1 4 (by unfold nset; omega)
            refine VX11_foresee_69 hr2.1 hr2.2.2.1 hr2.2.2.2.2.1 hpl ⟨r2, r3⟩ ?_
            rw [pk_mul, nI_add, nI_add, clN (by omega), clN (by omega), g2, g4]
            refine ⟨inbN (by omega) (by decide), inbN (by omega) (by decide), ?_⟩
            have fr : ∀ r k', r ≠ A + 107 + e → up2 (up2 f3 (A + 107 + e) (2 * k) (nI ((runS q.1 (q.1.1 3) (fu q.2.1 p e) k q.2.2.1).1 2))) (A + 107 + e) (2 * k + 1) (nI ((runS q.1 (q.1.1 3) (fu q.2.1 p e) k q.2.2.1).1 4)) r k' = f3 r k' := fun r k' hne => by rw [up2_r hne, up2_r hne]
            refine ih2 (k + 1) _ (by omega) (a3.oth (fun r k' _ _ => fr r k' (by omega))) b3 t3 (c3.keep (fun r k' _ _ _ _ _ _ => fr r k' (by omega))) (i3.tr (fun r k' _ b _ _ _ _ => fr r k' (by omega))) (fun e' h1 h2 => (tb3 e' h1 h2).keep (fun j => fr _ _ (by omega))) (fun j hj => ?_)
            rcases (show j < 2 * k ∨ j = 2 * k ∨ j = 2 * k + 1 by omega) with z | z | z
            · rw [up2_k (by omega), up2_k (by omega)]
              exact te3 j z
            · subst z
              rw [up2_k (by omega), up2_eq, show 2 * k / 2 = k by omega, show 2 * k % 2 = 0 by omega]
              exact ⟨rfl, bd2⟩
            · subst z
              rw [up2_eq, show (2 * k + 1) / 2 = k by omega, show (2 * k + 1) % 2 = 1 by omega]
              exact ⟨rfl, bd4⟩
          refine VX11_foresee_43 hr2.1 hr2.2.2.1 hr2.2.2.2.2.1 hpl ⟨r2, r3⟩ ⟨fun c => absurd (nI_le (show k ≤ T by omega) (by omega)) (Int32.not_le.mpr c), fun _ => ⟨fun c => absurd (nI_le (show k ≤ 60 by omega) (by decide)) (Int32.not_le.mpr c), fun _ => ⟨fun c => ?_, fun c => ?_⟩⟩⟩
          · have k0 : k = 0 := by
              rcases Nat.eq_zero_or_pos k with z | z
              · exact z
              · exact absurd c (nI_ge (a := 0) z (by omega))
            subst k0
            exact wr f2 a2 b2 t2 c2 i2 tb2 te
          · have k0 : k ≠ 0 := fun z => c (by rw [z]; exact Int32.le_refl _)
            obtain ⟨k', rfl⟩ : ∃ k', k = k' + 1 := ⟨k - 1, by omega⟩
            rw [Nat.add_sub_cancel] at a2 b2 t2
            refine D_stepX hW2 up2_eq hpl (by omega) a2 c2 ok.1 hwin hdl hd9 b2 (by omega) (fun f3 a3 b3 t3 _ c3 i3 => ?_)
            have rows : ∀ e' j, e' ≤ 9 → f3 (A + 107 + e') j = f2 (A + 107 + e') j := fun e' j h9 => i3 _ _ (by omega) (by omega) (by omega) (by omega) (by omega)
            exact wr f3 a3 b3 (by show (tickS q.1 (q.1.1 3) (fu q.2.1 p e) false (runS q.1 (q.1.1 3) (fu q.2.1 p e) k' q.2.2.1) 0).1.1 0 = _; rw [t3, t2]; omega) c3 (i2.tr i3.t) (fun e' h1 h2 => (tb2 e' h1 h2).keep (fun j => rows e' j (by omega))) (te.keep (fun j => rows e j (by omega)))
      have i2 : FrT A u f1 (up2 f1 (A + 72 + 28 + p) 0 (nI e)) := fun r k a _ _ _ _ _ => up2_r (by omega)
      refine inner (T + 1) 0 _ (by omega) (a1.del hp4) ok.2.2.2.2.1.x rfl (c1.keep (fun r k a b _ _ _ _ => up2_r (by omega))) ((i0.tr i1).tr i2) (fun e' h1 h2 => (tb e' h1 h2).keep (fun j => ?_)) (fun j hj => by omega)
      rw [up2_r (by omega)]
      exact j1 _ _ (by omega)
  exact loop 9 1 f fR rfl (by decide) hr rfl (fun z => by cases z) ((hx.td hq).2.elim (fun na h => ⟨na, h.2.2⟩)) FrT.rf (fun e' h1 h2 => by omega)
end TH
