/-! trials: the class -/
def HX (f : FI) (x : Nat) (π : Pl) (win : Nat) (dl : Nat → Nat) (w : Wd) : Prop := ∃ m, CW f x π win dl (w.1 0) w m w.2.2.2.2.1 ∧ PI π w m
def gX (π : Pl) (w : Wd) : Prop := w.1 0 ≤ 1000 ∧ WI π (400 * w.1 0) (w.1 0) (fun _ => w.1 0) (w.1 0) w ∧ WS w.2.2.1
theorem gW.x {π : Pl} {w : Wd} (h : gW π w) : gX π w := ⟨Nat.le_trans h.1 (by decide), h.2⟩
theorem gX.qN {π : Pl} {w : Wd} (h : gX π w) : qN w := h.2.1.qN (by have := h.1; omega)
theorem StF.fR7 {sh : Sh} {fR : FRt} {q z : Nat} {o : Option Nat} (h : StF sh fR q) (hz : z < q ∨ q + 3 ≤ z) : StF sh (up2 fR z 7 o) q := by
  refine ⟨h.1, fun y hy => ?_, h.2.2⟩
  have := h.2.1 y hy
  have h0 : y.1 < 3 := (by decide : ∀ q ∈ fFR, q.1 < 3) y hy
  rw [up2_r (by omega)]
  exact this
section TC
variable {l : Launch} {G : Gx} {d : Nat} {sh : Sh} {fR : FRt} {A x u win : Nat} {f : FI} {g : FL} {Z : Zs} {π : Pl} {dl : Nat → Nat} {w : Wd}
theorem D_stepX {K : FI → FL → Prop} (hs : StW sh fR x) (hu : fR x 7 = some u) (hU : StPl sh fR u) (hux : u + 17 ≤ x) (hX : HX f x π win dl w) (hc : CP f u π) (hπ : πOK π) (hwin : win ≤ 99) (hdl : ∀ p, p < π.1 6 → 1 ≤ dl p ∧ dl p ≤ 9) (hd9 : ∀ p, dl p ≤ 9999) (hg : gX π w) (ht : w.1 0 < 1000) (H : ∀ f' : FI, HX f' x π win dl (tickS π win dl false w 0).1 → gX π (tickS π win dl false w 0).1 → (tickS π win dl false w 0).1.1 0 = w.1 0 + 1 → TkC f' x 0 false (tickS π win dl false w 0) → CP f' u π → FrW x u f f' → K f' g) : Cl l G (d + 5) 0 0 mX10_step [.ref x, .null] (sh, f, g, fR) (qv sh fR K) := by
  obtain ⟨m, hC, hI⟩ := hX
  have hu0 := hU.2.2
  refine D_stepN (wd := 0) (T0 := w.1 0) (s := 0) hs hu hU hux (by omega) hC hc (fun z => by cases z) (by decide) hπ hwin hdl hd9 rfl ht hg.2.1 hI hg.2.2 (fun f' m' c1 c2 c3 c4 c5 c6 c7 => ?_)
  have c8 : FrW x u f f' := fun r k a b c d e => c7.2 r k a b c d e (fun z => by cases z)
  refine H f' ⟨m', ?_, c4⟩ ⟨by rw [c6]; omega, by rw [c6]; exact c3, c5⟩ c6 c2 (hc.fr hux c8) c8
  rw [c6]
  exact c1
/-- the references as they are in a trial -/
theorem PRs.try {v : Nat} (h : PRs sh fR A u v) : PRs sh (up2 fR (A + 72) 7 (some u)) A u v := by
  obtain ⟨h1, h2, h3, h4, h5, h6, h7, h8, h9, h10⟩ := h
  have kp : ∀ r k, r ≠ A + 72 → up2 fR (A + 72) 7 (some u) r k = fR r k := fun r k hr => up2_r hr
  obtain ⟨a1, a2, a3, a4, a5, a6, a7⟩ := h1
  refine ⟨⟨a1, fun q hq => ?_, a3, a4.fR7 (fun j hj => by omega), a5.fR7 (fun j hj => by omega), a6.fR7 (by omega), a7.fR7 (by omega)⟩, h2, by rw [kp _ _ (by omega)]; exact h3, by rw [kp _ _ (by omega)]; exact h4, by rw [kp _ _ (by omega)]; exact h5, ?_, ?_, h8, fun k y hk hy => ?_, fun k k' y y' hk hk' hne hy hy' => ?_⟩
  · have : q.1 ≠ 72 := (by decide : ∀ q ∈ aFR, q.1 ≠ 72) q hq
    rw [kp _ _ (by omega)]
    exact a2 q hq
  · obtain ⟨p, p1, p2⟩ := h6
    exact ⟨p, by rw [kp _ _ (by omega)]; exact p1, p2⟩
  · obtain ⟨p, p1, p2, p3, p4⟩ := h7
    exact ⟨p, by rw [kp _ _ (by omega)]; exact p1, p2.fR7 (by omega), p3, p4⟩
  · rw [kp _ _ (by omega)] at hy
    obtain ⟨y1, y2, y3, p, y4, y5, y6⟩ := h9 k y hk hy
    exact ⟨y1.fR7 (fun j hj => by omega), y2, y3, p, by rw [kp _ _ (by omega)]; exact y4, y5.fR7 (by omega), y6⟩
  · rw [kp _ _ (by omega)] at hy hy'
    exact h10 k k' y y' hk hk' hne hy hy'
theorem PSx.try {v : Nat} (h : PRs sh fR A u v) (hx : PSx fR f A u Z) : PSx (up2 fR (A + 72) 7 (some u)) f A u Z := by
  obtain ⟨x1, x2, x3, x4, x5, x6, na, x7, x8, x9⟩ := hx
  refine ⟨x1, x2, x3, x4, x5, x6, na, x7, x8, ?_⟩
  cases hq : Z.2.2.2.2 with
  | none => rw [hq] at x9; exact x9
  | some q =>
    rw [hq] at x9
    obtain ⟨t1, t2, t3, t4, t5, t6, t7⟩ := x9
    refine ⟨t1, t2, t3, t4, fun k w hk => ?_, t6, t7⟩
    obtain ⟨y, y1, y2, y3⟩ := t5 k w hk
    have hy := h.2.2.2.2.2.2.2.2.1 _ y (Nat.mod_lt _ (by decide)) y1
    exact ⟨y, by rw [up2_r (by omega)]; exact y1, by rw [up2_r (by omega)]; exact y2, y3⟩
/-- what a trial writes -/
def FrT (A u : Nat) (f f' : FI) : Prop := ∀ r k, (r < A + 72 ∨ A + 104 ≤ r) → ¬ (A + 107 ≤ r ∧ r < A + 117) → r ≠ u + 7 → r ≠ u + 10 → r ≠ u + 13 → r ≠ u + 16 → f' r k = f r k
theorem FrT.rf : FrT A u f f := fun _ _ _ _ _ _ _ _ => rfl
theorem FrT.tr {f' f'' : FI} (h : FrT A u f f') (h' : FrT A u f' f'') : FrT A u f f'' := fun r k a b c d e i => (h' r k a b c d e i).trans (h r k a b c d e i)
theorem FrW.t {f' : FI} (h : FrW (A + 72) u f f') : FrT A u f f' := fun r k a b c d e i => h r k (by omega) c d e i
theorem FrT.px {f' : FI} {v : Nat} (hr : PRs sh fR A u v) (hx : PSx fR f A u Z) (e : FrT A u f f') : PSx fR f' A u Z := by
  obtain ⟨-, -, h1, h2, -, -⟩ := hr.pl
  refine hx.keep hr (fun r k z => e r k ?_ ?_ ?_ ?_ ?_ ?_) <;> unfold kpP at z <;> omega
theorem FrT.rp {f' : FI} {v : Nat} {y y' : Int32} (hr : PRs sh fR A u v) (hx : PSx fR f A u Z) (e : FrT A u f f') (ey : y = y') : RP A sh fR f g Z y' (some (.int y)) (sh, f', g, up2 fR (A + 72) 7 (some u)) := by
  obtain ⟨-, -, h1, h2, -, -⟩ := hr.pl
  have hA := hr.1.2.2.1
  subst ey
  exact ⟨_, _, _, rfl, rfl, ⟨u, v, hr.try, FrT.px hr.try (PSx.try hr hx) e⟩, fun r k z => ⟨e r k (by omega) (by omega) (by omega) (by omega) (by omega) (by omega), up2_r (by omega)⟩, fun _ _ => rfl⟩
theorem FrT.rp0 {f' : FI} {v : Nat} {y y' : Int32} (hr : PRs sh fR A u v) (hx : PSx fR f A u Z) (e : FrT A u f f') (ey : y = y') : RP A sh fR f g Z y' (some (.int y)) (sh, f', g, fR) := by
  obtain ⟨-, -, h1, h2, -, -⟩ := hr.pl
  have hA := hr.1.2.2.1
  subst ey
  exact ⟨_, _, _, rfl, rfl, ⟨u, v, hr, FrT.px hr hx e⟩, fun r k z => ⟨e r k (by omega) (by omega) (by omega) (by omega) (by omega) (by omega), rfl⟩, fun _ _ => rfl⟩
/-- the trial begins -/
theorem D_try {K : FI → FL → Prop} {v na : Nat} {q : Td} (hr : PRs sh fR A u v) (ht : PTd fR f A u na q) (hq : tdOK q) (H : ∀ f' : FI, HX f' (A + 72) q.1 (q.1.1 3) q.2.1 q.2.2.1 → CP f' u q.1 → FrT A u f f' → K f' g) : Cl l G (d + 2) 0 0 mX10_copyFrom [.ref (A + 72), .ref (A + 40)] (sh, f, g, fR) (qv sh (up2 fR (A + 72) 7 (some u)) K) := by
  obtain ⟨hU, -, h1, h2, -, -⟩ := hr.pl
  obtain ⟨m, hC, hI⟩ := ht.2.2.1
  refine D_copy hr.1.2.2.2.2.1 hr.1.2.2.2.1 hr.2.2.2.2.1 hU (by omega) (by omega) hC hq.2.2.2.2.1.x.qN (fun f' c e => ?_)
  exact H f' ⟨m, c, hI⟩ (ht.1.keep (fun r k a b _ _ _ _ => e r k (by omega))) (fun r k a _ _ _ _ _ => e r k (by omega))
/-- n ticks of the trial -/
theorem D_runX {W : FI → FL → Int32 → Prop} {n : Nat} (hs : StW sh fR (A + 72)) (hu : fR (A + 72) 7 = some u) (hU : StPl sh fR u) (hux : u + 17 ≤ A + 72) (hπ : πOK π) (hwin : win ≤ 99) (hdl : ∀ p, p < π.1 6 → 1 ≤ dl p ∧ dl p ≤ 9) (hd9 : ∀ p, dl p ≤ 9999)
    (hX : HX f (A + 72) π win dl w) (hc : CP f u π) (hg : gX π w) (ht : w.1 0 + n ≤ 1000)
    (step : ∀ (f0 : FI) (g0 : FL) (k : Nat), k < n → Cl l G (d + 5) 0 0 mX10_step [.ref (A + 72), .null] (sh, f0, g0, fR) (qv sh fR fun f1 g1 => W f1 g1 (nI (k + 1))) → W f0 g0 (nI k))
    (H : ∀ f' : FI, HX f' (A + 72) π win dl (runS π win dl n w) → gX π (runS π win dl n w) → (runS π win dl n w).1 0 = w.1 0 + n → CP f' u π → FrT A u f f' → W f' g (nI n)) : W f g (nI 0) := by
  have loop : ∀ r k (f0 : FI), r + k = n → HX f0 (A + 72) π win dl (runS π win dl k w) → gX π (runS π win dl k w) → (runS π win dl k w).1 0 = w.1 0 + k → CP f0 u π → FrT A u f f0 → W f0 g (nI k) := by
    intro r
    induction r with
    | zero =>
      intro k f0 hk a b c e i
      have : k = n := by omega
      subst this
      exact H f0 a b c e i
    | succ r ih =>
      intro k f0 hk a b c e i
      refine step f0 g k (by omega) (D_stepX hs hu hU hux a e hπ hwin hdl hd9 b (by omega) (fun f1 a1 b1 c1 _ e1 i1 => ?_))
      exact ih (k + 1) f1 (by omega) a1 b1 (by show (tickS π win dl false (runS π win dl k w) 0).1.1 0 = _; rw [c1, c]; omega) e1 (i.tr i1.t)
  exact loop n 0 f rfl hX hg rfl hc FrT.rf
theorem D_canGo {K : Int32 → FI → FL → Prop} {n : Nat} {v : Nat} (hr : PRs sh fR A u v) (hx : PSx fR f A u Z) (hz : zOK Z) (hn : n ≤ 1000) (H1 : ∀ q na, Z.2.2.2.2 = some q → PTd fR f A u na q → q.2.2.1.1 0 + n ≤ 999 → K (nI 1) f g) (H0 : (∀ q, Z.2.2.2.2 = some q → 999 < q.2.2.1.1 0 + n) → K (nI 0) f g) : Cl l G d 0 0 mX11_canGo [.ref A, .int (nI n)] (sh, f, g, fR) (qi sh fR K) := by
  refine VX11_canGo hr.1 hr.2.2.1 hr.2.2.2.2.1 hr.pl.1 ?_
  cases ht : Z.2.2.2.2 with
  | none => exact ⟨fun _ => ⟨_, _, _, rfl, rfl, H0 (fun q hq => by rw [ht] at hq; cases hq)⟩, fun c => absurd (hx.no ht) c⟩
  | some q =>
    obtain ⟨h4, na, -, -, t⟩ := hx.td ht
    obtain ⟨m, hC, -⟩ := t.2.2.1
    have h0 := (hz.2.2.2.2 q ht).2.2.2.2.1.1
    rw [hC.t8, nI_add]
    refine ⟨fun c => absurd c h4, fun _ => ⟨fun c => ⟨_, _, _, rfl, rfl, H0 (fun q' hq => ?_)⟩, fun c => ⟨_, _, _, rfl, rfl, H1 q na ht t ?_⟩⟩⟩
    · rw [ht] at hq
      cases hq
      exact (nI_ltI (by decide) (by omega)).mp c
    · exact Nat.not_lt.mp (fun z => c (nI_lt z (by omega)))
theorem P_later {a b : Int32} (h : PSt sh fR f A Z) (hz : zOK Z) : Cl l G (d + 6) 0 0 mX11_later [.ref A, .int a, .int b] (sh, f, g, fR) (RP A sh fR f g Z (laterS Z a b)) := by
  obtain ⟨u, v, hr, hs, hp, hn, hP, hx⟩ := h.at
  obtain ⟨-, -, hu1, hu2, -, -⟩ := hr.pl
  have no : (∀ q n, Z.2.2.2.2 = some q → ixS a 201 = some n → q.2.2.1.1 0 + n ≤ 999 → ixS b 5 = none) → laterS Z a b = -1 := fun hno => by
    unfold laterS
    cases hq : Z.2.2.2.2 with
    | none => rfl
    | some q =>
      dsimp only
      cases hx : ixS a 201 with
      | none => rfl
      | some n =>
        dsimp only
        split
        · rfl
        · rw [hno q n hq hx (by omega)]
  refine VX11_later hs hp hn hP ?_
  rcases pk_ix a (n := 201) (by decide) with z | z | ⟨n, hn', rfl⟩
  · rw [no (fun q n _ hx => by rw [ixS_lo z] at hx; cases hx)]
    exact ⟨fun _ => .rf h, fun c => absurd z c⟩
  · rw [no (fun q n _ hx => by rw [ixS_hi z] at hx; cases hx)]
    exact ⟨fun _ => .rf h, fun _ => ⟨fun _ => .rf h, fun c => absurd (Int32.lt_of_lt_of_le (by decide) z) c⟩⟩
  · refine ⟨fun c => absurd c (nI_pos (by omega)), fun _ => ⟨fun c => absurd (nI_le (show n ≤ 200 by omega) (by decide)) (Int32.not_le.mpr c), fun _ => ?_⟩⟩
    refine D_canGo hr hx hz (by omega) (fun q na hq t h999 => ⟨fun c => absurd c (by decide), fun _ => ?_⟩) (fun hno => ⟨fun _ => .is h ?_, fun c => absurd rfl c⟩)
    · rcases pk_ix b (n := 5) (by decide) with y | y | ⟨j, hj, rfl⟩
      · rw [no (fun q n _ _ _ => ixS_lo y)]
        exact ⟨fun _ => .rf h, fun c => absurd y c⟩
      · rw [no (fun q n _ _ _ => ixS_hi y)]
        exact ⟨fun _ => .rf h, fun _ => ⟨fun c => absurd (Int32.le_trans y c) (by decide), fun _ => .rf h⟩⟩
      · refine ⟨fun c => absurd c (nI_pos (by omega)), fun _ => ⟨fun _ => ?_, fun c => absurd (nI_le (by omega) (by decide)) c⟩⟩
        have hqo := hz.2.2.2.2 q hq
        have e : laterS Z (nI n) (nI j) = nI (laterN (runS q.1 (q.1.1 3) q.2.1 n q.2.2.1) j) := by
          unfold laterS
          rw [hq]
          dsimp only
          rw [ixS_in hn' (by decide)]
          dsimp only
          rw [if_neg (by omega), ixS_in hj (by decide)]
        rw [e]
        have hr2 := hr.try
        have hpl := hr2.pl.1
        have ex : ∀ (f' : FI) (y : Int32) (k : Nat), FrT A u f f' → j = k → y = nI (laterN (runS q.1 (q.1.1 3) q.2.1 n q.2.2.1) k) → RP A sh fR f g Z (nI (laterN (runS q.1 (q.1.1 3) q.2.1 n q.2.2.1) j)) (some (.int y)) (sh, f', g, up2 fR (A + 72) 7 (some u)) := fun f' y k i ej ey => FrT.rp hr hx i (by rw [ey, ej])
        refine D_try hr t hqo (fun f1 a1 c1 i1 => ?_)
        refine D_runX (W := fun f g x => LpX11_later_43 l G d (RP A sh fR _ _ Z _) sh (up2 fR (A + 72) 7 (some u)) A u f g (nI n) (nI j) x) (l := l) (G := G) (d := d) hr2.1.2.2.2.2.1 up2_eq hpl (by omega) hqo.1 (by have := hqo.1.2.2.1; omega) (fun p hp => hqo.dl p hp) hqo.2.2.2.1 a1 c1 hqo.2.2.2.2.1.x (n := n) (by omega) (fun f0 g0 k hk hstep => ?_) (fun f2 a2 b2 e2 c2 i2 => ?_)
        · refine VX11_later_43 hr2.1 hr2.2.2.1 hr2.2.2.2.2.1 hpl ?_
          rw [nI_add]
          exact ⟨fun c => absurd c (nI_ge hk (by omega)), fun _ => hstep⟩
        · obtain ⟨m, hC, -⟩ := a2
          have n' := hC.1
          have h6 := hqo.1.2.2.2.2.2.1
          refine VX11_later_43 hr2.1 hr2.2.2.1 hr2.2.2.2.2.1 hpl ?_
          have jj : ∀ k, k < 5 → nI j = nI k → j = k := fun k hk z => (nI_eq (by omega) (by omega)).mp z
          refine ⟨fun _ => ⟨fun z => ?_, fun z => ?_, fun z => ?_, fun z => ?_, fun z => ?_⟩, fun c => absurd (nI_le (Nat.le_refl _) (by omega)) c⟩
          · exact ex f2 _ 0 (i1.tr i2) (jj 0 (by decide) z) (n' 1 (by unfold nset; omega))
          · exact ex f2 _ 1 (i1.tr i2) (jj 1 (by decide) z) (n' 2 (by unfold nset; omega))
          · exact ex f2 _ 2 (i1.tr i2) (jj 2 (by decide) z) (n' 4 (by unfold nset; omega))
          · exact D_flyingW hr2.1.2.2.2.2.1 up2_eq hpl hC (c2.1 6 (by decide)) h6 (fun s hs => (b2.2.1.2.2.1 s hs).1) (ex f2 _ 3 (i1.tr i2) (jj 3 (by decide) z) rfl)
          · refine ex f2 _ 4 (i1.tr i2) ?_ (n' 5 (by unfold nset; omega))
            obtain ⟨z0, z1, z2, z3⟩ := z
            have nn : ∀ k, ¬ nI j = nI k → j ≠ k := fun k z e => z (by rw [e])
            have := nn _ z0; have := nn _ z1; have := nn _ z2; have := nn _ z3
            omega
    · exact (no (fun q n' hq hx h9 => by rw [ixS_in hn' (by decide)] at hx; cases hx; have := hno q hq; omega)).symm
end TC
