/-! the class' calls: counts, paths, segments -/
section PB
variable {l : Launch} {G : Gx} {d : Nat} {sh : Sh} {fR : FRt} {A x u win : Nat} {f : FI} {g : FL} {Z : Zs} {π : Pl} {dl : Nat → Nat} {t : Int} {w : Wd} {m : List (Nat × Nat)} {la : List An}
def flyU (l : List Sg) (n : Nat) : Nat := l.countP (fun s => s.2.2.2.2.2.2.1 && decide (s.1 < n))
theorem flyU_succ (l : List Sg) (n : Nat) : flyU l (n + 1) = flyU l n + cntF l n := by
  unfold flyU cntF
  induction l with
  | nil => rfl
  | cons s l ih =>
    simp only [List.countP_cons]
    rw [ih]
    by_cases c : s.1 = n
    · cases s.2.2.2.2.2.2.1 <;> simp [c] <;> omega
    · by_cases c2 : s.1 < n
      · have : s.1 < n + 1 := by omega
        cases s.2.2.2.2.2.2.1 <;> simp [c, c2, this] <;> omega
      · have : ¬ s.1 < n + 1 := by omega
        cases s.2.2.2.2.2.2.1 <;> simp [c, c2, this]
theorem flyU_all {l : List Sg} {n : Nat} (h : ∀ s ∈ l, s.1 < n) : flyU l n = l.countP (fun s => s.2.2.2.2.2.2.1) := by
  unfold flyU
  refine List.countP_congr (fun s hs => ?_)
  simp [h s hs]
theorem flyU_0 (l : List Sg) : flyU l 0 = 0 := by
  unfold flyU
  simp
theorem D_flyingW {K : Int32 → FI → FL → Prop} (hs : StW sh fR x) (hu : fR x 7 = some u) (hU : StPl sh fR u) (hC : CW f x π win dl t w m la) (h6 : f u 6 = nI (π.1 6)) (h4 : π.1 6 ≤ 4) (hl : ∀ s ∈ w.2.2.1, s.1 < π.1 6) (H : K (nI (flyA w)) f g) : Cl l G d 0 0 mX10_flying [.ref x] (sh, f, g, fR) (qi sh fR K) := by
  have loop : ∀ n k, n + k = π.1 6 → LpX10_flying_4 l G d (qi sh fR K) sh fR x u f g (nI (flyU w.2.2.1 k)) (nI k) := by
    intro n
    induction n with
    | zero =>
      intro k hk
      refine VX10_flying_4 hs hu hU ?_
      rw [h6]
      refine ⟨fun _ => ⟨_, _, _, rfl, rfl, ?_⟩, fun c => absurd (nI_le (by omega) (by omega)) c⟩
      rw [show k = π.1 6 by omega, flyU_all hl]
      exact H
    | succ n ih =>
      intro k hk
      refine VX10_flying_4 hs hu hU ?_
      rw [h6, clN (by omega)]
      obtain ⟨r1, r2, r3⟩ := rt_ok hs (p := k) (by omega)
      refine ⟨fun c => absurd c (nI_ge (by omega) (by omega)), fun _ => ⟨inbN (by omega) (by decide), _, r1, r2, r3, fun w7 hw => ?_⟩⟩
      have := ih (k + 1) (by omega)
      rw [flyU_succ] at this
      rw [hw, hC.2.2.1 k (by omega), nI_add, nI_add]
      exact this
  refine VX10_flying hs hu hU ?_
  have := loop (π.1 6) 0 rfl
  rw [flyU_0] at this
  exact this
theorem D_alive {K : Int32 → FI → FL → Prop} (hs : StW sh fR x) (hu : fR x 7 = some u) (hU : StPl sh fR u) (hC : CW f x π win dl t w m la) (h6 : f u 6 = nI (π.1 6)) (h4 : π.1 6 ≤ 4) (hq : qN w) (H : K (nI (aliveS π w)) f g) : Cl l G (d + 1) 0 0 mX10_alive [.ref x] (sh, f, g, fR) (qi sh fR K) := by
  have loop : ∀ n k, n + k = π.1 6 → LpX10_alive_4 l G d (qi sh fR K) sh fR x u f g (nI (forN k (fun p n => if freS w p then n + 1 else n) 0)) (nI k) := by
    intro n
    induction n with
    | zero =>
      intro k hk
      refine VX10_alive_4 hs hu hU ?_
      rw [h6]
      refine ⟨fun _ => ⟨_, _, _, rfl, rfl, ?_⟩, fun c => absurd (nI_le (by omega) (by omega)) c⟩
      rw [show k = π.1 6 by omega]
      exact H
    | succ n ih =>
      intro k hk
      refine VX10_alive_4 hs hu hU ?_
      rw [h6, clN (by omega)]
      obtain ⟨r1, r2, r3⟩ := rt_ok hs (p := k) (by omega)
      have := ih (k + 1) (by omega)
      refine ⟨fun c => absurd c (nI_ge (by omega) (by omega)), fun _ => ⟨inbN (by omega) (by decide), _, r1, r2, r3, D_isAlive hs hC hq (by omega) ⟨fun c => VX10_alive_30 hs hu hU ?_, fun c => VX10_alive_30 hs hu hU ?_⟩⟩⟩
      · rw [nI_add]
        have e : freS w k = false := bI_0.mp c
        rw [show forN (k + 1) (fun p n => if freS w p then n + 1 else n) 0 = (if freS w k then forN k (fun p n => if freS w p then n + 1 else n) 0 + 1 else forN k (fun p n => if freS w p then n + 1 else n) 0) from rfl, if_neg (by rw [e]; decide)] at this
        exact this
      · rw [nI_add, nI_add]
        have e : freS w k = true := bI_ne0 c
        rw [show forN (k + 1) (fun p n => if freS w p then n + 1 else n) 0 = (if freS w k then forN k (fun p n => if freS w p then n + 1 else n) 0 + 1 else forN k (fun p n => if freS w p then n + 1 else n) 0) from rfl, if_pos e] at this
        exact this
  refine VX10_alive hs hu hU ?_
  exact loop (π.1 6) 0 rfl
theorem D_countOf {K : Int32 → FI → FL → Prop} {q : Td} {v na j : Nat} (hr : PRs sh fR A u v) (ht : PTd fR f A u na q) (hz : tdOK q) (hj : j < 16) (H : K (nI (hasN q j)) f g) : Cl l G (d + 2) 0 0 mX11_countOf [.ref A, .int (nI j)] (sh, f, g, fR) (qi sh fR K) := by
  obtain ⟨hs, hp, hn, hP⟩ : StA sh fR A ∧ fR A 5 = some u ∧ fR (A + 40) 7 = some u ∧ StPl sh fR u := ⟨hr.1, hr.2.2.1, hr.2.2.2.2.1, hr.pl.1⟩
  have hW : StW sh fR (A + 40) := hs.2.2.2.1
  obtain ⟨c1, -, ⟨m, hC, hI⟩, t4, -, t6, -⟩ := ht
  have hg := hz.2.2.2.2.1
  have h4 := hz.1.2.2.2.2.2.1
  have hg1 := hg.1
  have hq : qN q.2.2.1 := hg.2.1.qN (by omega)
  have n : ∀ i, nset i → f (A + 40 + cnr i) (cnk i) = nI (q.2.2.1.1 i) := hC.1
  have e8 : f (A + 40) 8 = nI (q.2.2.1.1 0) := n 0 (by unfold nset; omega)
  have e9 : f (A + 40) 9 = nI (q.2.2.1.1 1) := n 1 (by unfold nset; omega)
  have e10 : f (A + 40) 10 = nI (q.2.2.1.1 2) := n 2 (by unfold nset; omega)
  have e11 : f (A + 40) 11 = nI (q.2.2.1.1 3) := n 3 (by unfold nset; omega)
  have e5 : f (A + 40 + 2) 5 = nI (q.2.2.1.1 4) := n 4 (by unfold nset; omega)
  have e12 : f (A + 40) 12 = nI (q.2.2.1.1 5) := n 5 (by unfold nset; omega)
  have ex : ∀ (y : Int32) (v : Nat), y = nI v → hasN q j = v → qi sh fR K (some (.int y)) (sh, f, g, fR) := fun y v e1 e2 => ⟨_, _, _, rfl, rfl, by rw [e1, ← e2]; exact H⟩
  have hm : m.countP (ndN (q.2.2.1.1 2)) = q.2.2.1.2.2.2.1.length := by
    rw [← hI.2.1, List.countP_eq_length_filter]
    rfl
  refine VX11_countOf hs hp hn hP ?_
  have ne : ∀ i, i < 16 → nI j = nI i → j = i := fun i hi z => (nI_eq (by omega) (by omega)).mp z
  refine ⟨fun z => ?_, fun z => ?_, fun z => ?_, fun z => ?_, fun z => ?_, fun z => ?_, fun z => ?_, fun z => ?_, fun z => ?_, fun z => ?_, fun z => ?_, fun z => ?_, fun z => ?_, fun z => ?_, fun z => ?_, fun z => ?_⟩
  · have := ne 0 (by decide) z; subst this; exact ex _ _ (c1.1 1 (by decide)) rfl
  · have := ne 1 (by decide) z; subst this; exact ex _ _ (c1.1 6 (by decide)) rfl
  · have := ne 2 (by decide) z; subst this; exact D_alive hW hn hP hC (c1.1 6 (by decide)) h4 hq (ex _ _ rfl rfl)
  · have := ne 3 (by decide) z; subst this; exact ex _ _ e8 rfl
  · have := ne 4 (by decide) z; subst this; exact ex _ _ e9 rfl
  · have := ne 5 (by decide) z; subst this; exact ex _ _ e10 rfl
  · have := ne 6 (by decide) z; subst this; exact ex _ _ e11 rfl
  · have := ne 7 (by decide) z; subst this; exact ex _ _ hC.2.2.2.2.2.2.2.1.2 rfl
  · have := ne 8 (by decide) z; subst this; exact ex _ _ e5 rfl
  · have := ne 9 (by decide) z; subst this; exact D_flyingW hW hn hP hC (c1.1 6 (by decide)) h4 (fun s hs => (hg.2.1.2.2.1 s hs).1) (ex _ _ rfl rfl)
  · have := ne 10 (by decide) z; subst this; exact ex _ _ hC.2.2.2.2.2.2.1.1 rfl
  · have := ne 11 (by decide) z; subst this
    rw [e10]
    have hl := hz.1.1
    have h2 := hg.2.1.1.2.2.1
    exact D_pCount hW hC.2.2.2.2.2.1 (by omega) (fun p hp => by have := hI.1 p hp; omega) (ex _ _ rfl (by rw [hm]; rfl))
  · have := ne 12 (by decide) z; subst this; exact ex _ _ e12 rfl
  · have := ne 13 (by decide) z; subst this; exact ex _ _ hC.2.2.2.2.2.2.2.2.1.1 rfl
  · have := ne 14 (by decide) z; subst this; exact ex _ _ t6 rfl
  · refine ex _ _ t4 ?_
    have : j = 15 := by
      obtain ⟨z0, z1, z2, z3, z4, z5, z6, z7, z8, z9, z10, z11, z12, z13, z14⟩ := z
      have nn : ∀ i, ¬ nI j = nI i → j ≠ i := fun i z e => z (by rw [e])
      have := nn _ z0; have := nn _ z1; have := nn _ z2; have := nn _ z3; have := nn _ z4; have := nn _ z5; have := nn _ z6; have := nn _ z7; have := nn _ z8; have := nn _ z9; have := nn _ z10; have := nn _ z11; have := nn _ z12; have := nn _ z13; have := nn _ z14
      omega
    subst this
    rfl
theorem P_has {a : Int32} (h : PSt sh fR f A Z) (hz : zOK Z) : Cl l G (d + 3) 0 0 mX11_has [.ref A, .int a] (sh, f, g, fR) (RP A sh fR f g Z (hasS Z a)) := by
  obtain ⟨u, v, hr, hs, hp, hn, hP, hx⟩ := h.at
  refine VX11_has hs hp hn hP ?_
  unfold hasS
  by_cases h16 : a = nI 16
  · rw [if_pos h16]
    exact ⟨fun c => absurd h16 c, fun _ => .is h hx.2.2.1⟩
  · rw [if_neg h16]
    refine ⟨fun _ => ?_, fun c => absurd c h16⟩
    rcases pk_ix a (n := 17) (by decide) with z | z | ⟨j, hj, rfl⟩
    · rw [ixS_lo z]
      exact ⟨fun _ => .rf h, fun c => absurd z c⟩
    · rw [ixS_hi (Int32.le_trans (by decide) z)]
      exact ⟨fun _ => .rf h, fun _ => ⟨fun c => absurd (Int32.le_trans z c) (by decide), fun _ => .rf h⟩⟩
    · have hj' : j < 16 := by
        rcases (show j < 16 ∨ j = 16 by omega) with q | q
        · exact q
        · exact absurd (by rw [q]) h16
      rw [ixS_in hj' (by decide)]
      refine ⟨fun c => absurd c (nI_pos (by omega)), fun _ => ⟨fun _ => ?_, fun c => absurd (nI_le (by omega) (by decide)) c⟩⟩
      cases ht : Z.2.2.2.2 with
      | none => exact ⟨fun _ => .rf h, fun c => absurd (hx.no ht) c⟩
      | some q =>
        obtain ⟨h4, na, -, -, t⟩ := hx.td ht
        exact ⟨fun c => absurd c h4, fun _ => D_countOf hr t (hz.2.2.2.2 q ht) hj' (.rf h)⟩
theorem comp_11 {j k : Nat} (h : comp j k = 11 ∨ comp j k = 12) : j = 27 ∨ (j = 0 ∧ 13 ≤ k) := by
  unfold comp at h
  split at h <;> (repeat' split at h) <;> omega
/-- what is left alone by what reckons with the class' own world -/
theorem FW.kp {f' : FI} (hu : A + 4 ≤ u) (hu2 : u + 17 ≤ A + 38) (e : FW [11, 12] (A + 40) u f f') : ∀ r k, (kpP A u r k ∨ r = A ∨ r = A + 1 ∨ r = A + 2 ∨ r = A + 3) → f' r k = f r k := by
  intro r k z
  by_cases c : A + 40 ≤ r ∧ r < A + 72
  · obtain ⟨j, rfl⟩ : ∃ j, r = A + 40 + j := ⟨r - (A + 40), by omega⟩
    refine e.1 (comp j k) (fun hc => ?_) j k (by omega) rfl
    have hc2 : comp j k = 11 ∨ comp j k = 12 := by simpa using hc
    have := comp_11 hc2
    unfold kpP at z
    omega
  · exact e.2 r k (by omega) (by unfold kpP at z; omega) (by unfold kpP at z; omega) (by unfold kpP at z; omega) (by unfold kpP at z; omega)
theorem FW.rp {f' : FI} {v : Nat} {y : Int32} (hr : PRs sh fR A u v) (hx : PSx fR f A u Z) (e : FW [11, 12] (A + 40) u f f') : RP A sh fR f g Z y (some (.int y)) (sh, f', g, fR) := by
  obtain ⟨-, -, h1, h2, -, -⟩ := hr.pl
  have hA := hr.1.2.2.1
  refine ⟨_, _, _, rfl, rfl, ⟨u, v, hr, hx.keep hr (FW.kp h1 h2 e)⟩, fun r k z => ⟨e.2 r k (by omega) (by omega) (by omega) (by omega) (by omega), rfl⟩, fun _ _ => rfl⟩
theorem P_path {a b : Int32} (h : PSt sh fR f A Z) (hz : zOK Z) : Cl l G (d + 4) 0 0 mX11_path [.ref A, .int a, .int b] (sh, f, g, fR) (RP A sh fR f g Z (pathS Z a b)) := by
  obtain ⟨u, v, hr, hs, hp, hn, hP, hx⟩ := h.at
  obtain ⟨-, -, hu1, hu2, -, -⟩ := hr.pl
  refine VX11_path hs hp hn hP ?_
  refine D_isPathP hs hp hn hP hx hz (fun q p ht hp6 hp4 e => ⟨fun _ => ?_, fun c => absurd c (by decide)⟩) (fun hno => ⟨fun c => absurd rfl c, fun _ => .is h ?_⟩)
  · subst e
    obtain ⟨h4, na, -, -, t⟩ := hx.td ht
    have hq := hz.2.2.2.2 q ht
    have h6 := hq.1.2.2.2.2.2.1
    have hW : StW sh fR (A + 40) := hs.2.2.2.1
    obtain ⟨r1, r2, r3⟩ := rt_ok hW hp4
    obtain ⟨m, hC, hI⟩ := t.2.2.1
    have hg := hq.2.2.2.2.1
    have hg1 := hg.1
    have hqN : qN q.2.2.1 := hg.2.1.qN (by omega)
    obtain ⟨b0, b1, -, -, -, b5⟩ := hqN p
    obtain ⟨y0, y1, y2, y3, y4, y5, y6, y7⟩ := hC.rt hp4
    unfold pathS
    rw [ht]
    dsimp only
    rw [ixS_in hp6 (by omega), clN (by omega)]
    refine ⟨inbN hp4 (by decide), _, r1, r2, r3, ?_⟩
    have ex : ∀ (k : Nat) (y : Int32), k < 9 → b = nI k → y = nI (pathN q p k) → RP A sh fR f g Z (match ixS b 9 with | none => -1 | some j => nI (pathN q p j)) (some (.int y)) (sh, f, g, fR) := fun k y hk eb e2 => by
      rw [eb, ixS_in hk (by decide)]
      exact .is h e2
    have ex1 : ∀ (k n : Nat) (y : Int32), n ≤ 1 → y = nI n → k < 9 → b = nI k → pathN q p k = n → ((y = 0 → RP A sh fR f g Z (match ixS b 9 with | none => -1 | some j => nI (pathN q p j)) (some (.int (nI 0))) (sh, f, g, fR)) ∧ (¬ y = 0 → RP A sh fR f g Z (match ixS b 9 with | none => -1 | some j => nI (pathN q p j)) (some (.int (nI 1))) (sh, f, g, fR))) := fun k n y hn hy hk eb e2 => by
      rcases (show n = 0 ∨ n = 1 by omega) with rfl | rfl
      · exact ⟨fun _ => ex k _ hk eb (by rw [e2]), fun c => absurd hy c⟩
      · exact ⟨fun c => absurd (hy.symm.trans c) (by decide), fun _ => ex k _ hk eb (by rw [e2])⟩
    refine ⟨fun z => ?_, fun z => ?_, fun z => ?_, fun z => ?_, fun z => ?_, fun z => ?_, fun z => ?_, fun z => ?_, fun z => ?_, fun z => ?_⟩
    · exact ex 0 _ (by decide) z (by rw [y0 hp6, hq.2.2.1 p hp6]; rfl)
    · exact ex1 1 _ _ b0 y1 (by decide) z rfl
    · exact ex1 2 _ _ b1 y2 (by decide) z rfl
    · exact ex 3 _ (by decide) z y3
    · exact ex 4 _ (by decide) z y4
    · exact ex 5 _ (by decide) z y5
    · exact ex 6 _ (by decide) z y6
    · exact ex1 7 _ _ b5 y7 (by decide) z rfl
    · rw [z, ixS_in (j := 8) (by decide) (by decide)]
      exact D_waitOn hW hn hP (by omega) hC t.1 hqN (by omega) hq.2.2.2.1 hq.1 hp4 hp6 (fun f' e => FW.rp hr hx (e.mono (fun c hc => by simp at hc; simp [hc])))
    · rcases pk_ix b (n := 9) (by decide) with y | y | ⟨i, hi, rfl⟩
      · rw [ixS_lo y]; exact .rf h
      · rw [ixS_hi y]; exact .rf h
      · exfalso
        obtain ⟨z0, z1, z2, z3, z4, z5, z6, z7, z8⟩ := z
        have nn : ∀ k, ¬ nI i = nI k → i ≠ k := fun k z e => z (by rw [e])
        have := nn _ z0; have := nn _ z1; have := nn _ z2; have := nn _ z3; have := nn _ z4; have := nn _ z5; have := nn _ z6; have := nn _ z7; have := nn _ z8
        omega
  · unfold pathS
    cases ht : Z.2.2.2.2 with
    | none => rfl
    | some q => dsimp only; rw [hno q ht]
end PB
