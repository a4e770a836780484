/-! the reference: a statement's end, the first statement, the loop of the text -/
def finD (tp : List Nat) (n : Nat) (r : Rr (Nat × Pl)) : Rr (Nat × Pl) := bd r (fun y => bd (exS tp 59 y.1) (fun e2 => if n = 40 ∧ tkS tp e2 < tp.length then .error (6, tkS tp e2) else .ok (e2, y.2)))
def SMf (f : FI) (g : FL) (B : Nat) (tp : List Nat) (b : Nat) (r : Rr (Nat × Pl)) : Prop := MS f g B tp (rF r) ∧ f B 29 = nI b ∧ D8 f B ∧ ∀ x, r = .ok x → ∃ c, f B 28 = nI c ∧ c ≤ x.1 ∧ PIn f g B b c x.2
section MFI
variable {l : Launch} {G : Gx} {d : Nat} {sh : Sh} {fR : FRt} {B : Nat} {f f0 : FI} {g g0 : FL} {tp : List Nat} {b e : Nat} {π : Pl}
theorem R_fin {K : FI → FL → Prop} {n : Nat} {r : Rr (Nat × Pl)} (hs : StM sh fR B) (hn : n ≤ 40) (hS : SMr f g B tp b r) (H : ∀ f' g', SMf f' g' B tp b (finD tp n r) → FB B b f f' → GB B b g g' → K f' g') : Cl l G (d + 3) 0 0 mX12_finishes [.ref B, .int (nI n)] (sh, f, g, fR) (qv sh fR K) := by
  obtain ⟨r', hr', hM, h29, h8, hP⟩ := hS
  refine VX12_finishes hs ?_
  refine M_lex hs hM (fun f1 a1 a2 => ?_)
  rw [hr'] at a2
  have h291 : f1 B 29 = nI b := by rw [a1 _ _ (by omega)]; exact h29
  have h81 : D8 f1 B := h8.kp (fun k => a1 _ _ (by omega))
  cases r with
  | error x =>
    have a2 : MS f1 g B tp (.error x) := a2
    exact ⟨fun z => absurd z a2.er8.2, fun _ => ⟨_, _, rfl, rfl, H f1 g ⟨a2, h291, h81, fun x hx => (by cases hx)⟩ a1.fb GB.rf⟩⟩
  | ok y =>
    have a2 : MS f1 g B tp (bd (.ok y.1) (lexD tp)) := a2
    by_cases k4 : tkK tp y.1 = 4
    · have e4 : bd (.ok y.1 : Rr Nat) (lexD tp) = .error (bad tp y.1) := by rw [bd_ok]; unfold lexD; rw [if_pos k4]
      rw [e4] at a2
      have ex : finD tp n (.ok y) = .error (bad tp y.1) := by
        unfold finD exS
        rw [bd_ok, isSg_of (by omega)]; rfl
      rw [ex] at H
      exact ⟨fun z => absurd z a2.er8.2, fun _ => ⟨_, _, rfl, rfl, H f1 g ⟨a2, h291, h81, fun x hx => (by cases hx)⟩ a1.fb GB.rf⟩⟩
    · rw [lexD_o k4] at a2
      obtain ⟨c, h28, hc, hPI⟩ := hP y rfl k4
      have h281 : f1 B 28 = nI c := by rw [a1 _ _ (by omega)]; exact h28
      have hPI1 : PIn f1 g B b c y.2 := hPI.kp (fun r k x y => a1 _ _ (by omega)) (fun k => rfl)
      have hT := a2.2.2.2
      have h16 := a2.len
      have hEl := tkE_le a2.2.2.1
      have hsl := tkS_le hEl
      have hC := a2.1
      refine ⟨fun _ w4 hw4 => ?_, fun z => absurd a2.ok8.2 z⟩
      rw [hw4, (hT.2.2.1 k4).2.1]
      have fin : (isSg tp y.1 59 = true → ¬ (n = 40 ∧ tkS tp (tkE tp y.1) < tp.length)) → Cl l G (d + 2) 0 0 mX12_must [.ref B, .int (nI 59)] (sh, f1, g, fR) (qv sh fR fun f g => (qv sh fR K) none (sh, f, g, fR)) := by
        intro hno
        refine M_must hs a2 (by decide) (fun f2 g2 b1 b2 b3 => ⟨_, _, rfl, rfl, H f2 g2 ?_ (a1.fb.tr b1.fb) b2.gb⟩)
        have b3 : MS f2 g2 B tp (exS tp 59 y.1) := b3
        have h292 : f2 B 29 = nI b := by rw [b1 _ _ (by omega)]; exact h291
        have h82 : D8 f2 B := h81.kp (fun k => b1 _ _ (by omega))
        unfold finD
        rw [bd_ok]
        cases hz : exS tp 59 y.1 with
        | error x => rw [hz] at b3; exact ⟨b3, h292, h82, fun x hx => (by cases hx)⟩
        | ok e2 =>
          rw [hz] at b3
          obtain ⟨z1, z2, z3, z4⟩ := exS_ok hz a2.2.2.1
          have hno' := hno z1
          rw [← z2] at hno'
          rw [bd_ok, if_neg hno']
          refine ⟨b3, h292, h82, fun x hx => ?_⟩
          cases hx
          exact ⟨c, by rw [b1 _ _ (by omega)]; exact h281, by dsimp only; omega, hPI1.kp (fun r k x y => b1 _ _ (by omega)) (fun k => b2 _ _ (by omega))⟩
      have L53 : LpX12_finishes_53 l G d (qv sh fR K) sh fR B f1 g (nI n) (nI (tkS tp (tkE tp y.1))) := by
        refine VX12_finishes_53 hs ?_
        refine M_isSg hs hC.2.2.2 hT k4 (by decide) (bI_cs (fun z => fin (fun z2 => by rw [z] at z2; cases z2)) (fun z => ?_))
        rw [nI_eq (by omega) (by decide), hC.1, nI_leI (by omega) (by omega)]
        refine ⟨fun c1 => fin (fun _ y => c1 y.1), fun c1 => ⟨fun c2 => fin (fun _ y => by omega), fun c2 => ?_⟩⟩
        refine M_blame (k := 6) (pl := tkS tp (tkE tp y.1)) hs a2 (by decide) (fun _ _ => ⟨rfl, by omega⟩) (fun f2 b1 b2 => ?_)
        have b2 : MS f2 g B tp (.error (6, tkS tp (tkE tp y.1))) := b2
        refine M_must hs b2 (by decide) (fun f3 g3 d1 d2 d3 => ⟨_, _, rfl, rfl, H f3 g3 ?_ ((a1.fb.tr b1.fm.fb).tr d1.fb) d2.gb⟩)
        have d3 : MS f3 g3 B tp (.error (6, tkS tp (tkE tp y.1))) := d3
        have ex : finD tp n (.ok y) = .error (6, tkS tp (tkE tp y.1)) := by
          unfold finD exS
          rw [bd_ok, if_pos z, bd_ok, if_pos ⟨c1, by omega⟩]
        rw [ex]
        exact ⟨d3, by rw [d1 _ _ (by omega), b1 _ _ (by omega)]; exact h291, (h81.kp (fun k => b1 _ _ (by omega))).kp (fun k => d1 _ _ (by omega)), fun x hx => (by cases hx)⟩
      have loop : ∀ m a, tp.length - a = m → a ≤ tp.length → tkS tp a = tkS tp (tkE tp y.1) → LpX12_finishes_17 l G d (qv sh fR K) sh fR B f1 g (nI n) (nI a) := by
        intro m
        induction m with
        | zero =>
          intro a hm ha hS
          refine VX12_finishes_17 hs ?_
          rw [hC.1]
          rw [tkS_stop (Or.inl (by omega))] at hS
          rw [hS]
          exact ⟨fun _ => L53, fun z => absurd (nI_le (by omega) (by omega)) z⟩
        | succ m ih =>
          intro a hm ha hS
          have hlt : a < tp.length := by omega
          have hbb := bt_lt hC.2.2.2 a
          have go : isBl (bt tp a) = true → LpX12_finishes_47 l G d (qv sh fR K) sh fR B f1 g (nI n) (nI a) := fun cb => by
            refine VX12_finishes_47 hs ?_
            rw [nI_add]
            exact ih (a + 1) (by omega) (by omega) (by rw [tkS_step hlt cb]; exact hS)
          refine VX12_finishes_17 hs ?_
          rw [hC.1, clN (by omega), hC.2.2.1 a hlt, nI_eq (by omega) (by decide), nI_eq (by omega) (by decide)]
          refine ⟨fun cz => absurd cz (nI_ge hlt (by omega)), fun _ => ⟨inbN (by omega) (by decide), fun cz => go (isBl_i.mpr (Or.inl cz)), fun cz => ⟨inbN (by omega) (by decide), fun cz2 => ?_, fun cz2 => go (isBl_i.mpr (Or.inr cz2))⟩⟩⟩
          rw [tkS_stop (Or.inr (by unfold isBl; simp [cz, cz2]))] at hS
          rw [hS]
          exact L53
      exact loop _ _ rfl hEl rfl
theorem R_str {K : FI → FL → Prop} (hs : StM sh fR B) (hM : MS f g B tp (.ok 0)) (h29 : f B 29 = nI b) (hb : b < 2) (h8 : D8 f B) (h28 : f B 28 = nI 0) (h6 : f (B + 6) b = nI 0) (h10 : f (B + 10) b = nI 0) (h11 : ∀ i, i < 4 → f (B + 11) (4 * b + i) = -1) (H : ∀ f' g', SMr f' g' B tp b (strD tp 0) → FB B b f f' → GB B b g g' → K f' g') : Cl l G (d + 3) 0 0 mX12_streamIs [.ref B] (sh, f, g, fR) (qv sh fR K) := by
  have pos : ∀ (k lo hi : Nat) (r : Rr Nat) (y : Nat × Nat), (∀ e, r = .ok e → e ≤ tp.length) → bd (bd r (exW tp k)) (numD tp lo hi) = .ok y → 0 < y.1 ∧ y.1 ≤ tp.length := fun k lo hi r y hr hy => by
    obtain ⟨e1, q1, q2⟩ := bd_in hy
    obtain ⟨e0, q3, q4⟩ := bd_in q1
    obtain ⟨-, -, q5, q6⟩ := exW_ok q4 (hr e0 q3)
    obtain ⟨-, q7, q8⟩ := numD_ok q2 q6
    exact ⟨by omega, q8⟩
  have ps1 : ∀ (k : Nat) (r : Rr Nat), (∀ e, r = .ok e → e ≤ tp.length) → ∀ e, bd r (exW tp k) = .ok e → 0 < e := fun k r hr e he => by
    obtain ⟨e0, q3, q4⟩ := bd_in he
    have := (exW_ok q4 (hr e0 q3)).2.2.1
    omega
  have rFl : ∀ (n : Rr (Nat × Nat)), (∀ y, n = .ok y → y.1 ≤ tp.length) → ∀ e, rF n = .ok e → e ≤ tp.length := fun n hn e he => by
    cases n with
    | error x => cases he
    | ok y => cases he; exact hn y rfl
  have l0 : ∀ e, (.ok 0 : Rr Nat) = .ok e → e ≤ tp.length := fun e he => by cases he; exact Nat.zero_le _
  have inb2 : inb (nI b) 2 := inbN hb (by decide)
  refine VX12_streamIs hs ?_
  refine M_mustW (k := 0) hs hM (by decide) (by decide +kernel) (fun f1 g1 a1 a2 a3 => ?_)
  rw [show f1 B 29 = nI b by rw [a1 _ _ (by omega)]; exact h29, clN (k := b) (by omega)]
  refine M_num hs a3 (by decide) (by decide) (ps1 0 _ l0) (fun f2 g2 v1 b1 b2 b3 b4 b5 => ⟨inb2, ?_⟩)
  obtain ⟨n1, hn1⟩ : ∃ n, n = bd (bd (.ok 0) (exW tp 0)) (numD tp 1 200) := ⟨_, rfl⟩
  have l1 : ∀ y, n1 = .ok y → y.1 ≤ tp.length := fun y hy => (pos 0 1 200 _ y l0 (by rw [← hn1]; exact hy)).2
  rw [← hn1] at b3 b5
  obtain ⟨F1, hF1⟩ : ∃ F : FI, F = up2 f2 (B + 2) b (nI v1) := ⟨_, rfl⟩
  rw [← hF1]
  have k1 : ∀ r k, ¬ (r = B + 2 ∧ k = b) → F1 r k = f2 r k := fun r k z => by rw [hF1, up2_ne z]
  have fm2 : Fm B f f2 := a1.tr b1
  refine M_mustW (k := 1) hs (b3.kp (fun k hk => k1 _ _ (by omega)) (fun k => k1 _ _ (by omega))) (by decide) (by decide +kernel) (fun f3 g3 c1 c2 c3 => ?_)
  rw [show f3 B 29 = nI b by rw [c1 _ _ (by omega), k1 _ _ (by omega), fm2 _ _ (by omega)]; exact h29, clN (k := b) (by omega)]
  refine M_num hs c3 (by decide) (by decide) (ps1 1 _ (rFl n1 l1)) (fun f4 g4 v2 d1 d2 d3 d4 d5 => ⟨inb2, ?_⟩)
  obtain ⟨n2, hn2⟩ : ∃ n, n = bd (bd (rF n1) (exW tp 1)) (numD tp 1 20) := ⟨_, rfl⟩
  have l2 : ∀ y, n2 = .ok y → y.1 ≤ tp.length := fun y hy => (pos 1 1 20 _ y (rFl n1 l1) (by rw [← hn2]; exact hy)).2
  rw [← hn2] at d3 d5
  obtain ⟨F2, hF2⟩ : ∃ F : FI, F = up2 f4 (B + 3) b (nI v2) := ⟨_, rfl⟩
  rw [← hF2]
  have k2 : ∀ r k, ¬ (r = B + 3 ∧ k = b) → F2 r k = f4 r k := fun r k z => by rw [hF2, up2_ne z]
  have fm4 : Fm B F1 f4 := c1.tr d1
  refine M_mustW (k := 2) hs (d3.kp (fun k hk => k2 _ _ (by omega)) (fun k => k2 _ _ (by omega))) (by decide) (by decide +kernel) (fun f5 g5 e1 e2 e3 => ?_)
  rw [show f5 B 29 = nI b by rw [e1 _ _ (by omega), k2 _ _ (by omega), fm4 _ _ (by omega), k1 _ _ (by omega), fm2 _ _ (by omega)]; exact h29, clN (k := b) (by omega)]
  refine M_num hs e3 (by decide) (by decide) (ps1 2 _ (rFl n2 l2)) (fun f6 g6 v3 i1 i2 i3 i4 i5 => ⟨inb2, ?_⟩)
  obtain ⟨n3, hn3⟩ : ∃ n, n = bd (bd (rF n2) (exW tp 2)) (numD tp 10 99) := ⟨_, rfl⟩
  have l3 : ∀ y, n3 = .ok y → y.1 ≤ tp.length := fun y hy => (pos 2 10 99 _ y (rFl n2 l2) (by rw [← hn3]; exact hy)).2
  rw [← hn3] at i3 i5
  obtain ⟨F3, hF3⟩ : ∃ F : FI, F = up2 f6 (B + 4) b (nI v3) := ⟨_, rfl⟩
  rw [← hF3]
  have k3 : ∀ r k, ¬ (r = B + 4 ∧ k = b) → F3 r k = f6 r k := fun r k z => by rw [hF3, up2_ne z]
  have fm6 : Fm B F2 f6 := e1.tr i1
  refine M_mustW (k := 3) hs (i3.kp (fun k hk => k3 _ _ (by omega)) (fun k => k3 _ _ (by omega))) (by decide) (by decide +kernel) (fun f7 g7 j1 j2 j3 => ?_)
  rw [show f7 B 29 = nI b by rw [j1 _ _ (by omega), k3 _ _ (by omega), fm6 _ _ (by omega), k2 _ _ (by omega), fm4 _ _ (by omega), k1 _ _ (by omega), fm2 _ _ (by omega)]; exact h29, clN (k := b) (by omega)]
  refine M_num hs j3 (by decide) (by decide) (ps1 3 _ (rFl n3 l3)) (fun f8 g8 v4 m1 m2 m3 m4 m5 => ⟨inb2, ⟨_, _, rfl, rfl, ?_⟩⟩)
  obtain ⟨n4, hn4⟩ : ∃ n, n = bd (bd (rF n3) (exW tp 3)) (numD tp 0 999) := ⟨_, rfl⟩
  rw [← hn4] at m3 m5
  obtain ⟨F4, hF4⟩ : ∃ F : FI, F = up2 f8 (B + 5) b (nI v4) := ⟨_, rfl⟩
  rw [← hF4]
  have k4 : ∀ r k, ¬ (r = B + 5 ∧ k = b) → F4 r k = f8 r k := fun r k z => by rw [hF4, up2_ne z]
  have fm8 : Fm B F3 f8 := j1.tr m1
  have hMF := m3.kp (f' := F4) (fun k hk => k4 _ _ (by omega)) (fun k => k4 _ _ (by omega))
  have old : ∀ r k, ¬ (r = B ∧ (k = 3 ∨ k = 4 ∨ k = 5 ∨ k = 6 ∨ k = 8 ∨ k = 9 ∨ k = 12)) → ¬ ((B + 2 ≤ r ∧ r ≤ B + 5) ∧ k = b) → F4 r k = f r k := fun r k z z2 => by
    rw [k4 _ _ (by omega), fm8 _ _ z, k3 _ _ (by omega), fm6 _ _ z, k2 _ _ (by omega), fm4 _ _ z, k1 _ _ (by omega), fm2 _ _ z]
  have fb : FB B b f F4 := fun r k z z2 => old r k (fun y => z (Or.inl ⟨y.1, by omega⟩)) (fun y => z2 (Or.inl ⟨Or.inl ⟨by omega, by omega⟩, y.2⟩))
  have gb : GB B b g g8 := ((((((((a2.tr b2).tr c2).tr d2).tr e2).tr i2).tr j2).tr m2)).gb
  have h29F : F4 B 29 = nI b := by rw [old _ _ (by omega) (by omega)]; exact h29
  have h8F : D8 F4 B := h8.kp (fun k => old _ _ (by omega) (by omega))
  refine H F4 g8 ?_ fb gb
  rw [strD_eq hn1 hn2 hn3 hn4]
  cases n4 with
  | error x => exact ⟨_, rfl, hMF, h29F, h8F, fun x hx => (by cases hx)⟩
  | ok y =>
    obtain ⟨y3, hy3⟩ : ∃ y, n3 = .ok y := by
      cases n3 with
      | error x => cases hn4
      | ok y => exact ⟨y, rfl⟩
    obtain ⟨y2, hy2⟩ : ∃ y, n2 = .ok y := by
      cases n2 with
      | error x => rw [hy3] at hn3; cases hn3
      | ok y => exact ⟨y, rfl⟩
    obtain ⟨y1, hy1⟩ : ∃ y, n1 = .ok y := by
      cases n1 with
      | error x => rw [hy2] at hn2; cases hn2
      | ok y => exact ⟨y, rfl⟩
    have w1 : v1 = vOf n1 := by rw [b5 y1 hy1, hy1]; rfl
    have w2 : v2 = vOf n2 := by rw [d5 y2 hy2, hy2]; rfl
    have w3 : v3 = vOf n3 := by rw [i5 y3 hy3, hy3]; rfl
    have w4 : v4 = y.2 := m5 y rfl
    refine ⟨_, rfl, hMF, h29F, h8F, fun x hx _ => ?_⟩
    cases hx
    refine ⟨0, by rw [old _ _ (by omega) (by omega)]; exact h28, Nat.zero_le _, ⟨⟨?_, ?_, ?_, ?_, ?_, ?_⟩, fun i hi => absurd hi (Nat.not_lt_zero _), fun i hi => absurd hi (Nat.not_lt_zero _), fun i hi => ?_, fun i hi => absurd hi (Nat.not_lt_zero _)⟩⟩
    · show F4 (B + 2) b = nI (vOf n1)
      rw [k4 _ _ (by omega), fm8 _ _ (by omega), k3 _ _ (by omega), fm6 _ _ (by omega), k2 _ _ (by omega), fm4 _ _ (by omega), hF1, up2_eq, w1]
    · show F4 (B + 3) b = nI (vOf n2)
      rw [k4 _ _ (by omega), fm8 _ _ (by omega), k3 _ _ (by omega), fm6 _ _ (by omega), hF2, up2_eq, w2]
    · show F4 (B + 4) b = nI (vOf n3)
      rw [k4 _ _ (by omega), fm8 _ _ (by omega), hF3, up2_eq, w3]
    · show F4 (B + 5) b = nI y.2
      rw [hF4, up2_eq, w4]
    · rw [old _ _ (by omega) (by omega)]; exact h10
    · rw [old _ _ (by omega) (by omega)]; exact h6
    · show F4 (B + 11) (4 * b + i) = -1
      rw [old _ _ (by omega) (by omega)]; exact h11 i hi
theorem stmD_0 {y : Nat × Pl} (h : stmD tp π e = .ok y) : y.2.1 0 = π.1 0 := by
  have hf : ∀ w, forD tp π w e = .ok y → y.2.1 0 = π.1 0 := fun w h => by
    unfold forD at h
    split at h
    · cases h
    · obtain ⟨q, h1, h⟩ := bd_in h
      cases h; rfl
  unfold stmD at h
  split at h
  · unfold pthD at h
    split at h
    · cases h
    · obtain ⟨e2, h1, h⟩ := bd_in h
      split at h
      · cases h
      · obtain ⟨e3, h2, h⟩ := bd_in h
        obtain ⟨n, h3, h⟩ := bd_in h
        cases h; rfl
  split at h
  · unfold jonD at h
    obtain ⟨e2, h1, h⟩ := bd_in h
    split at h
    · cases h
    · obtain ⟨e3, h2, h⟩ := bd_in h
      obtain ⟨n, h3, h⟩ := bd_in h
      obtain ⟨e4, h4, h⟩ := bd_in h
      obtain ⟨n2, h5, h⟩ := bd_in h
      cases h; rfl
  split at h
  · unfold losD at h
    obtain ⟨n, h3, h⟩ := bd_in h
    cases h; rfl
  split at h
  · exact hf 0 h
  split at h
  · exact hf 1 h
  split at h
  · exact hf 2 h
  split at h
  · exact hf 3 h
  · cases h
theorem tkK_0i : tkK tp e = 0 ↔ tp.length ≤ tkS tp e := by
  unfold tkK
  by_cases c : tp.length ≤ tkS tp e
  · rw [if_pos c]; exact ⟨fun _ => c, fun _ => rfl⟩
  · rw [if_neg c]
    refine ⟨fun h => ?_, fun h => absurd h c⟩
    exfalso
    (repeat' split at h) <;> cases h
/-- what the reading comes to -/
def FTx (f : FI) (g : FL) (B : Nat) (tp : List Nat) (b n : Nat) (r : Rr Pl) : Prop := match r with
  | .ok π => (∃ e, SMo f g B tp b e π) ∧ π.1 0 = n ∧ xOK π
  | .error x => MS f g B tp (.error x) ∧ f B 29 = nI b ∧ D8 f B
theorem SMf.er {x : Nat × Nat} {n : Nat} (h : SMf f g B tp b (.error x)) : FTx f g B tp b n (.error x) := ⟨h.1, h.2.1, h.2.2.1⟩
theorem L_er {Q : Option Value → Hp → Prop} {x : Nat × Nat} {a : Int32} (hs : StM sh fR B) (h : MS f g B tp (.error x)) (H : LpX12_stream_139 l G d Q sh fR B f g a) : LpX12_stream_110 l G d Q sh fR B f g a :=
  VX12_stream_110 hs ⟨fun _ => H, fun z => absurd z h.er8.1⟩
theorem R_lpT {Q : Option Value → Hp → Prop} (hs : StM sh fR B) (hb : b < 2) : ∀ (m n : Nat) (f : FI) (g : FL) (e : Nat) (π : Pl), m + n = 40 → 0 < n → (n = 40 → tkK tp e = 0) → SMo f g B tp b e π → xOK π → π.1 0 = n → FB B b f0 f → GB B b g0 g → (∀ f' g' n', n' ≤ 40 → FTx f' g' B tp b n' (lpT tp m π e) → FB B b f0 f' → GB B b g0 g' → LpX12_stream_139 l G d Q sh fR B f' g' (nI n')) → LpX12_stream_110 l G d Q sh fR B f g (nI n) := by
  intro m
  have done : ∀ (m n : Nat) (f : FI) (g : FL) (e : Nat) (π : Pl), n ≤ 40 → tkK tp e = 0 → SMo f g B tp b e π → xOK π → π.1 0 = n → FB B b f0 f → GB B b g0 g → (∀ f' g' n', n' ≤ 40 → FTx f' g' B tp b n' (lpT tp m π e) → FB B b f0 f' → GB B b g0 g' → LpX12_stream_139 l G d Q sh fR B f' g' (nI n')) → LpX12_stream_110 l G d Q sh fR B f g (nI n) := by
    intro m n f g e π hn k0 hS hx h0 hF hG H
    have hT := hS.1.2.2.2
    have hl : lpT tp m π e = .ok π := by cases m <;> (unfold lpT; rw [if_pos k0])
    rw [hl] at H
    exact VX12_stream_110 hs ⟨fun z => absurd hS.1.ok8.1 z, fun _ => ⟨fun _ => H f g n hn ⟨⟨e, hS⟩, h0, hx⟩ hF hG, fun z => absurd (by rw [(hT.2.2.1 (by omega)).1, k0]; rfl) z⟩⟩
  induction m with
  | zero =>
    intro n f g e π hn hn0 h40 hS hx h0 hF hG H
    exact done 0 n f g e π (by omega) (h40 (by omega)) hS hx h0 hF hG H
  | succ m ih =>
    intro n f g e π hn hn0 h40 hS hx h0 hF hG H
    by_cases k0 : tkK tp e = 0
    · exact done (m + 1) n f g e π (by omega) k0 hS hx h0 hF hG H
    have hT := hS.1.2.2.2
    have hkk := @tkK_le tp e
    have h3 : ¬ f B 3 = 0 := by
      by_cases k4 : tkK tp e = 4
      · exact hT.2.2.2.2.1 k4
      · rw [(hT.2.2.1 k4).1]
        exact nI_ne0 (by omega) (by omega)
    refine VX12_stream_110 hs ⟨fun z => absurd hS.1.ok8.1 z, fun _ => ⟨fun z => absurd z h3, fun _ => ?_⟩⟩
    refine R_stm hs hS hx (fun f1 g1 a1 a2 a3 => ?_)
    rw [nI_add]
    refine R_fin (d := d + 3) (n := n + 1) hs (by omega) a1 (fun f2 g2 b1 b2 b3 => ?_)
    unfold lpT at H
    rw [if_neg k0] at H
    have hF2 := (hF.tr a2).tr b2
    have hG2 := (hG.tr a3).tr b3
    have erc : ∀ x, finD tp (n + 1) (stmD tp π e) = .error x → bd (stmD tp π e) (fun q => bd (exS tp 59 q.1) (fun e' => lpT tp m (pNum q.2 0 (q.2.1 0 + 1)) e')) = .error x → LpX12_stream_110 l G d Q sh fR B f2 g2 (nI (n + 1)) := fun x h1 h2 => by
      rw [h1] at b1
      rw [h2] at H
      exact L_er hs b1.1 (H f2 g2 (n + 1) (by omega) b1.er hF2 hG2)
    cases hy : stmD tp π e with
    | error x => rw [hy] at erc; exact erc x rfl rfl
    | ok y =>
      rw [hy] at erc b1 H
      obtain ⟨x1, x2, x3⟩ := stmD_ok hS.1.2.2.1 hy hx
      cases hz : exS tp 59 y.1 with
      | error x =>
        refine erc x ?_ ?_
        · unfold finD; rw [bd_ok, hz]; rfl
        · rw [bd_ok, hz]; rfl
      | ok e' =>
        by_cases c40 : n + 1 = 40 ∧ tkS tp e' < tp.length
        · have hm : m = 0 := by omega
          subst hm
          refine erc (6, tkS tp e') ?_ ?_
          · unfold finD; rw [bd_ok, hz, bd_ok, if_pos c40]
          · rw [bd_ok, hz, bd_ok]
            unfold lpT
            rw [if_neg (fun z => by have := tkK_0i.mp z; omega)]
        · have hfd : finD tp (n + 1) (.ok y) = .ok (e', y.2) := by unfold finD; rw [bd_ok, hz, bd_ok, if_neg c40]
          rw [hfd] at b1
          rw [bd_ok, hz, bd_ok] at H
          obtain ⟨m1, m2, m3, m4⟩ := b1
          have hy0 := stmD_0 hy
          refine ih (n + 1) f2 g2 e' (pNum y.2 0 (y.2.1 0 + 1)) (by omega) (by omega) (fun z => tkK_0i.mpr (by omega)) ⟨m1, m2, hb, m3, m4 (e', y.2) rfl⟩ x1.num0 ?_ hF2 hG2 H
          show fu y.2.1 0 (y.2.1 0 + 1) 0 = n + 1
          rw [fu_eq, hy0, h0]
end MFI
