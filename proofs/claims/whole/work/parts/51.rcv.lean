/-! the class' small parts: pieces' head, receiver, routes -/
theorem cpy_in {f : FI} {r r' sp dp n j : Nat} (h : dp ≤ j) (h2 : j < dp + n) : cpy f r r' sp dp n r' j = f r (sp + (j - dp)) := by
  unfold cpy
  rw [if_pos rfl, pk_cpy_in h h2]
theorem cpy_out {f : FI} {r r' sp dp n j : Nat} (h : j < dp ∨ dp + n ≤ j) : cpy f r r' sp dp n r' j = f r' j := by
  unfold cpy
  rw [if_pos rfl, pk_cpy_out h]
theorem acOKN {sp dp n n0 n1 : Nat} (h0 : sp + n ≤ n0) (h1 : dp + n ≤ n1) (a : n0 < 2 ^ 31) (b : n1 < 2 ^ 31) : acOK (nI sp) (nI dp) (nI n) n0 n1 := ⟨nI_pos (by omega), nI_pos (by omega), nI_pos (by omega), by rw [clN (by omega), clN (by omega)]; exact h0, by rw [clN (by omega), clN (by omega)]; exact h1⟩
/-- how many bytes of these are not taken -/
def freshS (tk : Nat → Bool) (a : Nat) : Nat → Nat
  | 0 => 0
  | n + 1 => if tk (a + n) then freshS tk a n else freshS tk a n + 1
def tkU (tk : Nat → Bool) (a n : Nat) : Nat → Bool := fun b => (decide (a ≤ b) && decide (b < a + n)) || tk b
def cntT (tk : Nat → Bool) (len : Nat) : Nat := forN len (fun b n => if tk b then n + 1 else n) 0
theorem cntT_add {tk tk' : Nat → Bool} {j : Nat} (h : ∀ b, tk' b = (b == j || tk b)) : ∀ len, j < len → cntT tk' len = if tk j then cntT tk len else cntT tk len + 1 := by
  have low : ∀ len, len ≤ j → cntT tk' len = cntT tk len := by
    intro len
    induction len with
    | zero => intro _; rfl
    | succ n ih =>
      intro hn
      show (if tk' n then cntT tk' n + 1 else cntT tk' n) = (if tk n then cntT tk n + 1 else cntT tk n)
      rw [ih (by omega), h n]
      have : (n == j) = false := by simp; omega
      rw [this, Bool.false_or]
  intro len
  induction len with
  | zero => intro hj; omega
  | succ n ih =>
    intro hj
    show (if tk' n then cntT tk' n + 1 else cntT tk' n) = if tk j then (if tk n then cntT tk n + 1 else cntT tk n) else (if tk n then cntT tk n + 1 else cntT tk n) + 1
    by_cases e : n = j
    · subst e
      rw [low n (Nat.le_refl _), h n]
      cases tk n <;> simp
    · rw [ih (by omega), h n]
      have : (n == j) = false := by simp; omega
      rw [this, Bool.false_or]
      cases tk n <;> cases tk j <;> simp
theorem cntT_U {tk : Nat → Bool} {a len : Nat} : ∀ n, a + n ≤ len → cntT (tkU tk a n) len = cntT tk len + freshS tk a n := by
  intro n
  induction n with
  | zero =>
    intro _
    have : tkU tk a 0 = tk := by
      funext b
      unfold tkU
      have : (decide (a ≤ b) && decide (b < a + 0)) = false := by
        by_cases h : a ≤ b
        · simp
          try omega
        · simp [h]
      rw [this, Bool.false_or]
    rw [this]
    rfl
  | succ n ih =>
    intro h
    have e := cntT_add (tk := tkU tk a n) (tk' := tkU tk a (n + 1)) (j := a + n) (fun b => by
      unfold tkU
      by_cases h1 : b = a + n
      · subst h1
        simp
      · have h2 : (b == a + n) = false := by simp [h1]
        rw [h2, Bool.false_or]
        congr 2
        simp only [decide_eq_decide]
        omega) len (by omega)
    rw [e, ih (by omega)]
    have e2 : tkU tk a n (a + n) = tk (a + n) := by
      unfold tkU
      simp
    rw [e2]
    show _ = _ + (if tk (a + n) then freshS tk a n else freshS tk a n + 1)
    cases tk (a + n) <;> simp <;> omega
theorem freshS_0 {w : Wd} {a : Nat} : ∀ n, (freshS w.2.2.2.2.2.1 a n = 0) ↔ allTk w a n = true := by
  intro n
  induction n with
  | zero => exact ⟨fun _ => rfl, fun _ => rfl⟩
  | succ n ih =>
    show ((if w.2.2.2.2.2.1 (a + n) then freshS w.2.2.2.2.2.1 a n else freshS w.2.2.2.2.2.1 a n + 1) = 0) ↔ (allTk w a n && w.2.2.2.2.2.1 (a + n)) = true
    cases hz : w.2.2.2.2.2.1 (a + n) with
    | true => simpa using ih
    | false => simp
theorem freshS_le {tk : Nat → Bool} {a : Nat} : ∀ n, freshS tk a n ≤ n := by
  intro n
  induction n with
  | zero => exact Nat.le_refl _
  | succ n ih =>
    show (if tk (a + n) then freshS tk a n else freshS tk a n + 1) ≤ n + 1
    split <;> omega
theorem allTk_U {w : Wd} {a : Nat} : ∀ n, allTk w a n = true → ∀ b, tkU w.2.2.2.2.2.1 a n b = w.2.2.2.2.2.1 b := by
  intro n h b
  unfold tkU
  by_cases hb : a ≤ b ∧ b < a + n
  · have : ∀ n, allTk w a n = true → ∀ i, i < n → w.2.2.2.2.2.1 (a + i) = true := by
      intro n
      induction n with
      | zero => intro _ i hi; omega
      | succ n ih =>
        intro h i hi
        replace h : (allTk w a n && w.2.2.2.2.2.1 (a + n)) = true := h
        rw [Bool.and_eq_true] at h
        by_cases e : i = n
        · subst e; exact h.2
        · exact ih h.1 i (by omega)
    have := this n h (b - a) (by omega)
    rw [show a + (b - a) = b by omega] at this
    simp [this]
  · have : (decide (a ≤ b) && decide (b < a + n)) = false := by
      by_cases h1 : a ≤ b
      · simp [h1]; omega
      · simp [h1]
    rw [this, Bool.false_or]
section RC
variable {l : Launch} {G : Gx} {d : Nat} {sh : Sh} {fR : FRt} {x : Nat} {f : FI} {g : FL} {π : Pl} {win : Nat} {dl : Nat → Nat} {t : Int} {w : Wd} {m : List (Nat × Nat)} {la : List An}
theorem D_pPop {K : FI → FL → Prop} {q : Nat × Nat} {ms : List (Nat × Nat)} (hs : StW sh fR x) (hg : PWp f x (q :: ms)) (H : ∀ f' : FI, PWp f' x ms → Oc [6] x f f' → K f' g) : Cl l G (d + 1) 0 0 mX5_removeFirst [.ref (x + 20)] (sh, f, g, fR) (qv sh fR K) := by
  obtain ⟨h8, hl, hg⟩ := hg
  rw [List.length_cons] at h8 hl
  have e1 : nI (ms.length + 1) - nI 1 = nI ms.length := by
    rw [pk_sub (by omega)]
    rfl
  refine VX5_removeFirst hs ?_
  rw [h8, e1, clN (by omega)]
  refine ⟨fun z => absurd z (nI_nle (by omega) (by omega)), fun _ => ⟨acOKN (by omega) (by omega) (by decide) (by decide), acOKN (by omega) (by omega) (by decide) (by decide), _, _, rfl, rfl, H _ ⟨?_, by omega, fun k z hz => ⟨?_, ?_⟩⟩ ⟨fun c hc j k hj e => ?_, fun r k hr => ?_⟩⟩⟩
  · rw [cpy_r (by omega), cpy_r (by omega), up2_eq]
  · have hlt := (List.getElem?_eq_some_iff.mp hz).1
    rw [cpy_r (by omega), cpy_in (by omega) (by omega), up2_r (by omega), show 1 + (k - 0) = k + 1 by omega]
    exact (hg (k + 1) z hz).1
  · have hlt := (List.getElem?_eq_some_iff.mp hz).1
    rw [cpy_in (by omega) (by omega), cpy_r (by omega), up2_r (by omega), show 1 + (k - 0) = k + 1 by omega]
    exact (hg (k + 1) z hz).2
  · have h6 : c ≠ 6 := fun z => hc (by rw [z]; exact List.mem_singleton.mpr rfl)
    have n20 : j ≠ 20 := fun z => by subst z; exact h6 e.symm
    have n21 : j ≠ 21 := fun z => by subst z; exact h6 e.symm
    have n22 : j ≠ 22 := fun z => by subst z; exact h6 e.symm
    rw [cpy_r (by omega), cpy_r (by omega), up2_r (by omega)]
  · rw [cpy_r (by omega), cpy_r (by omega), up2_r (by omega)]
theorem D_missing {K : Int32 → FI → FL → Prop} {n r4 len : Nat} {tk : Nat → Bool} (hs : StW sh fR x) (ht : PWt f x n tk) (h4 : f (x + 2) 5 = nI r4) (h2 : f (x + 2) 2 = nI len) (hlen : len ≤ 200) (hr : r4 ≤ 1000) (H : K (nI (lackS tk (len - r4) r4)) f g) : Cl l G d 0 0 mX7_missing [.ref (x + 2)] (sh, f, g, fR) (qi sh fR K) := by
  refine VX7_missing hs ?_
  intro a ea
  subst ea
  rw [h4]
  have loop : ∀ (k b : Nat), (b ≤ len → k = len - b) → (len ≤ b → k = 0) → b ≤ 1000 → lackS tk k b = lackS tk (len - r4) r4 → LpX7_missing_5 l G d (qi sh fR K) sh fR x f g (nI b) := by
    intro k
    induction k with
    | zero =>
      intro b h1 h3 hb e
      refine VX7_missing_5 hs ?_
      rw [h2]
      have : len ≤ b := by
        refine Nat.not_lt.mp (fun z => ?_)
        have := h1 (by omega)
        omega
      refine ⟨fun _ => ⟨_, _, _, rfl, rfl, ?_⟩, fun z => absurd (nI_le this (by omega)) z⟩
      rw [← e] at H
      exact H
    | succ k ih =>
      intro b h1 h3 hb e
      have hlt : b < len := by
        refine Nat.not_le.mp (fun z => ?_)
        have := h3 z
        omega
      have hk := h1 (by omega)
      refine VX7_missing_5 hs ?_
      rw [h2, clN (by omega), ht.1 b (by omega)]
      refine ⟨fun z => absurd z (nI_ge hlt (by omega)), fun _ => ⟨inbN (by omega) (by decide), fun c => ⟨_, _, _, rfl, rfl, ?_⟩, fun c => ?_⟩⟩
      · have z := bI_0.mp c
        have e2 : lackS tk (k + 1) b = b := by
          show (if tk b then lackS tk k (b + 1) else b) = b
          rw [z]
          rfl
        rw [← e, e2] at H
        exact H
      · have z := bI_ne0 c
        rw [nI_add]
        refine ih (b + 1) (by omega) (by omega) (by omega) ?_
        rw [← e]
        show _ = (if tk b then lackS tk k (b + 1) else b)
        rw [z]
        rfl
  exact loop (len - r4) r4 (fun _ => rfl) (fun h => by omega) hr rfl
theorem D_take {K : Int32 → FI → FL → Prop} {n a b : Nat} {tk : Nat → Bool} (hs : StW sh fR x) (ht : PWt f x n tk) (hab : a + b ≤ 200) (H : ∀ f' : FI, PWt f' x (n + freshS tk a b) (tkU tk a b) → Oc [8] x f f' → K (nI (freshS tk a b)) f' g) : Cl l G d 0 0 mX7_take [.ref (x + 2), .int (nI a), .int (nI b)] (sh, f, g, fR) (qi sh fR K) := by
  refine VX7_take hs ?_
  have loop : ∀ (k i : Nat) (f0 : FI), k + i = b → (∀ y, y < 200 → f0 (x + 3) y = bI (tkU tk a i y)) → f0 (x + 2) 4 = nI n → Oc [8] x f f0 → LpX7_take_5 l G d (qi sh fR K) sh fR x f0 g (nI a) (nI b) (nI (freshS tk a i)) (nI (a + i)) := by
    intro k
    induction k with
    | zero =>
      intro i f0 hi e1 e2 hO
      rw [Nat.zero_add] at hi
      subst hi
      refine VX7_take_5 hs ?_
      rw [nI_add, e2, nI_add]
      refine ⟨fun _ => ⟨_, _, _, rfl, rfl, H _ ⟨fun y hy => by rw [up2_r (by omega)]; exact e1 y hy, up2_eq⟩ (hO.up (by decide) (by show (8 : Nat) ∈ _; decide))⟩, fun z => absurd (nI_le (Nat.le_refl _) (by omega)) z⟩
    | succ k ih =>
      intro i f0 hi e1 e2 hO
      have hU : tkU tk a i (a + i) = tk (a + i) := by
        unfold tkU
        simp
      have hU2 : ∀ y, tkU tk a (i + 1) y = (y == a + i || tkU tk a i y) := by
        intro y
        unfold tkU
        by_cases h1 : y = a + i
        · subst h1
          simp
        · have h2 : (y == a + i) = false := by simp [h1]
          rw [h2, Bool.false_or]
          congr 2
          simp only [decide_eq_decide]
          omega
      refine VX7_take_5 hs ?_
      rw [nI_add, clN (by omega), e1 (a + i) (by omega), hU]
      refine ⟨fun z => absurd z (nI_ge (by omega) (by omega)), fun _ => ⟨fun z => absurd z (nI_ge (by omega) (by omega)), fun _ => ⟨inbN (by omega) (by decide), fun c => ?_, fun c => ⟨inbN (by omega) (by decide), ?_⟩⟩⟩⟩
      · have z := bI_ne0 c
        refine VX7_take_42 hs ?_
        rw [nI_add]
        have := ih (i + 1) f0 (by omega) (fun y hy => ?_) e2 hO
        · have e3 : freshS tk a (i + 1) = freshS tk a i := by
            show (if tk (a + i) then freshS tk a i else freshS tk a i + 1) = _
            rw [z]
            rfl
          rw [e3] at this
          exact this
        · rw [e1 y hy, hU2 y]
          by_cases ey : y = a + i
          · subst ey
            rw [hU, z]
            simp
          · have : (y == a + i) = false := by simp [ey]
            rw [this, Bool.false_or]
      · have z := bI_0.mp c
        refine VX7_take_42 hs ?_
        rw [nI_add, nI_add]
        have := ih (i + 1) (up2 f0 (x + 3) (a + i) (nI 1)) (by omega) (fun y hy => ?_) (by rw [up2_r (by omega)]; exact e2) (hO.up (by decide) (by show (8 : Nat) ∈ _; decide))
        · have e3 : freshS tk a (i + 1) = freshS tk a i + 1 := by
            show (if tk (a + i) then freshS tk a i else freshS tk a i + 1) = _
            rw [z]
            rfl
          rw [e3] at this
          exact this
        · rw [hU2 y]
          by_cases ey : y = a + i
          · subst ey
            rw [up2_eq]
            simp [bI]
          · have : (y == a + i) = false := by simp [ey]
            rw [this, Bool.false_or, up2_k ey]
            exact e1 y hy
  have h0 : ∀ y, tkU tk a 0 y = tk y := by
    intro y
    unfold tkU
    have : (decide (a ≤ y) && decide (y < a + 0)) = false := by
      by_cases h : a ≤ y
      · simp
        try omega
      · simp [h]
    rw [this, Bool.false_or]
  exact loop b 0 f (by omega) (fun y hy => by rw [h0]; exact ht.1 y hy) ht.2 Oc.rf
theorem CW.read (h : CW f x π win dl t w m la) {i : Nat} (hi : nset i) : f (x + cnr i) (cnk i) = nI (w.1 i) := h.1 i hi
theorem D_arrive {K : FI → FL → Prop} {s : Sg} (hs : StW sh fR x) (hC : CW f x π win dl t w m la) (hπ : πOK π) (hwin : win ≤ 99) (h4 : w.1 4 ≤ 1000) (hsg : s.2.2.1 + s.2.2.2.1 ≤ π.1 1) (H : ∀ f' : FI, CW f' x π win dl t (arr1 win w s) m la → Oc [1, 8] x f f' → K f' g) : Cl l G (d + 1) 0 0 mX7_arrive [.ref (x + 2), .int (nI s.2.2.1), .int (nI s.2.2.2.1), .int (bI s.2.2.2.2.2.2.2)] (sh, f, g, fR) (qv sh fR K) := by
  have h200 := hπ.1.2
  have r4 : f (x + 2) 5 = nI (w.1 4) := hC.1 4 (by unfold nset; omega)
  have rw' : f (x + 2) 3 = nI win := hC.2.2.2.2.2.2.2.2.2.2
  have rr : ∀ i, i < 4 → f (x + 4) i = nI (w.1 (10 + i)) := fun i hi => by
    have := hC.1 (10 + i) (by unfold nset; omega)
    rw [show cnr (10 + i) = 4 by unfold cnr; rw [if_neg (by omega), if_neg (by omega)], show cnk (10 + i) = i by unfold cnk; rw [if_neg (by omega), if_neg (by omega), if_neg (by omega)]; omega] at this
    exact this
  have rset : ∀ (f0 : FI) (w0 : Wd) (i : Nat), i < 4 → CW f0 x π win dl t w0 m la → CW (up2 f0 (x + 4) i (nI (w0.1 (10 + i) + 1))) x π win dl t (refS w0 i) m la := fun f0 w0 i hi h0 => by
    have := h0.setn (i := 10 + i) (v := w0.1 (10 + i) + 1) (by unfold nset; omega)
    rw [show cnr (10 + i) = 4 by unfold cnr; rw [if_neg (by omega), if_neg (by omega)], show cnk (10 + i) = i by unfold cnk; rw [if_neg (by omega), if_neg (by omega), if_neg (by omega)]; omega] at this
    exact this
  refine VX7_arrive hs ?_
  rw [r4, rw', nI_add, nI_add, rr 2 (by decide), rr 1 (by decide), nI_add, nI_add]
  refine ⟨fun c1 => ⟨fun c2 => ?_, fun c2 => ?_⟩, fun c1 => ?_⟩
  · have z1 := bI_0.mp c1
    rw [nI_leI (by omega) (by omega)] at c2
    refine D_take hs hC.2.2.2.2.2.2.2.1 (by omega) (fun f1 q1 q2 => ⟨fun c3 => ⟨_, _, rfl, rfl, ?_⟩, fun c3 => ⟨_, _, rfl, rfl, ?_⟩⟩)
    · have z3 : ¬ allTk w s.2.2.1 s.2.2.2.1 = true := fun z => c3 (by rw [(freshS_0 _).mpr z]; rfl)
      have e : arr1 win w s = takS w s.2.2.1 s.2.2.2.1 := by
        unfold arr1
        rw [z1]
        simp only [Bool.false_eq_true, if_false]
        rw [if_neg (by omega), if_neg z3]
      refine H f1 ?_ (q2.mono (by decide))
      rw [e]
      refine hC.rept (fun c hc => q2.1 c (fun z => hc (by rw [List.mem_singleton.mp z]; decide))) ?_
      have e2 : takenS π (takS w s.2.2.1 s.2.2.2.1) = takenS π w + freshS w.2.2.2.2.2.1 s.2.2.1 s.2.2.2.1 := cntT_U (tk := w.2.2.2.2.2.1) (a := s.2.2.1) (len := π.1 1) s.2.2.2.1 hsg
      show PWt f1 x (takenS π (takS w s.2.2.1 s.2.2.2.1)) _
      rw [e2]
      exact q1
    · have hfr : freshS w.2.2.2.2.2.1 s.2.2.1 s.2.2.2.1 = 0 := (nI_eq (b := 0) (by have := freshS_le (tk := w.2.2.2.2.2.1) (a := s.2.2.1) s.2.2.2.1; omega) (by decide)).mp c3
      have z3 : allTk w s.2.2.1 s.2.2.2.1 = true := (freshS_0 _).mp hfr
      have e : arr1 win w s = refS w 3 := by
        unfold arr1
        rw [z1]
        simp only [Bool.false_eq_true, if_false]
        rw [if_neg (by omega), if_pos z3]
      have hU : tkU w.2.2.2.2.2.1 s.2.2.1 s.2.2.2.1 = w.2.2.2.2.2.1 := funext (allTk_U _ z3)
      rw [hfr, hU, Nat.add_zero] at q1
      have hC1 : CW f1 x π win dl t w m la := by
        have := hC.rept (t' := w.2.2.2.2.2.1) (fun c hc => q2.1 c (fun z => hc (by rw [List.mem_singleton.mp z]; decide))) q1
        exact this
      have r3 : f1 (x + 4) 3 = nI (w.1 13) := hC1.1 13 (by unfold nset; omega)
      rw [r3, nI_add]
      refine H _ ?_ ((q2.mono (by decide)).up (by decide) (by show (1 : Nat) ∈ _; decide))
      rw [e]
      exact rset f1 w 3 (by decide) hC1
  · have z1 := bI_0.mp c1
    rw [nI_leI (by omega) (by omega)] at c2
    have e : arr1 win w s = refS w 2 := by
      unfold arr1
      rw [z1]
      simp only [Bool.false_eq_true, if_false]
      rw [if_pos (by omega)]
    refine ⟨_, _, rfl, rfl, H _ ?_ (Oc.rf.up (by decide) (by show (1 : Nat) ∈ _; decide))⟩
    rw [e]
    exact rset f w 2 (by decide) hC
  · have z1 := bI_ne0 c1
    have e : arr1 win w s = refS w 1 := by
      unfold arr1
      rw [z1]
      rfl
    refine ⟨_, _, rfl, rfl, H _ ?_ (Oc.rf.up (by decide) (by show (1 : Nat) ∈ _; decide))⟩
    rw [e]
    exact rset f w 1 (by decide) hC
/-! routes -/
theorem CW.rt (h : CW f x π win dl t w m la) {p : Nat} (hp : p < 4) : (p < π.1 6 → f (x + 28 + p) 0 = nI (dl p)) ∧ f (x + 28 + p) 1 = nI (w.2.1 p 0) ∧ f (x + 28 + p) 2 = nI (w.2.1 p 1) ∧ f (x + 28 + p) 3 = nI (w.2.1 p 2) ∧ f (x + 28 + p) 4 = nI (w.2.1 p 3) ∧ f (x + 28 + p) 5 = nI (flyS w p) ∧ f (x + 28 + p) 6 = nI (w.2.1 p 4) ∧ f (x + 28 + p) 7 = nI (w.2.1 p 5) :=
  ⟨h.2.2.2.1 p hp, h.2.1 p 0 hp (by decide), h.2.1 p 1 hp (by decide), h.2.1 p 2 hp (by decide), h.2.1 p 3 hp (by decide), h.2.2.1 p hp, h.2.1 p 4 hp (by decide), h.2.1 p 5 hp (by decide)⟩
/-- the numbers of paths are small -/
def qN (w : Wd) : Prop := ∀ p, w.2.1 p 0 ≤ 1 ∧ w.2.1 p 1 ≤ 1 ∧ w.2.1 p 2 ≤ 99000 ∧ w.2.1 p 3 ≤ 500000 ∧ w.2.1 p 4 ≤ 500000 ∧ w.2.1 p 5 ≤ 1
theorem nI_0' {n : Nat} (h : n < 2 ^ 31) : nI n = 0 ↔ n = 0 := nI_eq (b := 0) h (by decide)
theorem D_isNew {K : Int32 → FI → FL → Prop} {p : Nat} (hs : StW sh fR x) (hC : CW f x π win dl t w m la) (hq : qN w) (hp : p < 4) (H : K (bI (w.2.1 p 0 == 0 && w.2.1 p 1 == 0)) f g) : Cl l G d 0 0 mX8_isNew [.ref (x + 28 + p)] (sh, f, g, fR) (qi sh fR K) := by
  obtain ⟨-, r1, r2, -⟩ := hC.rt hp
  obtain ⟨b0, b1, -⟩ := hq p
  refine VX8_isNew (rt_ok hs hp).2 ?_
  rw [r1, r2, nI_0' (by omega), nI_0' (by omega)]
  refine ⟨fun c => ⟨_, _, _, rfl, rfl, ?_⟩, fun c => ⟨fun c2 => ⟨_, _, _, rfl, rfl, ?_⟩, fun c2 => ⟨_, _, _, rfl, rfl, ?_⟩⟩⟩
  · rw [show (w.2.1 p 0 == 0) = false by simp [c], Bool.false_and] at H
    exact H
  · rw [show (w.2.1 p 1 == 0) = false by simp [c2], Bool.and_false] at H
    exact H
  · rw [c, c2] at H
    exact H
theorem freS_eq {p : Nat} (h : w.2.1 p 0 ≤ 1) : freS w p = (!(w.2.1 p 0 == 0) && w.2.1 p 1 == 0) := by
  unfold freS
  rcases (show w.2.1 p 0 = 0 ∨ w.2.1 p 0 = 1 by omega) with e | e <;> rw [e] <;> rfl
theorem D_isAlive {K : Int32 → FI → FL → Prop} {p : Nat} (hs : StW sh fR x) (hC : CW f x π win dl t w m la) (hq : qN w) (hp : p < 4) (H : K (bI (freS w p)) f g) : Cl l G d 0 0 mX8_isAlive [.ref (x + 28 + p)] (sh, f, g, fR) (qi sh fR K) := by
  obtain ⟨-, r1, r2, -⟩ := hC.rt hp
  obtain ⟨b0, b1, -⟩ := hq p
  rw [freS_eq b0] at H
  refine VX8_isAlive (rt_ok hs hp).2 ?_
  rw [r1, r2, nI_0' (by omega), nI_0' (by omega)]
  refine ⟨fun c => ⟨_, _, _, rfl, rfl, ?_⟩, fun c => ⟨fun c2 => ⟨_, _, _, rfl, rfl, ?_⟩, fun c2 => ⟨_, _, _, rfl, rfl, ?_⟩⟩⟩
  · rw [c] at H
    exact H
  · rw [show (w.2.1 p 1 == 0) = false by simp [c2], Bool.and_false] at H
    exact H
  · rw [show (w.2.1 p 0 == 0) = false by simp [c], c2] at H
    exact H
theorem D_hasRoom {K : Int32 → FI → FL → Prop} {p : Nat} (hs : StW sh fR x) (hC : CW f x π win dl t w m la) (hq : qN w) (hp : p < 4) (H : K (bI (freS w p && decide (1000 * flyS w p < w.2.1 p 2))) f g) : Cl l G (d + 1) 0 0 mX8_hasRoom [.ref (x + 28 + p)] (sh, f, g, fR) (qi sh fR K) := by
  obtain ⟨-, -, -, r3, -, r5, -⟩ := hC.rt hp
  obtain ⟨-, -, b2, -⟩ := hq p
  have hfl : flyS w p ≤ 500 := Nat.le_trans List.countP_le_length hC.2.2.2.2.1.2.1
  refine VX8_hasRoom (rt_ok hs hp).2 ?_
  refine D_isAlive hs hC hq hp ⟨fun c => ⟨_, _, _, rfl, rfl, ?_⟩, fun c => ?_⟩
  · rw [bI_0.mp c, Bool.false_and] at H
    exact H
  · rw [r3, r5, pk_mul, nI_leI (by omega) (by omega)]
    rw [bI_ne0 c, Bool.true_and] at H
    refine ⟨fun c2 => ⟨_, _, _, rfl, rfl, ?_⟩, fun c2 => ⟨_, _, _, rfl, rfl, ?_⟩⟩
    · rw [decide_eq_false (by omega)] at H
      exact H
    · rw [decide_eq_true (by omega)] at H
      exact H
theorem D_grow {K : FI → FL → Prop} {p by' : Nat} (hs : StW sh fR x) (hC : CW f x π win dl t w m la) (hq : qN w) (hp : p < 4) (hb : by' ≤ 1000000) (H : ∀ f' : FI, CW f' x π win dl t (wpt w p 2 (if 99000 < w.2.1 p 2 + by' then 99000 else w.2.1 p 2 + by')) m la → Oc [2] x f f' → K f' g) : Cl l G (d + 1) 0 0 mX8_grow [.ref (x + 28 + p), .int (nI by')] (sh, f, g, fR) (qv sh fR K) := by
  obtain ⟨-, -, -, r3, -⟩ := hC.rt hp
  obtain ⟨-, -, b2, -⟩ := hq p
  refine VX8_grow (rt_ok hs hp).2 ?_
  rw [r3, nI_add]
  refine D_minN (by omega) (by decide) ⟨_, _, rfl, rfl, H _ ?_ ?_⟩
  · have e : (if 99000 < w.2.1 p 2 + by' then 99000 else w.2.1 p 2 + by') = minS (w.2.1 p 2 + by') 99000 := by
      unfold minS
      split <;> split <;> omega
    rw [e]
    exact hC.setp (i := 2) hp (by decide)
  · have := (Oc.rf (L := [2]) (x := x) (f := f)).up (j0 := 28 + p) (k0 := 3) (v := nI (minS (w.2.1 p 2 + by') 99000)) (by omega) (by rw [comp_rt hp]; decide)
    rw [← Nat.add_assoc] at this
    exact this
theorem D_halve {K : FI → FL → Prop} {p : Nat} (hs : StW sh fR x) (hC : CW f x π win dl t w m la) (hq : qN w) (hp : p < 4) (H : ∀ f' : FI, CW f' x π win dl t (wpt w p 2 (halfS (w.2.1 p 2))) m la → Oc [2] x f f' → K f' g) : Cl l G (d + 1) 0 0 mX8_halve [.ref (x + 28 + p)] (sh, f, g, fR) (qv sh fR K) := by
  obtain ⟨-, -, -, r3, -⟩ := hC.rt hp
  obtain ⟨-, -, b2, -⟩ := hq p
  refine VX8_halve (rt_ok hs hp).2 ?_
  rw [r3, pk_div (by omega) (by decide) (by decide)]
  refine D_maxN (by omega) (by decide) ⟨_, _, rfl, rfl, H _ ?_ ?_⟩
  · have e : halfS (w.2.1 p 2) = maxS (w.2.1 p 2 / 2) 1000 := by
      unfold halfS maxS
      split <;> split <;> omega
    rw [e]
    exact hC.setp (i := 2) hp (by decide)
  · have := (Oc.rf (L := [2]) (x := x) (f := f)).up (j0 := 28 + p) (k0 := 3) (v := nI (maxS (w.2.1 p 2 / 2) 1000)) (by omega) (by rw [comp_rt hp]; decide)
    rw [← Nat.add_assoc] at this
    exact this
end RC
