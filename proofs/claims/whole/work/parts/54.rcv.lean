/-! the class' tick: what arrives, reading, answers -/
theorem lack_read {tk : Nat → Bool} {len r : Nat} : ∀ k, r + k ≤ lackS tk (len - r) r → lackS tk (len - (r + k)) (r + k) = lackS tk (len - r) r := by
  intro k
  induction k with
  | zero => intro _; rfl
  | succ k ih =>
    intro h
    have e := ih (by omega)
    have hle := lackS_ge tk (len - (r + k)) (r + k)
    have hn : ∃ n, len - (r + k) = n + 1 := by
      cases hz : len - (r + k) with
      | zero =>
        rw [hz] at e
        have : lackS tk 0 (r + k) = r + k := rfl
        omega
      | succ n => exact ⟨n, rfl⟩
    obtain ⟨n, hn⟩ := hn
    rw [hn] at e
    have e2 : lackS tk (n + 1) (r + k) = if tk (r + k) then lackS tk n (r + k + 1) else r + k := rfl
    rw [e2] at e
    cases hz : tk (r + k) with
    | true =>
      rw [hz] at e
      rw [show len - (r + (k + 1)) = n by omega, show r + (k + 1) = r + k + 1 by omega]
      exact e
    | false =>
      rw [hz] at e
      have : (if false = true then lackS tk n (r + k + 1) else r + k) = r + k := rfl
      omega
theorem lack_many {π : Pl} {w : Wd} : lack π (wsc w 4 (w.1 4 + manyS π w)) = lack π w := by
  have h1 := manyS_le (π := π) (w := w)
  have h2 := lack_ge (π := π) (w := w)
  exact lack_read (manyS π w) (by show _ ≤ lack π w; omega)
/-- the answers that set out in a tick -/
def nwS (π : Pl) (win : Nat) (dl : Nat → Nat) (w1 : Wd) : List An := (rsL (w1.1 0) w1.2.2.1).map (ansS (lack π (arrS win w1)) ((arrS win w1).1 4 + manyS π (arrS win w1) + win) (w1.1 0) dl) ++ nnS π win dl ((rsL (w1.1 0) w1.2.2.1).isEmpty && decide (0 < manyS π (arrS win w1))) (wsc (arrS win w1) 4 ((arrS win w1).1 4 + manyS π (arrS win w1)))
theorem mid_nw {π : Pl} {win : Nat} {dl : Nat → Nat} {w1 : Wd} : midS π win dl w1 = wan (wsc (arrS win w1) 4 ((arrS win w1).1 4 + manyS π (arrS win w1))) (w1.2.2.2.2.1 ++ nwS π win dl w1) := by
  unfold midS
  rw [outS_eq, lack_many]
  have h0 : (wsc (arrS win w1) 4 ((arrS win w1).1 4 + manyS π (arrS win w1))).1 0 = w1.1 0 := (arrS_o (win := win) w1).1 0 (by decide)
  have h4 : (wsc (arrS win w1) 4 ((arrS win w1).1 4 + manyS π (arrS win w1))).1 4 = (arrS win w1).1 4 + manyS π (arrS win w1) := rfl
  have ha : (wsc (arrS win w1) 4 ((arrS win w1).1 4 + manyS π (arrS win w1))).2.2.2.2.1 = w1.2.2.2.2.1 := (arrS_o (win := win) w1).2.2.2.2
  rw [h0, h4, ha, List.append_assoc]
  rfl
section RV
variable {l : Launch} {G : Gx} {d : Nat} {sh : Sh} {fR : FRt} {x u : Nat} {f : FI} {g : FL} {π : Pl} {win : Nat} {dl : Nat → Nat} {t : Int} {w : Wd} {m : List (Nat × Nat)} {la : List An}
theorem D_clamp0 {K : Int32 → FI → FL → Prop} {y : Int32} {v : Int} {n : Nat} (hn : n ≤ 1000000) (hy : y.toInt = v) (H : K (nI (clampS v n)) f g) : Cl l G d 0 0 mJ_min [.int (nI n), .int y] (sh, f, g, fR) (qi sh fR fun x1 f1 g1 => Cl l G d 0 0 mJ_max [.int (nI 0), .int x1] (sh, f1, g1, fR) (qi sh fR K)) := by
  have h0 : (nI 0).toInt = 0 := by decide
  have hnn : (nI n).toInt = n := nI_toInt (by omega)
  unfold clampS at H
  refine D_min (fun c => D_max (fun c2 => ?_) (fun c2 => ?_)) (fun c => D_max (fun c2 => ?_) (fun c2 => ?_))
  · rw [Int32.lt_iff_toInt_lt, hy, hnn] at c
    rw [Int32.lt_iff_toInt_lt, hy, h0] at c2
    rw [if_neg (by omega), if_neg (by omega)] at H
    rw [toNat_nI (x := y) (n := v.toNat) (by rw [hy]; omega) (by omega)]
    exact H
  · rw [Int32.lt_iff_toInt_lt, hy, hnn] at c
    rw [Int32.lt_iff_toInt_lt, hy, h0] at c2
    by_cases e : v < 0
    · rw [if_pos e] at H
      exact H
    · rw [if_neg e, if_neg (by omega), show v.toNat = 0 by omega] at H
      exact H
  · rw [Int32.lt_iff_toInt_lt, hy, hnn] at c
    rw [Int32.lt_iff_toInt_lt, hnn, h0] at c2
    by_cases e : v = n
    · rw [if_neg (by omega), if_neg (by omega), show v.toNat = n by omega] at H
      exact H
    · rw [if_neg (by omega), if_pos (by omega)] at H
      exact H
  · rw [Int32.lt_iff_toInt_lt, hy, hnn] at c
    rw [Int32.lt_iff_toInt_lt, hnn, h0] at c2
    have e : n = 0 := by omega
    subst e
    by_cases e : v = 0
    · rw [if_neg (by omega), if_neg (by omega), show v.toNat = 0 by omega] at H
      exact H
    · rw [if_neg (by omega), if_pos (by omega)] at H
      exact H
theorem D_amount {K : Int32 → FI → FL → Prop} (hs : StW sh fR x) (hu : fR x 7 = some u) (hU : StPl sh fR u) (hux : u + 17 ≤ x) (hC : CW f x π win dl t w m la) (hc : CP f u π) (h0 : w.1 0 ≤ 1000) (h4 : w.1 4 ≤ π.1 1) (hπ : πOK π) (H : ∀ f' : FI, FW [11] x u f f' → K (nI (manyS π w)) f' g) : Cl l G (d + 3) 0 0 mX10_amountToRead [.ref x, .int (nI (lack π w))] (sh, f, g, fR) (qi sh fR K) := by
  have h200 := hπ.1.2
  have hlg := lack_ge (π := π) (w := w)
  have hll := lack_le (π := π) h4
  have htk := takenS_le (π := π) (w := w) h200
  have r5 : f (x + 2) 5 = nI (w.1 4) := hC.1 4 (by unfold nset; omega)
  have r4 : f (x + 2) 4 = nI (takenS π w) := hC.2.2.2.2.2.2.2.1.2
  have hF := hc.2.2.2 2 (by decide)
  replace hF : CPf f (u + 11) (π.2.2.2.2 2) := hF
  have hok := hπ.2.2.2.2.2.2.2.2.2.2.1
  refine VX10_amountToRead hs hu hU ?_
  intro y ey
  rw [r5, pk_sub hlg] at ey
  subst ey
  refine D_isTold (stF11 hU) hF hok ⟨fun c => ?_, fun c => ⟨_, _, _, rfl, rfl, ?_⟩⟩
  · obtain ⟨ops, ho⟩ := told1 c
    rw [ho] at hF
    have hO := hok ops ho
    rw [hC.t8, r4]
    have hFm : FmC (up2 (up2 (up2 f (x + 27) 0 (nI (w.1 0))) (x + 27) 8 (nI (lack π w - w.1 4))) (x + 27) 9 (nI (takenS π w) - nI (lack π w))) (u + 11) ops := FmC.congr (f := f) hF (fun k => by rw [up2_r (by omega), up2_r (by omega), up2_r (by omega)]) (fun k => by rw [up2_r (by omega), up2_r (by omega), up2_r (by omega)])
    refine D_valueBy (stF11 hU) (sW_27 hs) hFm hO (fa := faR π w) (fun k hk0 hk hal => ?_) (fun y f1 hy _ hf1 => ?_)
    · unfold alR at hal
      simp only [Bool.or_eq_true, beq_iff_eq] at hal
      rcases hal with (rfl | rfl) | rfl
      · rw [up2_k (by decide), up2_k (by decide), up2_eq]; exact nI_r (by omega)
      · rw [up2_k (by decide), up2_eq]
        exact nI_r (by omega)
      · rw [up2_eq, pk_sub_toInt (by omega) (by omega)]
        have e : faR π w 10 = (takenS π w : Int) - w.1 4 - ((lack π w - w.1 4 : Nat) : Int) := rfl
        rw [e]
        unfold rng
        omega
    · refine D_clamp0 (by omega) hy ⟨_, _, _, rfl, rfl, ?_⟩
      have e : clampS (ev ops (faR π w)) (lack π w - w.1 4) = manyS π w := by
        unfold manyS
        rw [ho]
      rw [e]
      refine H f1 ⟨fun c' hc' j k hj ec => ?_, fun r k a b1 b2 b3 b4 => ?_⟩
      · have hj27 : j ≠ 27 := fun z => by subst z; exact hc' (by rw [← ec]; exact List.mem_singleton.mpr rfl)
        rw [hf1 _ _ (by omega), up2_r (by omega), up2_r (by omega), up2_r (by omega)]
      · rw [hf1 _ _ (by omega), up2_r (by omega), up2_r (by omega), up2_r (by omega)]
  · have hn := told0 c
    have e : lack π w - w.1 4 = manyS π w := by
      unfold manyS
      rw [hn]
    rw [e]
    exact H f FW.rf
theorem D_answer {K : FI → FL → Prop} {p lk gh : Nat} {no : Option Nat} (hs : StW sh fR x) (hu : fR x 7 = some u) (hU : StPl sh fR u) (hC : CW f x π win dl t w m la) (hp : p < 4) (hp6 : p < π.1 6) (hl : la.length < 500) (H : ∀ f' : FI, CW f' x π win dl t w m (la ++ [(p, no, lk, w.1 4 + win, w.1 0 + dl p, gh)]) → Oc [7] x f f' → K f' g) : Cl l G (d + 1) 0 0 mX10_answer [.ref x, .int (nI p), .int (oI no), .int (nI lk)] (sh, f, g, fR) (qv sh fR K) := by
  obtain ⟨t1, t2, t3⟩ := rt_ok hs hp
  obtain ⟨r0, -⟩ := hC.rt hp
  replace r0 := r0 hp6
  have r5 : f (x + 2) 5 = nI (w.1 4) := hC.1 4 (by unfold nset; omega)
  have rw' : f (x + 2) 3 = nI win := hC.2.2.2.2.2.2.2.2.2.2
  refine VX10_answer hs hu hU ?_
  intro y ey
  rw [r5, rw', nI_add] at ey
  subst ey
  rw [clN (by omega)]
  refine ⟨inbN hp (by decide), x + 28 + p, t1, t2, t3, ?_⟩
  rw [hC.t8, r0, nI_add]
  exact D_aAdd (a := (p, no, lk, w.1 4 + win, w.1 0 + dl p, gh)) hs hC.2.2.2.2.2.2.1 hl (fun f1 q1 q2 => ⟨_, _, rfl, rfl, H f1 (hC.repa (q2.1.mono (by decide)) q1) q2⟩)
/-- by the cell of a row: whether it arrives now -/
def dueC (f : FI) (x T : Nat) (L : List Sg) : Prop := ∀ (k : Nat) (s : Sg), L[k]? = some s → (f (x + 11) k = nI T ↔ due T s = true)
theorem dueC.sm {f' : FI} {T : Nat} {L : List Sg} (h : dueC f x T L) (e : Sm x f f' 13) : dueC f' x T L := fun k s hk => by rw [e 11 k (by decide) rfl]; exact h k s hk
/-- what does not arrive now, and what is the same for all rows of a list -/
def sameR (L lg : List Sg) : Prop := lg.length = L.length ∧ ∀ (k : Nat) (s : Sg), L[k]? = some s → ∃ s', lg[k]? = some s' ∧ s'.1 = s.1 ∧ s'.2.1 = s.2.1 ∧ s'.2.2.2.2.2.2.2 = s.2.2.2.2.2.2.2
theorem D_answerRight {K : FI → FL → Prop} {T lk : Nat} {L : List Sg} (hs : StW sh fR x) (hu : fR x 7 = some u) (hU : StPl sh fR u) (hC : CW f x π win dl t w m la) (hT : w.1 0 = T) (hL : sameR L w.2.2.1) (h4 : ∀ s ∈ L, s.1 < 4 ∧ s.1 < π.1 6) (hd : dueC f x T L) (hl : la.length + (rsL T L).length ≤ 499) (H : ∀ f' : FI, CW f' x π win dl t w m (la ++ (rsL T L).map (ansS lk (w.1 4 + win) T dl)) → Oc [7] x f f' → K f' g) : Cl l G (d + 2) 0 0 mX10_answerRight [.ref x, .int (nI lk)] (sh, f, g, fR) (qv sh fR K) := by
  have hlg := hC.2.2.2.2.1.2.1
  have loop : ∀ (R D : List Sg) (f0 : FI), L = D ++ R → CW f0 x π win dl t w m (la ++ (rsL T D).map (ansS lk (w.1 4 + win) T dl)) → Oc [7] x f f0 → LpX10_answerRight_2 l G d (qv sh fR K) sh fR x u f0 g (nI lk) (nI D.length) := by
    intro R
    induction R with
    | nil =>
      intro D f0 e hC0 hO
      rw [List.append_nil] at e
      refine VX10_answerRight_2 hs hu hU ?_
      rw [hC0.2.2.2.2.1.1, hL.1, e]
      refine ⟨fun _ => ⟨_, _, rfl, rfl, H f0 (by rw [e]; exact hC0) hO⟩, fun z => absurd (nI_le (Nat.le_refl _) (by rw [← e]; have := hL.1; omega)) z⟩
    | cons s R ih =>
      intro D f0 e hC0 hO
      have hk : L[D.length]? = some s := by rw [e]; exact at_len
      have hlt : D.length < L.length := (List.getElem?_eq_some_iff.mp hk).1
      have hlL := hL.1
      obtain ⟨s', hk', z1, z2, z3⟩ := hL.2 _ s hk
      obtain ⟨a1, a2, -, -, -, -, a7, -⟩ := hC0.2.2.2.2.1.2.2 _ s' hk'
      rw [z1] at a1
      rw [z2] at a2
      rw [z3] at a7
      have hd0 := (hd.sm (hO.1 13 (by decide))) _ s hk
      have ih2 := ih (D ++ [s])
      rw [List.length_append, List.length_singleton] at ih2
      have skip : (due T s && !s.2.2.2.2.2.2.2) = false → LpX10_answerRight_64 l G d (qv sh fR K) sh fR x u f0 g (nI lk) (nI D.length) := by
        intro hz
        refine VX10_answerRight_64 hs hu hU ?_
        rw [nI_add]
        refine ih2 f0 (by rw [e]; simp) ?_ hO
        have : rsL T (D ++ [s]) = rsL T D := by
          unfold rsL
          rw [List.filter_append]
          simp [hz]
        rw [this]
        exact hC0
      refine VX10_answerRight_2 hs hu hU ?_
      rw [hC0.2.2.2.2.1.1, hL.1, clN (by omega), hC0.t8, hT, a1, a2, a7, hd0]
      refine ⟨fun z => absurd z (nI_ge hlt (by omega)), fun _ => ⟨inbN (by omega) (by decide), fun c1 => skip ?_, fun c1 => ⟨inbN (by omega) (by decide), fun c2 => skip ?_, fun c2 => ⟨inbN (by omega) (by decide), inbN (by omega) (by decide), ?_⟩⟩⟩⟩
      · rw [Bool.not_eq_true] at c1
        rw [c1, Bool.false_and]
      · rw [bI_ne0 c2]
        simp
      · have hz : (due T s && !s.2.2.2.2.2.2.2) = true := by rw [c1, bI_0.mp c2]; rfl
        have hr : rsL T (D ++ [s]) = rsL T D ++ [s] := by
          unfold rsL
          rw [List.filter_append]
          simp [hz]
        have hle : (rsL T D).length + 1 ≤ (rsL T L).length := by
          rw [e]
          unfold rsL
          rw [List.filter_append, List.length_append, List.filter_cons, if_pos hz, List.length_cons]
          omega
        refine D_answer (no := some s.2.1) (gh := s.2.2.2.2.1) hs hu hU hC0 (h4 s (List.mem_of_getElem? hk)).1 (h4 s (List.mem_of_getElem? hk)).2 (by rw [List.length_append, List.length_map]; omega) (fun f1 q1 q2 => ?_)
        refine VX10_answerRight_64 hs hu hU ?_
        rw [nI_add]
        refine ih2 f1 (by rw [e]; simp) ?_ (hO.tr q2)
        rw [hr, List.map_append, ← List.append_assoc]
        rw [hT] at q1
        exact q1
  refine VX10_answerRight hs hu hU ?_
  refine loop L [] f rfl ?_ Oc.rf
  show CW f x π win dl t w m (la ++ [])
  rw [List.append_nil]
  exact hC
theorem D_answerOnFirst {K : FI → FL → Prop} {lk : Nat} (hs : StW sh fR x) (hu : fR x 7 = some u) (hU : StPl sh fR u) (hC : CW f x π win dl t w m la) (hc : CP f u π) (hq : qN w) (hπ : πOK π) (hl : la.length < 500) (H : ∀ f' : FI, CW f' x π win dl t w m (la ++ (match openS π w with
    | some p => [(p, none, lk, w.1 4 + win, w.1 0 + dl p, w.1 0)]
    | none => [])) → Oc [7] x f f' → K f' g) : Cl l G (d + 2) 0 0 mX10_answerOnFirst [.ref x, .int (nI lk)] (sh, f, g, fR) (qv sh fR K) := by
  have h4 := hπ.2.2.2.2.2.1
  have loop : ∀ (n p : Nat), n + p = π.1 6 → (∀ q, q < p → freS w q = false) → LpX10_answerOnFirst_2 l G d (qv sh fR K) sh fR x u f g (nI lk) (nI p) := by
    intro n
    induction n with
    | zero =>
      intro p hp hno
      rw [Nat.zero_add] at hp
      subst hp
      refine VX10_answerOnFirst_2 hs hu hU ?_
      rw [hc.1 6 (by decide)]
      refine ⟨fun _ => ⟨_, _, rfl, rfl, H f ?_ Oc.rf⟩, fun z => absurd (nI_le (Nat.le_refl _) (by omega)) z⟩
      have e : openS π w = none := by
        unfold openS
        rw [List.find?_eq_none]
        intro q hq
        rw [hno q (List.mem_range.mp hq)]
        exact fun z => by cases z
      rw [e, List.append_nil]
      exact hC
    | succ n ih =>
      intro p hp hno
      obtain ⟨t1, t2, t3⟩ := rt_ok hs (show p < 4 by omega)
      refine VX10_answerOnFirst_2 hs hu hU ?_
      rw [hc.1 6 (by decide), clN (by omega)]
      refine ⟨fun z => absurd z (nI_ge (by omega) (by omega)), fun _ => ⟨inbN (by omega) (by decide), x + 28 + p, t1, t2, t3, D_isAlive hs hC hq (by omega) ⟨fun c => ?_, fun c => ?_⟩⟩⟩
      · rw [nI_add]
        refine ih (p + 1) (by omega) (fun q hq => ?_)
        by_cases e : q = p
        · subst e
          exact bI_0.mp c
        · exact hno q (by omega)
      · refine D_answer (no := none) (gh := w.1 0) hs hu hU hC (by omega) (by omega) hl (fun f1 q1 q2 => ⟨_, _, rfl, rfl, H f1 ?_ q2⟩)
        have e : openS π w = some p := by
          unfold openS
          rw [List.find?_range_eq_some]
          exact ⟨bI_ne0 c, List.mem_range.mpr (by omega), fun j hj => by rw [hno j hj]; rfl⟩
        rw [e]
        exact q1
  refine VX10_answerOnFirst hs hu hU ?_
  exact loop (π.1 6) 0 rfl (fun q hq => by omega)
end RV
