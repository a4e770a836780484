/-! the class' small parts: log, flight, answers, pieces -/
section LF
variable {l : Launch} {G : Gx} {d : Nat} {sh : Sh} {fR : FRt} {x : Nat} {f : FI} {g : FL}
theorem rt_ok {p : Nat} (hs : StW sh fR x) (hp : p < 4) : fR (x + 1) p = some (x + 28 + p) ∧ sh[x + 28 + p]? = some (8, 8) ∧ 0 < x + 28 + p := by
  rcases (show p = 0 ∨ p = 1 ∨ p = 2 ∨ p = 3 by omega) with rfl | rfl | rfl | rfl
  · exact ⟨rW_1_0 hs, sW_28 hs, by omega⟩
  · exact ⟨rW_1_1 hs, sW_29 hs, by omega⟩
  · exact ⟨rW_1_2 hs, sW_30 hs, by omega⟩
  · exact ⟨rW_1_3 hs, sW_31 hs, by omega⟩
def kadd (l : List Kp) (q : Kp) : List Kp := (if l.length = 40 then l.tail else l) ++ [q]
theorem D_logAdd {K : FI → FL → Prop} {lk : List Kp} {q : Kp} (hs : StW sh fR x) (hk : PWk f x lk) (H : ∀ f' : FI, PWk f' x (kadd lk q) → Oc [9] x f f' → K f' g) : Cl l G (d + 1) 0 0 mX4_add [.ref (x + 23), .int (nI q.1), .int (nI q.2.1), .int (nI q.2.2)] (sh, f, g, fR) (qv sh fR K) := by
  obtain ⟨h1, h2, n, h3, h4, h5⟩ := hk
  refine VX4_add hs ?_
  rw [h1, h3, nI_add, nI_add, clN (by omega), pk_rem (by omega) (by decide) (by decide)]
  refine ⟨inbN h4 (by decide), inbN h4 (by decide), inbN h4 (by decide), D_minN (by omega) (by decide) ⟨_, _, rfl, rfl, H _ ?_ ?_⟩⟩
  · have hlen : (kadd lk q).length = minS (lk.length + 1) 40 := by
      unfold kadd minS
      by_cases e : lk.length = 40
      · rw [if_pos e, List.length_append, List.length_tail, List.length_singleton]
        split <;> omega
      · rw [if_neg e, List.length_append, List.length_singleton]
        split <;> omega
    have hm : minS (lk.length + 1) 40 ≤ 40 := by unfold minS; split <;> omega
    refine ⟨by rw [up2_eq, hlen], by omega, (n + 1) % 40, ?_, Nat.mod_lt _ (by decide), fun k z hz => ?_⟩
    · rw [up2_k (by decide), up2_eq]
    have old : ∀ j y, lk[j]? = some y → (n + 40 - lk.length + j) % 40 ≠ n → kC1 (up2 (up2 (up2 (up2 (up2 f (x + 24) n (nI q.1)) (x + 25) n (nI q.2.1)) (x + 26) n (nI q.2.2)) (x + 23) 4 (nI ((n + 1) % 40))) (x + 23) 3 (nI (minS (lk.length + 1) 40))) x ((n + 40 - lk.length + j) % 40) y := by
      intro j y hj hne
      obtain ⟨a, b, c⟩ := h5 j y hj
      refine ⟨?_, ?_, ?_⟩
      · rw [up2_r (by omega), up2_r (by omega), up2_r (by omega), up2_r (by omega), up2_k hne]; exact a
      · rw [up2_r (by omega), up2_r (by omega), up2_r (by omega), up2_k hne, up2_r (by omega)]; exact b
      · rw [up2_r (by omega), up2_r (by omega), up2_k hne, up2_r (by omega), up2_r (by omega)]; exact c
    have new : kC1 (up2 (up2 (up2 (up2 (up2 f (x + 24) n (nI q.1)) (x + 25) n (nI q.2.1)) (x + 26) n (nI q.2.2)) (x + 23) 4 (nI ((n + 1) % 40))) (x + 23) 3 (nI (minS (lk.length + 1) 40))) x n q := by
      refine ⟨?_, ?_, ?_⟩
      · rw [up2_r (by omega), up2_r (by omega), up2_r (by omega), up2_r (by omega), up2_eq]
      · rw [up2_r (by omega), up2_r (by omega), up2_r (by omega), up2_eq]
      · rw [up2_r (by omega), up2_r (by omega), up2_eq]
    have hkl := (List.getElem?_eq_some_iff.mp hz).1
    rw [hlen] at hkl ⊢
    unfold kadd at hz
    by_cases e : lk.length = 40
    · rw [if_pos e] at hz
      have em : minS (lk.length + 1) 40 = 40 := by unfold minS; rw [if_neg (by omega)]
      rw [em] at hkl ⊢
      by_cases ek : k < 39
      · rw [List.getElem?_append_left (by rw [List.length_tail]; omega), List.getElem?_tail] at hz
        have := old (k + 1) z hz (by omega)
        rw [show ((n + 1) % 40 + 40 - 40 + k) % 40 = (n + 40 - lk.length + (k + 1)) % 40 by omega]
        rw [em] at this
        exact this
      · have e2 : k = 39 := by omega
        subst e2
        rw [List.getElem?_append_right (by rw [List.length_tail]; omega), List.length_tail, e] at hz
        cases hz
        rw [show ((n + 1) % 40 + 40 - 40 + 39) % 40 = n by omega]
        rw [em] at new
        exact new
    · rw [if_neg e] at hz
      have em : minS (lk.length + 1) 40 = lk.length + 1 := by unfold minS; split <;> omega
      rw [em] at hkl ⊢
      by_cases ek : k < lk.length
      · rw [List.getElem?_append_left ek] at hz
        have := old k z hz (by omega)
        rw [show ((n + 1) % 40 + 40 - (lk.length + 1) + k) % 40 = (n + 40 - lk.length + k) % 40 by omega]
        rw [em] at this
        exact this
      · have e2 : k = lk.length := by omega
        subst e2
        rw [List.getElem?_append_right (Nat.le_refl _), Nat.sub_self] at hz
        cases hz
        rw [show ((n + 1) % 40 + 40 - (lk.length + 1) + lk.length) % 40 = n by omega]
        rw [em] at new
        exact new
  · exact ((((Oc.rf.up (by decide) (by show (9 : Nat) ∈ _; decide)).up (by decide) (by show (9 : Nat) ∈ _; decide)).up (by decide) (by show (9 : Nat) ∈ _; decide)).up (by decide) (by show (9 : Nat) ∈ _; decide)).up (by decide) (by show (9 : Nat) ∈ _; decide)
/-! flight -/
theorem bI_ne0 {b : Bool} (c : ¬ bI b = 0) : b = true := by
  cases hz : b with
  | true => rfl
  | false => exact absurd (bI_0.mpr hz) c
theorem D_rowOf {K : Int32 → FI → FL → Prop} {t : Int} {lg : List Sg} {p : Nat} {no : Option Nat} (hs : StW sh fR x) (hg : PWg f x t lg) (hok : ∀ s ∈ lg, s.1 < 4 ∧ s.2.1 ≤ 500000) (hp : p < 4) (hn : ∀ n, no = some n → n ≤ 500000) (H : K (oI (lg.findIdx? (fun s => s.1 == p && no == some s.2.1 && s.2.2.2.2.2.2.1))) f g) : Cl l G d 0 0 mX2_rowOf [.ref (x + 5), .int (nI p), .int (oI no)] (sh, f, g, fR) (qi sh fR K) := by
  obtain ⟨h8, hl, hg⟩ := hg
  refine VX2_rowOf hs ?_
  have loop : ∀ (rest done : List Sg), lg = done ++ rest → done.findIdx? (fun s => s.1 == p && no == some s.2.1 && s.2.2.2.2.2.2.1) = none → LpX2_rowOf_2 l G d (qi sh fR K) sh fR x f g (nI p) (oI no) (nI done.length) := by
    intro rest
    induction rest with
    | nil =>
      intro done e hd
      rw [List.append_nil] at e
      subst e
      refine VX2_rowOf_2 hs ?_
      rw [h8]
      refine ⟨fun _ => ⟨_, _, _, rfl, rfl, ?_⟩, fun z => absurd (nI_le (Nat.le_refl _) (by omega)) z⟩
      rw [hd] at H
      exact H
    | cons s rest ih =>
      intro done e hd
      have hk : lg[done.length]? = some s := by rw [e]; exact at_len
      have hlt : done.length < lg.length := (List.getElem?_eq_some_iff.mp hk).1
      have hq := hok s (List.mem_of_getElem? hk)
      have next : (s.1 == p && no == some s.2.1 && s.2.2.2.2.2.2.1) = false → LpX2_rowOf_41 l G d (qi sh fR K) sh fR x f g (nI p) (oI no) (nI done.length) := by
        intro hz
        refine VX2_rowOf_41 hs ?_
        have := ih (done ++ [s]) (by rw [e]; simp) (by rw [List.findIdx?_append, hd]; simp [hz])
        rw [List.length_append, List.length_singleton] at this
        rw [nI_add]
        exact this
      obtain ⟨a1, a2, -, -, -, -, -, a8⟩ := hg _ s hk
      refine VX2_rowOf_2 hs ?_
      rw [h8, clN (by omega), a1, a2, a8]
      refine ⟨fun z => absurd z (nI_ge hlt (by omega)), fun _ => ⟨inbN (by omega) (by decide), fun c1 => next ?_, fun c1 => ⟨inbN (by omega) (by decide), fun c2 => next ?_, fun c2 => ⟨inbN (by omega) (by decide), fun c3 => next ?_, fun c3 => ⟨_, _, _, rfl, rfl, ?_⟩⟩⟩⟩⟩
      · simp [bI_0.mp c1]
      · have z : ¬ s.1 = p := fun z => c2 (by rw [z])
        simp [z]
      · have z : ¬ no = some s.2.1 := fun z => c3 (by rw [z]; rfl)
        simp [z]
      · have z1 : s.1 = p := (nI_eq (by omega) (by omega)).mp c2
        have z2 : no = some s.2.1 := (oI_some (fun k hk => by have := hn k hk; omega) (by omega)).mp c3.symm
        have e1 : lg.findIdx? (fun s => s.1 == p && no == some s.2.1 && s.2.2.2.2.2.2.1) = some done.length := by
          rw [e, List.findIdx?_append, hd, List.findIdx?_cons]
          simp [z1, z2, bI_ne0 c1]
        rw [e1] at H
        exact H
  exact loop lg [] rfl rfl
theorem D_firstOn {K : Int32 → FI → FL → Prop} {t : Int} {lg : List Sg} {p : Nat} (hs : StW sh fR x) (hg : PWg f x t lg) (hok : ∀ s ∈ lg, s.1 < 4) (hp : p < 4) (H : K (oI (lg.findIdx? (fun s => s.1 == p && s.2.2.2.2.2.2.1))) f g) : Cl l G d 0 0 mX2_firstOn [.ref (x + 5), .int (nI p)] (sh, f, g, fR) (qi sh fR K) := by
  obtain ⟨h8, hl, hg⟩ := hg
  refine VX2_firstOn hs ?_
  have loop : ∀ (rest done : List Sg), lg = done ++ rest → done.findIdx? (fun s => s.1 == p && s.2.2.2.2.2.2.1) = none → LpX2_firstOn_2 l G d (qi sh fR K) sh fR x f g (nI p) (nI done.length) := by
    intro rest
    induction rest with
    | nil =>
      intro done e hd
      rw [List.append_nil] at e
      subst e
      refine VX2_firstOn_2 hs ?_
      rw [h8]
      refine ⟨fun _ => ⟨_, _, _, rfl, rfl, ?_⟩, fun z => absurd (nI_le (Nat.le_refl _) (by omega)) z⟩
      rw [hd] at H
      exact H
    | cons s rest ih =>
      intro done e hd
      have hk : lg[done.length]? = some s := by rw [e]; exact at_len
      have hlt : done.length < lg.length := (List.getElem?_eq_some_iff.mp hk).1
      have hq := hok s (List.mem_of_getElem? hk)
      have next : (s.1 == p && s.2.2.2.2.2.2.1) = false → LpX2_firstOn_31 l G d (qi sh fR K) sh fR x f g (nI p) (nI done.length) := by
        intro hz
        refine VX2_firstOn_31 hs ?_
        have := ih (done ++ [s]) (by rw [e]; simp) (by rw [List.findIdx?_append, hd]; simp [hz])
        rw [List.length_append, List.length_singleton] at this
        rw [nI_add]
        exact this
      obtain ⟨a1, -, -, -, -, -, -, a8⟩ := hg _ s hk
      refine VX2_firstOn_2 hs ?_
      rw [h8, clN (by omega), a1, a8]
      refine ⟨fun z => absurd z (nI_ge hlt (by omega)), fun _ => ⟨inbN (by omega) (by decide), fun c1 => next ?_, fun c1 => ⟨inbN (by omega) (by decide), fun c2 => next ?_, fun c2 => ⟨_, _, _, rfl, rfl, ?_⟩⟩⟩⟩
      · simp [bI_0.mp c1]
      · have z : ¬ s.1 = p := fun z => c2 (by rw [z])
        simp [z]
      · have z1 : s.1 = p := (nI_eq (by omega) (by omega)).mp c2
        have e1 : lg.findIdx? (fun s => s.1 == p && s.2.2.2.2.2.2.1) = some done.length := by
          rw [e, List.findIdx?_append, hd, List.findIdx?_cons]
          simp [z1, bI_ne0 c1]
        rw [e1] at H
        exact H
  exact loop lg [] rfl rfl
theorem D_firstWith {K : Int32 → FI → FL → Prop} {t : Int} {lg : List Sg} {n : Nat} (hs : StW sh fR x) (hg : PWg f x t lg) (hok : ∀ s ∈ lg, s.2.2.1 ≤ 1000 ∧ s.2.2.2.1 ≤ 1000) (hn : n ≤ 1000) (H : K (oI (lg.findIdx? (blk n))) f g) : Cl l G d 0 0 mX2_firstWith [.ref (x + 5), .int (nI n)] (sh, f, g, fR) (qi sh fR K) := by
  obtain ⟨h8, hl, hg⟩ := hg
  refine VX2_firstWith hs ?_
  have loop : ∀ (rest done : List Sg), lg = done ++ rest → done.findIdx? (blk n) = none → LpX2_firstWith_2 l G d (qi sh fR K) sh fR x f g (nI n) (nI done.length) := by
    intro rest
    induction rest with
    | nil =>
      intro done e hd
      rw [List.append_nil] at e
      subst e
      refine VX2_firstWith_2 hs ?_
      rw [h8]
      refine ⟨fun _ => ⟨_, _, _, rfl, rfl, ?_⟩, fun z => absurd (nI_le (Nat.le_refl _) (by omega)) z⟩
      rw [hd] at H
      exact H
    | cons s rest ih =>
      intro done e hd
      have hk : lg[done.length]? = some s := by rw [e]; exact at_len
      have hlt : done.length < lg.length := (List.getElem?_eq_some_iff.mp hk).1
      have hq := hok s (List.mem_of_getElem? hk)
      have next : blk n s = false → LpX2_firstWith_48 l G d (qi sh fR K) sh fR x f g (nI n) (nI done.length) := by
        intro hz
        refine VX2_firstWith_48 hs ?_
        have := ih (done ++ [s]) (by rw [e]; simp) (by rw [List.findIdx?_append, hd]; simp [hz])
        rw [List.length_append, List.length_singleton] at this
        rw [nI_add]
        exact this
      obtain ⟨-, -, a3, a4, -, -, -, a8⟩ := hg _ s hk
      refine VX2_firstWith_2 hs ?_
      rw [h8, clN (by omega), a3, a4, a8, nI_add]
      refine ⟨fun z => absurd z (nI_ge hlt (by omega)), fun _ => ⟨inbN (by omega) (by decide), fun c1 => next ?_, fun c1 => ⟨inbN (by omega) (by decide), fun c2 => next ?_, fun c2 => ⟨inbN (by omega) (by decide), inbN (by omega) (by decide), fun c3 => next ?_, fun c3 => ⟨_, _, _, rfl, rfl, ?_⟩⟩⟩⟩⟩
      · simp [blk, bI_0.mp c1]
      · rw [nI_ltI (by omega) (by omega)] at c2
        simp only [blk, show ¬ s.2.2.1 ≤ n by omega, decide_false, Bool.and_false, Bool.false_and]
      · rw [nI_leI (by omega) (by omega)] at c3
        simp only [blk, show ¬ n < s.2.2.1 + s.2.2.2.1 by omega, decide_false, Bool.and_false]
      · rw [nI_ltI (by omega) (by omega)] at c2
        rw [nI_leI (by omega) (by omega)] at c3
        have e1 : lg.findIdx? (blk n) = some done.length := by
          rw [e, List.findIdx?_append, hd, List.findIdx?_cons]
          have : blk n s = true := by
            simp only [blk, bI_ne0 c1, show s.2.2.1 ≤ n by omega, show n < s.2.2.1 + s.2.2.2.1 by omega, decide_true, Bool.and_true]
          simp [this]
        rw [e1] at H
        exact H
  exact loop lg [] rfl rfl
theorem nar_b (b : Bool) : vp_nar .boolean (bI b) = bI b := by cases b <;> rfl
theorem D_fAdd {K : FI → FL → Prop} {t : Int} {lg : List Sg} {s : Sg} {a6 : Int32} (hs : StW sh fR x) (hg : PWg f x t lg) (hl : lg.length < 500) (h6 : arC t s.2.2.2.2.2.1 a6) (hfl : s.2.2.2.2.2.2.1 = true) (H : ∀ f' : FI, PWg f' x t (lg ++ [s]) → Oc [5, 13] x f f' → K f' g) : Cl l G d 0 0 mX2_add [.ref (x + 5), .int (nI s.1), .int (nI s.2.1), .int (nI s.2.2.1), .int (nI s.2.2.2.1), .int (nI s.2.2.2.2.1), .int a6, .int (bI s.2.2.2.2.2.2.2)] (sh, f, g, fR) (qv sh fR K) := by
  obtain ⟨h8, hl5, hg⟩ := hg
  refine VX2_add hs ?_
  rw [h8, clN (by omega), nI_add, nar_b]
  refine ⟨fun _ => ⟨inbN (by omega) (by decide), inbN (by omega) (by decide), inbN (by omega) (by decide), inbN (by omega) (by decide), inbN (by omega) (by decide), inbN (by omega) (by decide), inbN (by omega) (by decide), inbN (by omega) (by decide), _, _, rfl, rfl, H _ ⟨?_, ?_, fun k z hz => ?_⟩ ?_⟩, fun z => absurd (nI_lt (show lg.length < 512 by omega) (by decide)) z⟩
  · rw [up2_eq, List.length_append, List.length_singleton]
  · rw [List.length_append, List.length_singleton]; omega
  · by_cases ek : k < lg.length
    · rw [List.getElem?_append_left ek] at hz
      obtain ⟨a1, a2, a3, a4, a5, a6', a7, a8⟩ := hg k z hz
      refine ⟨?_, ?_, ?_, ?_, ?_, ?_, ?_, ?_⟩ <;> (rw [up2_ne (by omega), up2_ne (by omega), up2_ne (by omega), up2_ne (by omega), up2_ne (by omega), up2_ne (by omega), up2_ne (by omega), up2_ne (by omega), up2_ne (by omega)]; assumption)
    · rw [List.getElem?_append_right (by omega)] at hz
      have e2 : k = lg.length := by
        have := (List.getElem?_eq_some_iff.mp hz).1
        simp at this
        omega
      subst e2
      rw [Nat.sub_self] at hz
      cases hz
      refine ⟨?_, ?_, ?_, ?_, ?_, ?_, ?_, ?_⟩
      · rw [up2_r (by omega), up2_r (by omega), up2_r (by omega), up2_r (by omega), up2_r (by omega), up2_r (by omega), up2_r (by omega), up2_r (by omega), up2_eq]
      · rw [up2_r (by omega), up2_r (by omega), up2_r (by omega), up2_r (by omega), up2_r (by omega), up2_r (by omega), up2_r (by omega), up2_eq]
      · rw [up2_r (by omega), up2_r (by omega), up2_r (by omega), up2_r (by omega), up2_r (by omega), up2_r (by omega), up2_eq]
      · rw [up2_r (by omega), up2_r (by omega), up2_r (by omega), up2_r (by omega), up2_r (by omega), up2_eq]
      · rw [up2_r (by omega), up2_r (by omega), up2_r (by omega), up2_r (by omega), up2_eq]
      · rw [up2_r (by omega), up2_r (by omega), up2_r (by omega), up2_eq]; exact h6
      · rw [up2_r (by omega), up2_r (by omega), up2_eq]
      · rw [up2_r (by omega), up2_eq, hfl]; rfl
  · exact ((((((((Oc.rf.up (by decide) (by first | (show (13 : Nat) ∈ _; decide) | (show (5 : Nat) ∈ _; decide))).up (by decide) (by first | (show (13 : Nat) ∈ _; decide) | (show (5 : Nat) ∈ _; decide))).up (by decide) (by first | (show (13 : Nat) ∈ _; decide) | (show (5 : Nat) ∈ _; decide))).up (by decide) (by first | (show (13 : Nat) ∈ _; decide) | (show (5 : Nat) ∈ _; decide))).up (by decide) (by first | (show (13 : Nat) ∈ _; decide) | (show (5 : Nat) ∈ _; decide))).up (by decide) (by first | (show (13 : Nat) ∈ _; decide) | (show (5 : Nat) ∈ _; decide))).up (by decide) (by first | (show (13 : Nat) ∈ _; decide) | (show (5 : Nat) ∈ _; decide))).up (by decide) (by first | (show (13 : Nat) ∈ _; decide) | (show (5 : Nat) ∈ _; decide))).up (by decide) (by first | (show (13 : Nat) ∈ _; decide) | (show (5 : Nat) ∈ _; decide))
theorem D_fTidy {K : FI → FL → Prop} {T : Nat} {lg : List Sg} (hs : StW sh fR x) (hT : T ≤ 1000) (hg : PWg f x (T + 1) lg) (hok : ∀ s ∈ lg, ∀ a, s.2.2.2.2.2.1 = some a → T + 1 ≤ a ∧ a ≤ 2000) (H : ∀ f' : FI, PWg f' x (T + 1) (lg.filter stayS) → Oc [5, 13] x f f' → K f' g) : Cl l G (d + 1) 0 0 mX2_tidy [.ref (x + 5), .int (nI T)] (sh, f, g, fR) (qv sh fR K) := by
  obtain ⟨h8, hl, hg⟩ := hg
  refine VX2_tidy hs ?_
  have loop : ∀ (R D : List Sg) (f0 : FI), lg = D ++ R → f0 (x + 5) 8 = nI lg.length → (∀ k s, (D.filter stayS)[k]? = some s → sC1 f0 x (T + 1) k s) → (∀ k s, R[k]? = some s → sC1 f0 x (T + 1) (D.length + k) s) → Oc [5, 13] x f f0 → LpX2_tidy_4 l G d (qv sh fR K) sh fR x f0 g (nI T) (nI (D.filter stayS).length) (nI D.length) := by
    intro R
    induction R with
    | nil =>
      intro D f0 e e8 hD hR hO
      rw [List.append_nil] at e
      subst e
      have hfl := List.length_filter_le stayS lg
      refine VX2_tidy_4 hs ?_
      rw [e8]
      exact ⟨fun _ => ⟨_, _, rfl, rfl, H _ ⟨up2_eq, by omega, fun k s hk => (hD k s hk).cg (fun j a b => up2_r (by omega))⟩ (hO.up (by decide) (by first | (show (13 : Nat) ∈ _; decide) | (show (5 : Nat) ∈ _; decide)))⟩, fun z => absurd (nI_le (Nat.le_refl _) (by omega)) z⟩
    | cons a R ih =>
      intro D f0 e e8 hD hR hO
      have hmem : a ∈ lg := by rw [e]; simp
      have hlen : lg.length = D.length + (R.length + 1) := by rw [e]; simp
      have ih2 := ih (D ++ [a])
      rw [List.length_append, List.length_singleton] at ih2
      generalize hkD : D.filter stayS = kD at hD ⊢
      have hkl : kD.length ≤ D.length := by rw [← hkD]; exact List.length_filter_le _ _
      have hsrc := hR 0 a rfl
      rw [Nat.add_zero] at hsrc
      have hR' : ∀ k s, R[k]? = some s → sC1 f0 x (T + 1) (D.length + 1 + k) s := fun k s hk => by
        have := hR (k + 1) s hk
        rw [show D.length + 1 + k = D.length + (k + 1) by omega]
        exact this
      have keep : stayS a = true → LpX2_tidy_31 l G d (qv sh fR K) sh fR x f0 g (nI T) (nI kD.length) (nI D.length) := by
        intro hst
        have hf1 : (D ++ [a]).filter stayS = kD ++ [a] := by rw [List.filter_append, hkD]; simp [hst]
        rw [hf1, List.length_append, List.length_singleton] at ih2
        refine VX2_tidy_31 hs ⟨fun c => ?_, fun c => ?_⟩
        · rw [nI_leI (by omega) (by omega)] at c
          have ek : kD.length = D.length := by omega
          refine VX2_tidy_42 hs (VX2_tidy_45 hs ?_)
          rw [nI_add, nI_add]
          refine ih2 f0 (by rw [e]; simp) e8 (fun k s hk => ?_) hR' hO
          by_cases hlt : k < kD.length
          · rw [List.getElem?_append_left hlt] at hk
            exact hD k s hk
          · rw [List.getElem?_append_right (by omega)] at hk
            have e2 : k = kD.length := by
              have := (List.getElem?_eq_some_iff.mp hk).1
              simp at this
              omega
            subst e2
            rw [Nat.sub_self] at hk
            cases hk
            rw [ek]
            exact hsrc
        · rw [nI_leI (by omega) (by omega)] at c
          simp (disch := omega) only [clN]
          have i1 : inb (nI D.length) 512 := inbN (by omega) (by decide)
          have i2 : inb (nI kD.length) 512 := inbN (by omega) (by decide)
          refine ⟨i1, i2, i1, i2, i1, i2, i1, i2, i1, i2, i1, i2, i1, i2, i1, i2, ?_⟩
          refine VX2_tidy_42 hs (VX2_tidy_45 hs ?_)
          rw [nI_add, nI_add]
          obtain ⟨a1, a2, a3, a4, a5, a6, a7, a8⟩ := hsrc
          rw [a7, a8, nar_b, nar_b]
          refine ih2 _ (by rw [e]; simp) ?_ (fun k s hk => ?_) (fun k s hk => ?_) ?_
          · rw [up2_r (by omega), up2_r (by omega), up2_r (by omega), up2_r (by omega), up2_r (by omega), up2_r (by omega), up2_r (by omega), up2_r (by omega)]
            exact e8
          · by_cases hlt : k < kD.length
            · rw [List.getElem?_append_left hlt] at hk
              refine (hD k s hk).cg (fun j _ _ => ?_)
              rw [up2_k (by omega), up2_k (by omega), up2_k (by omega), up2_k (by omega), up2_k (by omega), up2_k (by omega), up2_k (by omega), up2_k (by omega)]
            · rw [List.getElem?_append_right (by omega)] at hk
              have e2 : k = kD.length := by
                have := (List.getElem?_eq_some_iff.mp hk).1
                simp at this
                omega
              subst e2
              rw [Nat.sub_self] at hk
              cases hk
              refine ⟨?_, ?_, ?_, ?_, ?_, ?_, ?_, ?_⟩
              · rw [up2_r (by omega), up2_r (by omega), up2_r (by omega), up2_r (by omega), up2_r (by omega), up2_r (by omega), up2_r (by omega), up2_eq]; exact a1
              · rw [up2_r (by omega), up2_r (by omega), up2_r (by omega), up2_r (by omega), up2_r (by omega), up2_r (by omega), up2_eq]; exact a2
              · rw [up2_r (by omega), up2_r (by omega), up2_r (by omega), up2_r (by omega), up2_r (by omega), up2_eq]; exact a3
              · rw [up2_r (by omega), up2_r (by omega), up2_r (by omega), up2_r (by omega), up2_eq]; exact a4
              · rw [up2_r (by omega), up2_r (by omega), up2_r (by omega), up2_eq]; exact a5
              · rw [up2_r (by omega), up2_r (by omega), up2_eq]; exact a6
              · rw [up2_r (by omega), up2_eq]
              · rw [up2_eq]
          · refine (hR' k s hk).cg (fun j _ _ => ?_)
            rw [up2_k (by omega), up2_k (by omega), up2_k (by omega), up2_k (by omega), up2_k (by omega), up2_k (by omega), up2_k (by omega), up2_k (by omega)]
          · exact hO.tr ((((((((Oc.rf.up (by decide) (by first | (show (13 : Nat) ∈ _; decide) | (show (5 : Nat) ∈ _; decide))).up (by decide) (by first | (show (13 : Nat) ∈ _; decide) | (show (5 : Nat) ∈ _; decide))).up (by decide) (by first | (show (13 : Nat) ∈ _; decide) | (show (5 : Nat) ∈ _; decide))).up (by decide) (by first | (show (13 : Nat) ∈ _; decide) | (show (5 : Nat) ∈ _; decide))).up (by decide) (by first | (show (13 : Nat) ∈ _; decide) | (show (5 : Nat) ∈ _; decide))).up (by decide) (by first | (show (13 : Nat) ∈ _; decide) | (show (5 : Nat) ∈ _; decide))).up (by decide) (by first | (show (13 : Nat) ∈ _; decide) | (show (5 : Nat) ∈ _; decide))).up (by decide) (by first | (show (13 : Nat) ∈ _; decide) | (show (5 : Nat) ∈ _; decide)))
      refine VX2_tidy_4 hs ?_
      rw [e8, clN (by omega), hsrc.2.2.2.2.2.2.2]
      refine ⟨fun z => absurd z (nI_ge (by omega) (by omega)), fun _ => ⟨inbN (by omega) (by decide), fun c1 => keep ?_, fun c1 => ⟨inbN (by omega) (by decide), fun c2 => ?_, fun c2 => keep ?_⟩⟩⟩
      · simp [stayS, bI_ne0 c1]
      · have z1 := bI_0.mp c1
        have z2 : a.2.2.2.2.2.1 = none := by
          cases hz : a.2.2.2.2.2.1 with
          | none => rfl
          | some y =>
            have h6 := hsrc.2.2.2.2.2.1
            rw [hz] at h6
            rw [show f0 (x + 11) D.length = nI y from h6] at c2
            have := hok a hmem y hz
            exact absurd c2 (nI_ge (by omega) (by omega))
        have hf1 : (D ++ [a]).filter stayS = kD := by rw [List.filter_append, hkD]; simp [stayS, z1, z2]
        rw [hf1] at ih2
        refine VX2_tidy_45 hs ?_
        rw [nI_add]
        exact ih2 f0 (by rw [e]; simp) e8 hD hR' hO
      · have z2 : a.2.2.2.2.2.1.isSome = true := by
          cases hz : a.2.2.2.2.2.1 with
          | some y => rfl
          | none =>
            have h6 := hsrc.2.2.2.2.2.1
            rw [hz] at h6
            replace h6 : (f0 (x + 11) D.length).toInt < (T : Int) + 1 := h6
            exact absurd (Int32.le_iff_toInt_le.mpr (by rw [nI_toInt (by omega)]; omega)) c2
        simp [stayS, z2]
  exact loop lg [] f rfl h8 (fun k s hk => by simp at hk) (fun k s hk => by rw [List.length_nil, Nat.zero_add]; exact hg k s hk) Oc.rf
/-! answers -/
theorem D_aAdd {K : FI → FL → Prop} {la : List An} {a : An} (hs : StW sh fR x) (hg : PWa f x la) (hl : la.length < 500) (H : ∀ f' : FI, PWa f' x (la ++ [a]) → Oc [7] x f f' → K f' g) : Cl l G d 0 0 mX0_add [.ref (x + 14), .int (nI a.1), .int (oI a.2.1), .int (nI a.2.2.1), .int (nI a.2.2.2.1), .int (nI a.2.2.2.2.1)] (sh, f, g, fR) (qv sh fR K) := by
  obtain ⟨h8, hl5, hg⟩ := hg
  refine VX0_add hs ?_
  rw [h8, clN (by omega), nI_add]
  refine ⟨fun _ => ⟨inbN (by omega) (by decide), inbN (by omega) (by decide), inbN (by omega) (by decide), inbN (by omega) (by decide), inbN (by omega) (by decide), _, _, rfl, rfl, H _ ⟨?_, ?_, fun k z hz => ?_⟩ ?_⟩, fun z => absurd (nI_lt (show la.length < 512 by omega) (by decide)) z⟩
  · rw [up2_eq, List.length_append, List.length_singleton]
  · rw [List.length_append, List.length_singleton]; omega
  · by_cases ek : k < la.length
    · rw [List.getElem?_append_left ek] at hz
      refine (hg k z hz).cg (fun j _ _ => ?_)
      rw [up2_ne (by omega), up2_ne (by omega), up2_ne (by omega), up2_ne (by omega), up2_ne (by omega), up2_ne (by omega)]
    · rw [List.getElem?_append_right (by omega)] at hz
      have e2 : k = la.length := by
        have := (List.getElem?_eq_some_iff.mp hz).1
        simp at this
        omega
      subst e2
      rw [Nat.sub_self] at hz
      cases hz
      refine ⟨?_, ?_, ?_, ?_, ?_⟩
      · rw [up2_r (by omega), up2_r (by omega), up2_r (by omega), up2_r (by omega), up2_r (by omega), up2_eq]
      · rw [up2_r (by omega), up2_r (by omega), up2_r (by omega), up2_r (by omega), up2_eq]
      · rw [up2_r (by omega), up2_r (by omega), up2_r (by omega), up2_eq]
      · rw [up2_r (by omega), up2_r (by omega), up2_eq]
      · rw [up2_r (by omega), up2_eq]
  · exact (((((Oc.rf.up (by decide) (by show (7 : Nat) ∈ _; decide)).up (by decide) (by show (7 : Nat) ∈ _; decide)).up (by decide) (by show (7 : Nat) ∈ _; decide)).up (by decide) (by show (7 : Nat) ∈ _; decide)).up (by decide) (by show (7 : Nat) ∈ _; decide)).up (by decide) (by show (7 : Nat) ∈ _; decide)
def leftA (T : Nat) (a : An) : Bool := decide (T < a.2.2.2.2.1)
theorem D_aTidy {K : FI → FL → Prop} {T : Nat} {la : List An} (hs : StW sh fR x) (hT : T ≤ 1000) (hg : PWa f x la) (hok : ∀ a ∈ la, a.2.2.2.2.1 ≤ 2000) (H : ∀ f' : FI, PWa f' x (la.filter (leftA T)) → Oc [7] x f f' → K f' g) : Cl l G d 0 0 mX0_tidy [.ref (x + 14), .int (nI T)] (sh, f, g, fR) (qv sh fR K) := by
  obtain ⟨h8, hl, hg⟩ := hg
  refine VX0_tidy hs ?_
  have loop : ∀ (R D : List An) (f0 : FI), la = D ++ R → f0 (x + 14) 5 = nI la.length → (∀ k s, (D.filter (leftA T))[k]? = some s → aC1 f0 x k s) → (∀ k s, R[k]? = some s → aC1 f0 x (D.length + k) s) → Oc [7] x f f0 → LpX0_tidy_4 l G d (qv sh fR K) sh fR x f0 g (nI T) (nI (D.filter (leftA T)).length) (nI D.length) := by
    intro R
    induction R with
    | nil =>
      intro D f0 e e8 hD hR hO
      rw [List.append_nil] at e
      subst e
      have hfl := List.length_filter_le (leftA T) la
      refine VX0_tidy_4 hs ?_
      rw [e8]
      exact ⟨fun _ => ⟨_, _, rfl, rfl, H _ ⟨up2_eq, by omega, fun k s hk => (hD k s hk).cg (fun j a b => up2_r (by omega))⟩ (hO.up (by decide) (by show (7 : Nat) ∈ _; decide))⟩, fun z => absurd (nI_le (Nat.le_refl _) (by omega)) z⟩
    | cons a R ih =>
      intro D f0 e e8 hD hR hO
      have hmem : a ∈ la := by rw [e]; simp
      have ha := hok a hmem
      have hlen : la.length = D.length + (R.length + 1) := by rw [e]; simp
      have ih2 := ih (D ++ [a])
      rw [List.length_append, List.length_singleton] at ih2
      generalize hkD : D.filter (leftA T) = kD at hD ⊢
      have hkl : kD.length ≤ D.length := by rw [← hkD]; exact List.length_filter_le _ _
      have hsrc := hR 0 a rfl
      rw [Nat.add_zero] at hsrc
      have hR' : ∀ k s, R[k]? = some s → aC1 f0 x (D.length + 1 + k) s := fun k s hk => by
        have := hR (k + 1) s hk
        rw [show D.length + 1 + k = D.length + (k + 1) by omega]
        exact this
      obtain ⟨a1, a2, a3, a4, a5⟩ := hsrc
      refine VX0_tidy_4 hs ?_
      simp (disch := omega) only [clN]
      rw [e8, a5]
      have i1 : inb (nI D.length) 512 := inbN (by omega) (by decide)
      have i2 : inb (nI kD.length) 512 := inbN (by omega) (by decide)
      refine ⟨fun z => absurd z (nI_ge (by omega) (by omega)), fun _ => ⟨i1, fun c1 => ?_, fun c1 => ⟨i1, i2, i1, i2, i1, i2, i1, i2, i1, i2, ?_⟩⟩⟩
      · rw [nI_leI (by omega) (by omega)] at c1
        have hf1 : (D ++ [a]).filter (leftA T) = kD := by
          rw [List.filter_append, hkD]
          simp [leftA, show ¬ T < a.2.2.2.2.1 by omega]
        rw [hf1] at ih2
        refine VX0_tidy_85 hs ?_
        rw [nI_add]
        exact ih2 f0 (by rw [e]; simp) e8 hD hR' hO
      · rw [nI_leI (by omega) (by omega)] at c1
        have hf1 : (D ++ [a]).filter (leftA T) = kD ++ [a] := by
          rw [List.filter_append, hkD]
          simp [leftA, show T < a.2.2.2.2.1 by omega]
        rw [hf1, List.length_append, List.length_singleton] at ih2
        refine VX0_tidy_85 hs ?_
        rw [nI_add, nI_add]
        refine ih2 _ (by rw [e]; simp) ?_ (fun k s hk => ?_) (fun k s hk => ?_) ?_
        · rw [up2_r (by omega), up2_r (by omega), up2_r (by omega), up2_r (by omega), up2_r (by omega)]
          exact e8
        · by_cases hlt : k < kD.length
          · rw [List.getElem?_append_left hlt] at hk
            refine (hD k s hk).cg (fun j _ _ => ?_)
            rw [up2_k (by omega), up2_k (by omega), up2_k (by omega), up2_k (by omega), up2_k (by omega)]
          · rw [List.getElem?_append_right (by omega)] at hk
            have e2 : k = kD.length := by
              have := (List.getElem?_eq_some_iff.mp hk).1
              simp at this
              omega
            subst e2
            rw [Nat.sub_self] at hk
            cases hk
            refine ⟨?_, ?_, ?_, ?_, ?_⟩
            · rw [up2_r (by omega), up2_r (by omega), up2_r (by omega), up2_r (by omega), up2_eq]; exact a1
            · rw [up2_r (by omega), up2_r (by omega), up2_r (by omega), up2_eq]; exact a2
            · rw [up2_r (by omega), up2_r (by omega), up2_eq]; exact a3
            · rw [up2_r (by omega), up2_eq]; exact a4
            · rw [up2_eq]
        · refine (hR' k s hk).cg (fun j _ _ => ?_)
          rw [up2_k (by omega), up2_k (by omega), up2_k (by omega), up2_k (by omega), up2_k (by omega)]
        · exact hO.tr (((((Oc.rf.up (by decide) (by show (7 : Nat) ∈ _; decide)).up (by decide) (by show (7 : Nat) ∈ _; decide)).up (by decide) (by show (7 : Nat) ∈ _; decide)).up (by decide) (by show (7 : Nat) ∈ _; decide)).up (by decide) (by show (7 : Nat) ∈ _; decide))
  exact loop la [] f rfl h8 (fun k s hk => by simp at hk) (fun k s hk => by rw [List.length_nil, Nat.zero_add]; exact hg k s hk) Oc.rf
/-! pieces -/
theorem D_pAdd {K : FI → FL → Prop} {m : List (Nat × Nat)} {q : Nat × Nat} (hs : StW sh fR x) (hg : PWp f x m) (hl : m.length < 500) (H : ∀ f' : FI, PWp f' x (m ++ [q]) → Oc [6] x f f' → K f' g) : Cl l G d 0 0 mX5_add [.ref (x + 20), .int (nI q.1), .int (nI q.2)] (sh, f, g, fR) (qv sh fR K) := by
  obtain ⟨h8, hl5, hg⟩ := hg
  refine VX5_add hs ?_
  rw [h8, clN (by omega), nI_add]
  refine ⟨fun z => absurd z (nI_ge (show m.length < 512 by omega) (by decide)), fun _ => ⟨inbN (by omega) (by decide), inbN (by omega) (by decide), _, _, rfl, rfl, H _ ⟨?_, ?_, fun k z hz => ?_⟩ ?_⟩⟩
  · rw [up2_eq, List.length_append, List.length_singleton]
  · rw [List.length_append, List.length_singleton]; omega
  · by_cases ek : k < m.length
    · rw [List.getElem?_append_left ek] at hz
      rw [up2_ne (by omega), up2_ne (by omega), up2_ne (by omega), up2_ne (by omega), up2_ne (by omega), up2_ne (by omega)]
      exact hg k z hz
    · rw [List.getElem?_append_right (by omega)] at hz
      have e2 : k = m.length := by
        have := (List.getElem?_eq_some_iff.mp hz).1
        simp at this
        omega
      subst e2
      rw [Nat.sub_self] at hz
      cases hz
      refine ⟨?_, ?_⟩
      · rw [up2_r (by omega), up2_r (by omega), up2_eq]
      · rw [up2_r (by omega), up2_eq]
  · exact ((Oc.rf.up (by decide) (by show (6 : Nat) ∈ _; decide)).up (by decide) (by show (6 : Nat) ∈ _; decide)).up (by decide) (by show (6 : Nat) ∈ _; decide)
def ndN (n : Nat) (q : Nat × Nat) : Bool := decide (n < q.1 + q.2)
theorem D_pCount {K : Int32 → FI → FL → Prop} {m : List (Nat × Nat)} {n : Nat} (hs : StW sh fR x) (hg : PWp f x m) (hn : n ≤ 1000) (hok : ∀ q ∈ m, q.1 ≤ 1000 ∧ q.2 ≤ 1000) (H : K (nI (m.countP (ndN n))) f g) : Cl l G d 0 0 mX5_countFrom [.ref (x + 20), .int (nI n)] (sh, f, g, fR) (qi sh fR K) := by
  obtain ⟨h8, hl, hg⟩ := hg
  refine VX5_countFrom hs ?_
  have loop : ∀ (R D : List (Nat × Nat)), m = D ++ R → LpX5_countFrom_4 l G d (qi sh fR K) sh fR x f g (nI n) (nI (D.countP (ndN n))) (nI D.length) := by
    intro R
    induction R with
    | nil =>
      intro D e
      rw [List.append_nil] at e
      subst e
      refine VX5_countFrom_4 hs ?_
      rw [h8]
      exact ⟨fun _ => ⟨_, _, _, rfl, rfl, H⟩, fun z => absurd (nI_le (Nat.le_refl _) (by omega)) z⟩
    | cons a R ih =>
      intro D e
      have hk : m[D.length]? = some a := by rw [e]; exact at_len
      have hlt : D.length < m.length := (List.getElem?_eq_some_iff.mp hk).1
      have ha := hok a (List.mem_of_getElem? hk)
      have ih2 := ih (D ++ [a]) (by rw [e]; simp)
      rw [List.length_append, List.length_singleton, List.countP_append, List.countP_singleton] at ih2
      obtain ⟨q1, q2⟩ := hg _ a hk
      refine VX5_countFrom_4 hs ?_
      rw [h8, clN (by omega), q1, q2, nI_add]
      refine ⟨fun z => absurd z (nI_ge hlt (by omega)), fun _ => ⟨inbN (by omega) (by decide), inbN (by omega) (by decide), fun c1 => ?_, fun c1 => ?_⟩⟩
      · rw [nI_leI (by omega) (by omega)] at c1
        rw [show ndN n a = false from decide_eq_false (by omega)] at ih2
        refine VX5_countFrom_32 hs ?_
        rw [nI_add]
        exact ih2
      · rw [nI_leI (by omega) (by omega)] at c1
        rw [show ndN n a = true from decide_eq_true (by omega)] at ih2
        refine VX5_countFrom_32 hs ?_
        rw [nI_add, nI_add]
        exact ih2
  exact loop m [] rfl
theorem D_pTidy {K : FI → FL → Prop} {m : List (Nat × Nat)} {n : Nat} (hs : StW sh fR x) (hg : PWp f x m) (hn : n ≤ 1000) (hok : ∀ q ∈ m, q.1 ≤ 1000 ∧ q.2 ≤ 1000) (H : ∀ f' : FI, PWp f' x (m.filter (ndN n)) → Oc [6] x f f' → K f' g) : Cl l G d 0 0 mX5_tidy [.ref (x + 20), .int (nI n)] (sh, f, g, fR) (qv sh fR K) := by
  obtain ⟨h8, hl, hg⟩ := hg
  refine VX5_tidy hs ?_
  have loop : ∀ (R D : List (Nat × Nat)) (f0 : FI), m = D ++ R → f0 (x + 20) 2 = nI m.length → (∀ k q, (D.filter (ndN n))[k]? = some q → f0 (x + 21) k = nI q.1 ∧ f0 (x + 22) k = nI q.2) → (∀ k q, R[k]? = some q → f0 (x + 21) (D.length + k) = nI q.1 ∧ f0 (x + 22) (D.length + k) = nI q.2) → Oc [6] x f f0 → LpX5_tidy_4 l G d (qv sh fR K) sh fR x f0 g (nI n) (nI (D.filter (ndN n)).length) (nI D.length) := by
    intro R
    induction R with
    | nil =>
      intro D f0 e e8 hD hR hO
      rw [List.append_nil] at e
      subst e
      have hfl := List.length_filter_le (ndN n) m
      refine VX5_tidy_4 hs ?_
      rw [e8]
      refine ⟨fun _ => ⟨_, _, rfl, rfl, H _ ⟨up2_eq, by omega, fun k q hk => ?_⟩ (hO.up (by decide) (by show (6 : Nat) ∈ _; decide))⟩, fun z => absurd (nI_le (Nat.le_refl _) (by omega)) z⟩
      rw [up2_r (by omega), up2_r (by omega)]
      exact hD k q hk
    | cons a R ih =>
      intro D f0 e e8 hD hR hO
      have hmem : a ∈ m := by rw [e]; simp
      have ha := hok a hmem
      have hlen : m.length = D.length + (R.length + 1) := by rw [e]; simp
      have ih2 := ih (D ++ [a])
      rw [List.length_append, List.length_singleton] at ih2
      generalize hkD : D.filter (ndN n) = kD at hD ⊢
      have hkl : kD.length ≤ D.length := by rw [← hkD]; exact List.length_filter_le _ _
      obtain ⟨q1, q2⟩ := hR 0 a rfl
      replace q1 : f0 (x + 21) D.length = nI a.1 := q1
      replace q2 : f0 (x + 22) D.length = nI a.2 := q2
      have hR' : ∀ k q, R[k]? = some q → f0 (x + 21) (D.length + 1 + k) = nI q.1 ∧ f0 (x + 22) (D.length + 1 + k) = nI q.2 := fun k s hk => by
        have := hR (k + 1) s hk
        rw [show D.length + 1 + k = D.length + (k + 1) by omega]
        exact this
      refine VX5_tidy_4 hs ?_
      simp (disch := omega) only [clN]
      rw [e8, q1, q2, nI_add]
      have i1 : inb (nI D.length) 512 := inbN (by omega) (by decide)
      have i2 : inb (nI kD.length) 512 := inbN (by omega) (by decide)
      refine ⟨fun z => absurd z (nI_ge (by omega) (by omega)), fun _ => ⟨i1, i1, fun c1 => ?_, fun c1 => ⟨i1, i2, i1, i2, ?_⟩⟩⟩
      · rw [nI_leI (by omega) (by omega)] at c1
        have hf1 : (D ++ [a]).filter (ndN n) = kD := by
          rw [List.filter_append, hkD]
          simp [ndN, show ¬ n < a.1 + a.2 by omega]
        rw [hf1] at ih2
        refine VX5_tidy_56 hs ?_
        rw [nI_add]
        exact ih2 f0 (by rw [e]; simp) e8 hD hR' hO
      · rw [nI_leI (by omega) (by omega)] at c1
        have hf1 : (D ++ [a]).filter (ndN n) = kD ++ [a] := by
          rw [List.filter_append, hkD]
          simp [ndN, show n < a.1 + a.2 by omega]
        rw [hf1, List.length_append, List.length_singleton] at ih2
        refine VX5_tidy_56 hs ?_
        rw [nI_add, nI_add]
        refine ih2 _ (by rw [e]; simp) ?_ (fun k s hk => ?_) (fun k s hk => ?_) ?_
        · rw [up2_r (by omega), up2_r (by omega)]
          exact e8
        · by_cases hlt : k < kD.length
          · rw [List.getElem?_append_left hlt] at hk
            rw [up2_k (by omega), up2_k (by omega), up2_k (by omega), up2_k (by omega)]
            exact hD k s hk
          · rw [List.getElem?_append_right (by omega)] at hk
            have e2 : k = kD.length := by
              have := (List.getElem?_eq_some_iff.mp hk).1
              simp at this
              omega
            subst e2
            rw [Nat.sub_self] at hk
            cases hk
            refine ⟨?_, ?_⟩
            · rw [up2_r (by omega), up2_eq]
            · rw [up2_eq]
        · rw [up2_k (by omega), up2_k (by omega), up2_k (by omega), up2_k (by omega)]
          exact hR' k s hk
        · exact hO.tr ((Oc.rf.up (by decide) (by show (6 : Nat) ∈ _; decide)).up (by decide) (by show (6 : Nat) ∈ _; decide))
  exact loop m [] f rfl h8 (fun k s hk => by simp at hk) (fun k s hk => by rw [List.length_nil, Nat.zero_add]; exact hg k s hk) Oc.rf
end LF
