/-! the reference's tick: paths that die or fail -/
def pcE (s : Sg) : Nat × Nat := (s.2.2.1, s.2.2.2.1)
def hitS (p : Nat) (s : Sg) : Bool := s.1 == p && s.2.2.2.2.2.2.1
def offS (p : Nat) (s : Sg) : Sg := if hitS p s then sgFl s false else s
/-- the reference's pieces after a path's death -/
def dieM (w : Wd) (p : Nat) (m : List (Nat × Nat)) : List (Nat × Nat) := if w.2.1 p 1 = 1 then m else m ++ (w.2.2.1.filter (hitS p)).map pcE
def lateS (π : Pl) (dl : Nat → Nat) (w : Wd) (p : Nat) (s : Sg) : Bool := s.1 == p && s.2.2.2.2.2.2.1 && decide (waitS π dl w p + s.2.2.2.2.1 ≤ w.1 0)
def failM (π : Pl) (dl : Nat → Nat) (w : Wd) (p : Nat) (m : List (Nat × Nat)) : List (Nat × Nat) :=
  match w.2.2.1.findIdx? (lateS π dl w p) with
    | none => m
    | some k => match w.2.2.1[k]? with
      | none => m
      | some s => if w.2.1 p 3 + 1 = 3 then (if w.2.1 p 1 = 1 then m ++ [pcE s] else m ++ [pcE s] ++ ((w.2.2.1.set k (sgFl s false)).filter (hitS p)).map pcE) else m ++ [pcE s]
section C6
variable {l : Launch} {G : Gx} {d : Nat} {sh : Sh} {fR : FRt} {B v b win : Nat} {f : FI} {g : FL} {w : Wd} {m : List (Nat × Nat)} {π : Pl} {dl : Nat → Nat}
theorem C_again {K : FI → FL → Prop} {k : Nat} {s : Sg} (hs : StM sh fR B) (hv : v < 22) (hR : RM f B v w m) (hk : w.2.2.1[k]? = some s) (hl : m.length < 480) (H : ∀ f' : FI, RM f' B v (wsg w (w.2.2.1.set k (sgFl s false))) (m ++ [pcE s]) → Fr B v f f' → K f' g) : Cl l G (d + 1) 0 0 mX12_again [.ref B, .int (nI v), .int (nI k)] (sh, f, g, fR) (qv sh fR K) := by
  have hlt : k < 480 := Nat.lt_of_lt_of_le (List.getElem?_eq_some_iff.mp hk).1 hR.2.2.1.2.1
  have hg := hR.2.2.1.2.2 k s hk
  have n7 := hR.2.2.2.1.1
  refine VX12_again hs ?_
  simp (disch := omega) only [pk_mul, nI_add, clN]
  rw [n7, up2_k (show ¬ 8 * (480 * v + k) + 2 = 8 * (480 * v + k) + 6 by omega), hg 2 (by decide), up2_k (show ¬ 8 * (480 * v + k) + 3 = 8 * (480 * v + k) + 6 by omega), hg 3 (by decide)]
  simp (disch := omega) only [pk_mul, nI_add, clN]
  refine ⟨inbN (by omega) (by decide), inbN (by omega) (by decide), fun x hx => ?_⟩
  subst hx
  simp (disch := omega) only [pk_mul, nI_add, clN]
  refine ⟨inbN (by omega) (by decide), inbN (by omega) (by decide), inbN (by omega) (by decide), inbN (by omega) (by decide), inbN (by omega) (by decide), inbN (by omega) (by decide), _, _, rfl, rfl, H _ ?_ ?_⟩
  · have h1 := hR.sgfl hk
    refine RM.repp h1 (fun j a1 a2 a3 i hi => ?_) ⟨?_, ?_, fun q x hq => ?_⟩
    · rw [up2_ne (by omega), up2_r (by omega), up2_r (by omega)]
    · rw [up2_eq, List.length_append, List.length_singleton]
    · rw [List.length_append, List.length_singleton]; omega
    · by_cases ek : q < m.length
      · rw [List.getElem?_append_left ek] at hq
        have h2 := h1.2.2.2.1.2.2 q x hq
        refine ⟨?_, ?_⟩
        · rw [up2_r (by omega), up2_k (by omega), up2_k (by omega)]
          exact h2.1
        · rw [up2_r (by omega), up2_k (by omega), up2_k (by omega)]
          exact h2.2
      · rw [List.getElem?_append_right (by omega)] at hq
        have e3 : q = m.length := by
          have := (List.getElem?_eq_some_iff.mp hq).1
          simp at this
          omega
        subst e3
        simp at hq
        subst hq
        refine ⟨?_, ?_⟩
        · rw [up2_r (by omega), up2_k (by omega)]
          exact up2_eq
        · rw [up2_r (by omega)]
          exact up2_eq
  · exact (((Fr.rf.up (by unfold tch; omega)).up (by unfold tch; omega)).up (by unfold tch; omega)).up (by unfold tch; omega)
theorem dieS_live {p : Nat} (h : ¬ w.2.1 p 1 = 1) : dieS w p = pcF (wpc (wsg (keepS (wpt w p 1 1) (2, p, w.1 0)) (w.2.2.1.map (offS p))) (w.2.2.2.1 ++ (w.2.2.1.filter (hitS p)).map pcE)) := by
  unfold dieS
  rw [if_neg h]
  rfl
theorem C_dies {K : FI → FL → Prop} {p : Nat} (hs : StM sh fR B) (hv : v < 22) (hR : RM f B v w m) (hq : ∀ s ∈ w.2.2.1, s.1 < 4) (hp : p < 4) (hN : w.2.1 p 1 ≤ 500000) (hl : m.length + flyS w p ≤ 480) (H : ∀ f' : FI, RM f' B v (dieS w p) (dieM w p m) → Fr B v f f' → K f' g) : Cl l G (d + 2) 0 0 mX12_dies [.ref B, .int (nI v), .int (nI p)] (sh, f, g, fR) (qv sh fR K) := by
  have n1 := hR.2.1 p 1 hp (by decide)
  refine VX12_dies hs ?_
  simp (disch := omega) only [pk_mul, nI_add, clN]
  rw [n1, up2_k (show ¬ 40 * v + 0 = 40 * v + 14 + 6 * p + 1 by omega), hR.1 0 (by unfold nset; omega)]
  refine ⟨inbN (by omega) (by decide), fun c => ⟨inbN (by omega) (by decide), inbN (by omega) (by decide), ?_⟩, fun c => ⟨_, _, rfl, rfl, H f ?_ Fr.rf⟩⟩
  · have z : ¬ w.2.1 p 1 = 1 := fun z => c (by rw [z])
    have em : dieM w p m = m ++ (w.2.2.1.filter (hitS p)).map pcE := by unfold dieM; rw [if_neg z]
    refine C_writesDown (q := (2, p, w.1 0)) hs hv (hR.setp (i := 1) (x := 1) hp (by decide)) (fun f1 h1 h2 => ?_)
    have hfl : flyS w p = (w.2.2.1.filter (hitS p)).length := by
      unfold flyS
      rw [List.countP_eq_length_filter]
      congr 1
      apply List.filter_congr
      intro x _
      unfold hitS
      exact Bool.and_comm _ _
    rw [hfl] at hl
    have hlg := hR.2.2.1.2.1
    generalize hw1 : keepS (wpt w p 1 1) (2, p, w.1 0) = w1 at h1
    have hw1s : w1.2.2.1 = w.2.2.1 := by rw [← hw1]; rfl
    have loop : ∀ (R D : List Sg) (f0 : FI), w.2.2.1 = D ++ R → RM f0 B v (wsg w1 (D.map (offS p) ++ R)) (m ++ (D.filter (hitS p)).map pcE) → Fr B v f f0 → LpX12_dies_35 l G d (qv sh fR K) sh fR B f0 g (nI v) (nI p) (nI D.length) := by
      intro R
      induction R with
      | nil =>
        intro D f0 e hR0 hF
        rw [List.append_nil] at e hR0
        have n6 : f0 (B + 23) (40 * v + 6) = nI (D.map (offS p)).length := hR0.2.2.1.1
        rw [List.length_map] at n6
        rw [e] at hlg
        refine VX12_dies_35 hs ?_
        simp (disch := omega) only [pk_mul, nI_add, clN]
        rw [n6]
        refine ⟨inbN (by omega) (by decide), fun _ => ⟨_, _, rfl, rfl, H f0 ?_ hF⟩, fun z => absurd (nI_le (Nat.le_refl _) (by omega)) z⟩
        rw [dieS_live z, hw1, em, e]
        exact hR0
      | cons s R ih =>
        intro D f0 e hR0 hF
        have hmem : s ∈ w.2.2.1 := by rw [e]; simp
        have hs4 := hq s hmem
        have hDl : D.length + 1 + R.length ≤ 480 := by
          have : w.2.2.1.length = D.length + (R.length + 1) := by rw [e]; simp
          omega
        have hkD : (wsg w1 (D.map (offS p) ++ s :: R)).2.2.1[D.length]? = some s := by
          show (D.map (offS p) ++ s :: R)[D.length]? = _
          have := at_len (a := s) (l := D.map (offS p)) (r := R)
          rw [List.length_map] at this
          exact this
        have n6 : f0 (B + 23) (40 * v + 6) = nI (D.map (offS p) ++ s :: R).length := hR0.2.2.1.1
        rw [List.length_append, List.length_map, List.length_cons] at n6
        have hg := hR0.2.2.1.2.2 _ s hkD
        have nx : ∀ f2 : FI, RM f2 B v (wsg w1 ((D ++ [s]).map (offS p) ++ R)) (m ++ ((D ++ [s]).filter (hitS p)).map pcE) → Fr B v f f2 → LpX12_dies_75 l G d (qv sh fR K) sh fR B f2 g (nI v) (nI p) (nI D.length) := by
          intro f2 h5 h6
          refine VX12_dies_75 hs ?_
          have := ih (D ++ [s]) f2 (by rw [e]; simp) h5 h6
          rw [List.length_append, List.length_singleton] at this
          rw [nI_add]
          exact this
        have nh : hitS p s = false → RM f0 B v (wsg w1 ((D ++ [s]).map (offS p) ++ R)) (m ++ ((D ++ [s]).filter (hitS p)).map pcE) := by
          intro hz
          rw [List.map_append, List.filter_append]
          simpa [hz, offS] using hR0
        refine VX12_dies_35 hs ?_
        simp (disch := omega) only [pk_mul, nI_add, clN]
        rw [n6, hg 0 (by decide), hg 6 (by decide)]
        refine ⟨inbN (by omega) (by decide), fun z => absurd z (nI_ge (by omega) (by omega)), fun _ => ⟨inbN (by omega) (by decide), fun c1 => nx f0 (nh ?_) hF, fun c1 => ⟨inbN (by omega) (by decide), fun c2 => nx f0 (nh ?_) hF, fun c2 => ?_⟩⟩⟩
        · have z1 : ¬ s.1 = p := fun z => c1 (by show nI s.1 = _; rw [z])
          simp [hitS, z1]
        · have z1 : s.2.2.2.2.2.2.1 = false := by
            cases hz : s.2.2.2.2.2.2.1 with
            | false => rfl
            | true => exact absurd (bI_1.mpr hz) c2
          simp [hitS, z1]
        · have z1 : s.1 = p := (nI_eq (by omega) (by omega)).mp c1
          have z2 : s.2.2.2.2.2.2.1 = true := bI_1.mp c2
          have hz : hitS p s = true := by simp [hitS, z1, z2]
          refine C_again hs hv hR0 hkD ?_ (fun f2 h5 h6 => nx f2 ?_ (hF.tr h6))
          · rw [List.length_append, List.length_map]
            rw [e, List.filter_append, List.length_append, List.filter_cons, if_pos hz, List.length_cons] at hl
            omega
          · rw [List.map_append, List.filter_append]
            have e5 : (D.map (offS p) ++ s :: R).set D.length (sgFl s false) = D.map (offS p) ++ sgFl s false :: R := by
              have := List.set_append_right (s := D.map (offS p)) (t := s :: R) (i := D.length) (x := sgFl s false) (by rw [List.length_map]; exact Nat.le_refl _)
              rw [this, List.length_map, Nat.sub_self]
              rfl
            rw [show (wsg w1 (D.map (offS p) ++ s :: R)).2.2.1.set D.length (sgFl s false) = D.map (offS p) ++ sgFl s false :: R from e5] at h5
            have h5' : RM f2 B v (wsg w1 (D.map (offS p) ++ sgFl s false :: R)) (m ++ (D.filter (hitS p)).map pcE ++ [pcE s]) := h5
            simpa [hz, offS] using h5'
    refine loop w.2.2.1 [] f1 rfl ?_ ((Fr.rf.up (by unfold tch; omega)).tr h2)
    have : wsg w1 w.2.2.1 = w1 := by rw [← hw1s]; rfl
    simp only [List.map_nil, List.nil_append, List.filter_nil, List.append_nil]
    rw [this]
    exact h1
  · have z : w.2.1 p 1 = 1 := (nI_eq (by omega) (by decide)).mp c
    unfold dieS dieM
    rw [if_pos z, if_pos z]
    exact hR
theorem C_halved {K : Int32 → FI → FL → Prop} {c : Nat} (hs : StM sh fR B) (hc : c ≤ 500000) (H : K (nI (halfS c)) f g) : Cl l G d 0 0 mX12_halved [.int (nI c)] (sh, f, g, fR) (qi sh fR K) := by
  refine VX12_halved hs ?_
  rw [pk_div (by omega) (by decide) (by decide)]
  refine ⟨fun z => ⟨_, _, _, rfl, rfl, ?_⟩, fun z => ⟨_, _, _, rfl, rfl, ?_⟩⟩
  · have z2 : 1000 ≤ c / 2 := (nI_leI (by decide) (by omega)).mp z
    unfold halfS at H
    rw [if_neg (by omega)] at H
    exact H
  · have z2 : ¬ 1000 ≤ c / 2 := fun q => z ((nI_leI (by decide) (by omega)).mpr q)
    unfold halfS at H
    rw [if_pos (by omega)] at H
    exact H
theorem waitS_le {p : Nat} : 1 ≤ waitS π dl w p ∧ waitS π dl w p ≤ 99 := by
  have : ∀ x : Int, 1 ≤ (if x < 1 then 1 else if x > 99 then 99 else x.toNat) ∧ (if x < 1 then 1 else if x > 99 then 99 else x.toNat) ≤ 99 := by
    intro x
    by_cases h1 : x < 1
    · rw [if_pos h1]; omega
    · rw [if_neg h1]
      by_cases h2 : x > 99
      · rw [if_pos h2]; omega
      · rw [if_neg h2]; omega
  exact this _
theorem C_fails {K : FI → FL → Prop} {p : Nat} (hs : StM sh fR B) (hv : v < 22) (hR : RM f B v w m) (hN : wN w) (hT : TM f B b π win dl) (hπ : πOK π) (hp : p < 4) (hfr : freS w p = true) (hsent : ∀ s ∈ w.2.2.1, s.2.2.2.2.1 ≤ w.1 0) (hl : m.length + flyS w p ≤ 480) (h3 : w.2.1 p 3 ≤ 499999)
    (H : ∀ (f' : FI) (g' : FL), RM f' B v (failS π dl w p) (failM π dl w p m) → Fr B v f f' → (∀ r k, r ≠ B + 30 → g' r k = g r k) → K f' g') : Cl l G (d + 4) 0 0 mX12_fails [.ref B, .int (nI v), .int (nI p)] (sh, f, g, fR) (qv sh fR K) := by
  refine VX12_fails hs ?_
  refine C_waitOf hs hv hR hN hT hπ hp (fun f1 g1 e1 e2 => ?_)
  have hR1 : RM f1 B v w m := hR.congr (fun j a b i => e1 _ _ (by omega))
  have hF1 : Fr B v f f1 := fun r k z => e1 r k (fun q => z (by unfold tch; omega))
  have hw := waitS_le (π := π) (dl := dl) (w := w) (p := p)
  have ht := hN.1 0 (by decide)
  have hlg := hR.2.2.1.2.1
  have hfs : failS π dl w p = (match w.2.2.1.findIdx? (lateS π dl w p) with
    | none => w
    | some k => match w.2.2.1[k]? with
      | none => w
      | some s =>
        let w1 := keepS w (0, p, s.2.2.1)
        let w2 := pcF (wpc (wsg w1 (w1.2.2.1.modify k (fun s => sgFl s false))) (w1.2.2.2.1 ++ [(s.2.2.1, s.2.2.2.1)]))
        let w3 := wpt (wpt w2 p 3 (w2.2.1 p 3 + 1)) p 2 (halfS (w2.2.1 p 2))
        if w3.2.1 p 3 = 3 then dieS w3 p else w3) := by
    unfold failS
    rw [if_pos hfr]
    rfl
  have loop : ∀ (R D : List Sg), w.2.2.1 = D ++ R → D.findIdx? (lateS π dl w p) = none → LpX12_fails_10 l G d (qv sh fR K) sh fR B f1 g1 (nI v) (nI p) (nI (waitS π dl w p)) (nI D.length) := by
    intro R
    induction R with
    | nil =>
      intro D e hD
      rw [List.append_nil] at e
      have n6 := hR1.2.2.1.1
      rw [e] at n6 hlg
      refine VX12_fails_10 hs ?_
      simp (disch := omega) only [pk_mul, nI_add, clN]
      rw [n6]
      refine ⟨inbN (by omega) (by decide), fun _ => ⟨_, _, rfl, rfl, H f1 g1 ?_ hF1 e2⟩, fun z => absurd (nI_le (Nat.le_refl _) (by omega)) z⟩
      unfold failM
      rw [hfs, e, hD]
      exact hR1
    | cons s R ih =>
      intro D e hD
      have hmem : s ∈ w.2.2.1 := by rw [e]; simp
      obtain ⟨q1, q2, q3, q4, q5, q6⟩ := hN.2.2.1 s hmem
      have hst := hsent s hmem
      have hlen : w.2.2.1.length = D.length + (R.length + 1) := by rw [e]; simp
      have hk : w.2.2.1[D.length]? = some s := by rw [e]; exact at_len
      have n6 := hR1.2.2.1.1
      rw [hlen] at n6
      have hg := hR1.2.2.1.2.2 _ s hk
      have nx : lateS π dl w p s = false → LpX12_fails_141 l G d (qv sh fR K) sh fR B f1 g1 (nI v) (nI p) (nI (waitS π dl w p)) (nI D.length) := by
        intro hz
        refine VX12_fails_141 hs ?_
        have := ih (D ++ [s]) (by rw [e]; simp) (by rw [List.findIdx?_append, hD]; simp [hz])
        rw [List.length_append, List.length_singleton] at this
        rw [nI_add]
        exact this
      refine VX12_fails_10 hs ?_
      simp (disch := omega) only [pk_mul, nI_add, clN]
      rw [n6, hg 0 (by decide), hg 6 (by decide), hR1.1 0 (by unfold nset; omega), hg 4 (by decide), hg 2 (by decide)]
      refine ⟨inbN (by omega) (by decide), fun z => absurd z (nI_ge (by omega) (by omega)), fun _ => ⟨inbN (by omega) (by decide), fun c1 => nx ?_, fun c1 => ⟨inbN (by omega) (by decide), fun c2 => nx ?_, fun c2 => ⟨inbN (by omega) (by decide), inbN (by omega) (by decide), fun c3 => ⟨inbN (by omega) (by decide), ?_⟩, fun c3 => nx ?_⟩⟩⟩⟩
      · have z1 : ¬ s.1 = p := fun z => c1 (by show nI s.1 = _; rw [z])
        simp [lateS, z1]
      · have z1 : s.2.2.2.2.2.2.1 = false := bI_0.mp c2
        simp [lateS, z1]
      · have z1 : s.1 = p := (nI_eq (by omega) (by omega)).mp c1
        have z2 : s.2.2.2.2.2.2.1 = true := by
          cases hz : s.2.2.2.2.2.2.1 with
          | true => rfl
          | false => exact absurd (bI_0.mpr hz) c2
        have z3 : waitS π dl w p + s.2.2.2.2.1 ≤ w.1 0 := by
          replace c3 : nI (waitS π dl w p) ≤ nI (w.1 0) - nI s.2.2.2.2.1 := c3
          rw [pk_sub hst] at c3
          have := (nI_leI (by omega) (by omega)).mp c3
          omega
        have hidx : w.2.2.1.findIdx? (lateS π dl w p) = some D.length := by
          rw [e, List.findIdx?_append, hD, List.findIdx?_cons]
          simp [lateS, z1, z2, z3]
        rw [hidx] at hfs
        dsimp only at hfs
        rw [hk] at hfs
        have hfly1 : 1 ≤ flyS w p := by
          unfold flyS
          rw [e, List.countP_append, List.countP_cons]
          simp [z1, z2]
          omega
        have hfm : failM π dl w p m = (if w.2.1 p 3 + 1 = 3 then (if w.2.1 p 1 = 1 then m ++ [pcE s] else m ++ [pcE s] ++ ((w.2.2.1.set D.length (sgFl s false)).filter (hitS p)).map pcE) else m ++ [pcE s]) := by
          unfold failM
          rw [hidx]
          dsimp only
          rw [hk]
        refine C_writesDown (q := (0, p, s.2.2.1)) hs hv hR1 (fun f2 h1 h2 => ?_)
        refine C_again hs hv h1 (s := s) hk (by omega) (fun f3 h3' h4 => ?_)
        have c3' := h3'.2.1 p 3 hp (by decide)
        have c2' := h3'.2.1 p 2 hp (by decide)
        replace c3' : f3 (B + 23) (40 * v + 14 + 6 * p + 3) = nI (w.2.1 p 3) := c3'
        replace c2' : f3 (B + 23) (40 * v + 14 + 6 * p + 2) = nI (w.2.1 p 2) := c2'
        rw [c3', up2_k (show ¬ 40 * v + 14 + 6 * p + 2 = 40 * v + 14 + 6 * p + 3 by omega), c2', nI_add]
        refine ⟨inbN (by omega) (by decide), inbN (by omega) (by decide), inbN (by omega) (by decide), ?_⟩
        refine C_halved hs (hN.2.1 p 2) ⟨inbN (by omega) (by decide), inbN (by omega) (by decide), ?_⟩
        rw [up2_k (show ¬ 40 * v + 14 + 6 * p + 3 = 40 * v + 14 + 6 * p + 2 by omega), up2_eq]
        have h5 := (h3'.setp (p := p) (i := 3) (x := w.2.1 p 3 + 1) hp (by decide)).setp (p := p) (i := 2) (x := halfS (w.2.1 p 2)) hp (by decide)
        have hFr := ((((hF1.tr h2).tr h4).up (r := B + 23) (k := 40 * v + 14 + 6 * p + 3) (x := nI (w.2.1 p 3 + 1)) (by unfold tch; omega)).up (r := B + 23) (k := 40 * v + 14 + 6 * p + 2) (x := nI (halfS (w.2.1 p 2))) (by unfold tch; omega))
        have hmod : w.2.2.1.modify D.length (fun s => sgFl s false) = w.2.2.1.set D.length (sgFl s false) := modify_set _ hk
        have e33 : (wpt (wpt (pcF (wpc (wsg (keepS w (0, p, s.2.2.1)) ((keepS w (0, p, s.2.2.1)).2.2.1.modify D.length (fun s => sgFl s false))) ((keepS w (0, p, s.2.2.1)).2.2.2.1 ++ [(s.2.2.1, s.2.2.2.1)]))) p 3 (w.2.1 p 3 + 1)) p 2 (halfS (w.2.1 p 2))).2.1 p 3 = w.2.1 p 3 + 1 := by
          show up2 (up2 w.2.1 p 3 (w.2.1 p 3 + 1)) p 2 (halfS (w.2.1 p 2)) p 3 = _
          rw [up2_k (by decide), up2_eq]
        have e31 : (wpt (wpt (pcF (wpc (wsg (keepS w (0, p, s.2.2.1)) ((keepS w (0, p, s.2.2.1)).2.2.1.modify D.length (fun s => sgFl s false))) ((keepS w (0, p, s.2.2.1)).2.2.2.1 ++ [(s.2.2.1, s.2.2.2.1)]))) p 3 (w.2.1 p 3 + 1)) p 2 (halfS (w.2.1 p 2))).2.1 p 1 = w.2.1 p 1 := by
          show up2 (up2 w.2.1 p 3 (w.2.1 p 3 + 1)) p 2 (halfS (w.2.1 p 2)) p 1 = _
          rw [up2_k (by decide), up2_k (by decide)]
        have e3s : (wpt (wpt (pcF (wpc (wsg (keepS w (0, p, s.2.2.1)) ((keepS w (0, p, s.2.2.1)).2.2.1.modify D.length (fun s => sgFl s false))) ((keepS w (0, p, s.2.2.1)).2.2.2.1 ++ [(s.2.2.1, s.2.2.2.1)]))) p 3 (w.2.1 p 3 + 1)) p 2 (halfS (w.2.1 p 2))).2.2.1 = w.2.2.1.set D.length (sgFl s false) := hmod
        have h6 : RM (up2 (up2 f3 (B + 23) (40 * v + 14 + 6 * p + 3) (nI (w.2.1 p 3 + 1))) (B + 23) (40 * v + 14 + 6 * p + 2) (nI (halfS (w.2.1 p 2)))) B v (wpt (wpt (pcF (wpc (wsg (keepS w (0, p, s.2.2.1)) ((keepS w (0, p, s.2.2.1)).2.2.1.modify D.length (fun s => sgFl s false))) ((keepS w (0, p, s.2.2.1)).2.2.2.1 ++ [(s.2.2.1, s.2.2.2.1)]))) p 3 (w.2.1 p 3 + 1)) p 2 (halfS (w.2.1 p 2))) (m ++ [pcE s]) := by
          rw [show (keepS w (0, p, s.2.2.1)).2.2.1.modify D.length (fun s => sgFl s false) = w.2.2.1.set D.length (sgFl s false) from hmod]
          exact h5
        replace hfs : failS π dl w p = (if (wpt (wpt (pcF (wpc (wsg (keepS w (0, p, s.2.2.1)) ((keepS w (0, p, s.2.2.1)).2.2.1.modify D.length (fun s => sgFl s false))) ((keepS w (0, p, s.2.2.1)).2.2.2.1 ++ [(s.2.2.1, s.2.2.2.1)]))) p 3 (w.2.1 p 3 + 1)) p 2 (halfS (w.2.1 p 2))).2.1 p 3 = 3 then dieS (wpt (wpt (pcF (wpc (wsg (keepS w (0, p, s.2.2.1)) ((keepS w (0, p, s.2.2.1)).2.2.1.modify D.length (fun s => sgFl s false))) ((keepS w (0, p, s.2.2.1)).2.2.2.1 ++ [(s.2.2.1, s.2.2.2.1)]))) p 3 (w.2.1 p 3 + 1)) p 2 (halfS (w.2.1 p 2))) p else (wpt (wpt (pcF (wpc (wsg (keepS w (0, p, s.2.2.1)) ((keepS w (0, p, s.2.2.1)).2.2.1.modify D.length (fun s => sgFl s false))) ((keepS w (0, p, s.2.2.1)).2.2.2.1 ++ [(s.2.2.1, s.2.2.2.1)]))) p 3 (w.2.1 p 3 + 1)) p 2 (halfS (w.2.1 p 2)))) := hfs
        generalize (wpt (wpt (pcF (wpc (wsg (keepS w (0, p, s.2.2.1)) ((keepS w (0, p, s.2.2.1)).2.2.1.modify D.length (fun s => sgFl s false))) ((keepS w (0, p, s.2.2.1)).2.2.2.1 ++ [(s.2.2.1, s.2.2.2.1)]))) p 3 (w.2.1 p 3 + 1)) p 2 (halfS (w.2.1 p 2))) = w3 at e33 e31 e3s h6 hfs
        rw [e33] at hfs
        refine ⟨fun c4 => ⟨_, _, rfl, rfl, H _ _ ?_ hFr e2⟩, fun c4 => ?_⟩
        · have z4 : ¬ w.2.1 p 3 + 1 = 3 := fun z => c4 (by rw [z])
          rw [if_neg z4] at hfs
          rw [hfs, hfm, if_neg z4]
          exact h6
        · have z4 : w.2.1 p 3 + 1 = 3 := (nI_eq (by omega) (by decide)).mp c4
          rw [if_pos z4] at hfs
          refine C_dies hs hv h6 (fun x hx => ?_) hp (by rw [e31]; exact hN.2.1 p 1) ?_ (fun f5 h7 h8 => ⟨_, _, rfl, rfl, H f5 _ ?_ (hFr.tr h8) e2⟩)
          · rw [e3s] at hx
            rcases List.mem_or_eq_of_mem_set hx with hx | hx
            · exact (hN.2.2.1 x hx).1
            · rw [hx]; exact q1
          · have : flyS w3 p + 1 = flyS w p := by
              unfold flyS
              rw [e3s, e, List.set_append_right _ _ (Nat.le_refl _), Nat.sub_self]
              simp only [List.set_cons_zero, List.countP_append, List.countP_cons]
              simp [z1, z2, sgFl]
              omega
            rw [List.length_append, List.length_singleton]
            omega
          · rw [hfs, hfm, if_pos z4]
            unfold dieM at h7
            rw [e31, e3s] at h7
            exact h7
      · have z3 : ¬ waitS π dl w p + s.2.2.2.2.1 ≤ w.1 0 := by
          intro z
          apply c3
          show nI (waitS π dl w p) ≤ nI (w.1 0) - nI s.2.2.2.2.1
          rw [pk_sub hst]
          exact (nI_leI (by omega) (by omega)).mpr (by omega)
        simp [lateS, z3]
  exact loop w.2.2.1 [] rfl rfl
end C6
