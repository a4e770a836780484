/-! the class' tick: deaths, waiting, failing -/
def WS (l : List Sg) : Prop := l.Pairwise (fun s s' => s.2.2.2.2.1 ≤ s'.2.2.2.2.1)
theorem late_idx {lg : List Sg} {p wt now k : Nat} {s : Sg} (hS : WS lg) (hk : lg.findIdx? (hitS p) = some k) (hs : lg[k]? = some s) : lg.findIdx? (fun y => hitS p y && decide (wt + y.2.2.2.2.1 ≤ now)) = if wt + s.2.2.2.2.1 ≤ now then some k else none := by
  obtain ⟨hlt, hp, hno⟩ := List.findIdx?_eq_some_iff_getElem.mp hk
  have es : lg[k] = s := by
    rw [List.getElem?_eq_getElem hlt] at hs
    exact Option.some.inj hs
  split
  · rename_i hl
    refine List.findIdx?_eq_some_iff_getElem.mpr ⟨hlt, ?_, fun j hj => ?_⟩
    · rw [hp, es]
      simp [hl]
    · have := hno j hj
      rw [Bool.not_eq_true] at this ⊢
      rw [this, Bool.false_and]
  · rename_i hl
    rw [List.findIdx?_eq_none_iff]
    intro y hy
    obtain ⟨i, hi, e⟩ := List.getElem_of_mem hy
    by_cases hik : i < k
    · have := hno i hik
      rw [Bool.not_eq_true] at this
      rw [← e, this, Bool.false_and]
    · have : s.2.2.2.2.1 ≤ y.2.2.2.2.1 := by
        by_cases hik2 : i = k
        · subst hik2
          rw [← e, es]
          exact Nat.le_refl _
        · have := List.pairwise_iff_getElem.mp hS k i hlt hi (by omega)
          rw [es, e] at this
          exact this
      rw [show decide (wt + y.2.2.2.2.1 ≤ now) = false from decide_eq_false (by omega), Bool.and_false]
/-- a path's segment has failed -/
def failW (w : Wd) (p k : Nat) (s : Sg) : Wd := wpt (wpt (pcF (wpc (wsg (keepS w (0, p, s.2.2.1)) (w.2.2.1.set k (sgFl s false))) (w.2.2.2.1 ++ [(s.2.2.1, s.2.2.2.1)]))) p 3 (w.2.1 p 3 + 1)) p 2 (halfS (w.2.1 p 2))
theorem failS_no {π : Pl} {dl : Nat → Nat} {w : Wd} {p : Nat} {m : List (Nat × Nat)} (h : w.2.2.1.findIdx? (lateS π dl w p) = none) : failS π dl w p = w ∧ failM π dl w p m = m := by
  constructor
  · unfold failS
    split
    · show (match w.2.2.1.findIdx? (lateS π dl w p) with
        | none => w
        | some k => _) = w
      rw [h]
    · rfl
  · unfold failM
    rw [h]
theorem failS_some {π : Pl} {dl : Nat → Nat} {w : Wd} {p k : Nat} {s : Sg} {m : List (Nat × Nat)} (hfr : freS w p = true) (h : w.2.2.1.findIdx? (lateS π dl w p) = some k) (hk : w.2.2.1[k]? = some s) : failS π dl w p = (if w.2.1 p 3 + 1 = 3 then dieS (failW w p k s) p else failW w p k s) ∧ failM π dl w p m = (if w.2.1 p 3 + 1 = 3 then dieM (failW w p k s) p (m ++ [pcE s]) else m ++ [pcE s]) := by
  have hmod : w.2.2.1.modify k (fun s => sgFl s false) = w.2.2.1.set k (sgFl s false) := modify_set _ hk
  have e33 : (failW w p k s).2.1 p 3 = w.2.1 p 3 + 1 := by
    show up2 (up2 w.2.1 p 3 (w.2.1 p 3 + 1)) p 2 (halfS (w.2.1 p 2)) p 3 = _
    rw [up2_k (by decide), up2_eq]
  have e31 : (failW w p k s).2.1 p 1 = w.2.1 p 1 := by
    show up2 (up2 w.2.1 p 3 (w.2.1 p 3 + 1)) p 2 (halfS (w.2.1 p 2)) p 1 = _
    rw [up2_k (by decide), up2_k (by decide)]
  constructor
  · have : failS π dl w p = (match w.2.2.1.findIdx? (lateS π dl w p) with
      | none => w
      | some k => match w.2.2.1[k]? with
        | none => w
        | some s =>
          let w1 := keepS w (0, p, s.2.2.1)
          let w2 := pcF (wpc (wsg w1 (w1.2.2.1.modify k (fun s => sgFl s false))) (w1.2.2.2.1 ++ [(s.2.2.1, s.2.2.2.1)]))
          let w3 := wpt (wpt w2 p 3 (w2.2.1 p 3 + 1)) p 2 (halfS (w2.2.1 p 2))
          if w3.2.1 p 3 = 3 then dieS w3 p else w3) := by
      unfold failS
      rw [if_pos hfr]
      rfl
    rw [h] at this
    dsimp only at this
    rw [hk] at this
    dsimp only at this
    rw [this]
    have e2 : wpt (wpt (pcF (wpc (wsg (keepS w (0, p, s.2.2.1)) ((keepS w (0, p, s.2.2.1)).2.2.1.modify k (fun s => sgFl s false))) ((keepS w (0, p, s.2.2.1)).2.2.2.1 ++ [(s.2.2.1, s.2.2.2.1)]))) p 3 (w.2.1 p 3 + 1)) p 2 (halfS (w.2.1 p 2)) = failW w p k s := by
      unfold failW
      rw [show (keepS w (0, p, s.2.2.1)).2.2.1.modify k (fun s => sgFl s false) = w.2.2.1.set k (sgFl s false) from hmod]
      rfl
    show (if (wpt (wpt (pcF (wpc (wsg (keepS w (0, p, s.2.2.1)) ((keepS w (0, p, s.2.2.1)).2.2.1.modify k (fun s => sgFl s false))) ((keepS w (0, p, s.2.2.1)).2.2.2.1 ++ [(s.2.2.1, s.2.2.2.1)]))) p 3 (w.2.1 p 3 + 1)) p 2 (halfS (w.2.1 p 2))).2.1 p 3 = 3 then dieS (wpt (wpt (pcF (wpc (wsg (keepS w (0, p, s.2.2.1)) ((keepS w (0, p, s.2.2.1)).2.2.1.modify k (fun s => sgFl s false))) ((keepS w (0, p, s.2.2.1)).2.2.2.1 ++ [(s.2.2.1, s.2.2.2.1)]))) p 3 (w.2.1 p 3 + 1)) p 2 (halfS (w.2.1 p 2))) p else (wpt (wpt (pcF (wpc (wsg (keepS w (0, p, s.2.2.1)) ((keepS w (0, p, s.2.2.1)).2.2.1.modify k (fun s => sgFl s false))) ((keepS w (0, p, s.2.2.1)).2.2.2.1 ++ [(s.2.2.1, s.2.2.2.1)]))) p 3 (w.2.1 p 3 + 1)) p 2 (halfS (w.2.1 p 2)))) = _
    rw [e2, e33]
  · unfold failM dieM
    rw [h, e31]
    dsimp only
    rw [hk]
    rfl
section FL1
variable {l : Launch} {G : Gx} {d : Nat} {sh : Sh} {fR : FRt} {x u : Nat} {f : FI} {g : FL} {π : Pl} {win : Nat} {dl : Nat → Nat} {t : Int} {w : Wd} {m : List (Nat × Nat)} {la : List An}
theorem stF5 (h : StPl sh fR u) : StF sh fR (u + 5) := by
  refine ⟨fun i z hz => ?_, fun z hz => ?_, by have := h.2.2; omega⟩
  · rcases (show i = 0 ∨ i = 1 ∨ i = 2 by have := (List.getElem?_eq_some_iff.mp hz).1; simp [fSh] at this; omega) with rfl | rfl | rfl <;> cases hz
    · exact sL_5 h
    · exact sL_6 h
    · exact sL_7 h
  · unfold fFR at hz
    simp only [List.mem_cons, List.not_mem_nil, or_false] at hz
    rcases hz with rfl | rfl
    · exact rL_5_0 h
    · exact rL_5_1 h
theorem stF8 (h : StPl sh fR u) : StF sh fR (u + 8) := by
  refine ⟨fun i z hz => ?_, fun z hz => ?_, by have := h.2.2; omega⟩
  · rcases (show i = 0 ∨ i = 1 ∨ i = 2 by have := (List.getElem?_eq_some_iff.mp hz).1; simp [fSh] at this; omega) with rfl | rfl | rfl <;> cases hz
    · exact sL_8 h
    · exact sL_9 h
    · exact sL_10 h
  · unfold fFR at hz
    simp only [List.mem_cons, List.not_mem_nil, or_false] at hz
    rcases hz with rfl | rfl
    · exact rL_8_0 h
    · exact rL_8_1 h
theorem stF11 (h : StPl sh fR u) : StF sh fR (u + 11) := by
  refine ⟨fun i z hz => ?_, fun z hz => ?_, by have := h.2.2; omega⟩
  · rcases (show i = 0 ∨ i = 1 ∨ i = 2 by have := (List.getElem?_eq_some_iff.mp hz).1; simp [fSh] at this; omega) with rfl | rfl | rfl <;> cases hz
    · exact sL_11 h
    · exact sL_12 h
    · exact sL_13 h
  · unfold fFR at hz
    simp only [List.mem_cons, List.not_mem_nil, or_false] at hz
    rcases hz with rfl | rfl
    · exact rL_11_0 h
    · exact rL_11_1 h
theorem stF14 (h : StPl sh fR u) : StF sh fR (u + 14) := by
  refine ⟨fun i z hz => ?_, fun z hz => ?_, by have := h.2.2; omega⟩
  · rcases (show i = 0 ∨ i = 1 ∨ i = 2 by have := (List.getElem?_eq_some_iff.mp hz).1; simp [fSh] at this; omega) with rfl | rfl | rfl <;> cases hz
    · exact sL_14 h
    · exact sL_15 h
    · exact sL_16 h
  · unfold fFR at hz
    simp only [List.mem_cons, List.not_mem_nil, or_false] at hz
    rcases hz with rfl | rfl
    · exact rL_14_0 h
    · exact rL_14_1 h
theorem opsOK.ne {ops : List Op} {b : Bool} {al : Nat → Bool} (h : opsOK ops b al) : 0 < ops.length := by
  cases ops with
  | nil =>
    have := h.1
    simp [tyrun] at this
  | cons o os => simp
theorem D_isTold {K : Int32 → FI → FL → Prop} {q : Nat} {o : Option (List Op)} {b : Bool} {al : Nat → Bool} (hF : StF sh fR q) (hc : CPf f q o) (ho : fmOK o b al) (H : K (bI o.isSome) f g) : Cl l G d 0 0 mX3_isTold [.ref q] (sh, f, g, fR) (qi sh fR K) := by
  refine VX3_isTold hF ?_
  cases o with
  | none =>
    rw [show f q 2 = nI 0 from hc]
    exact ⟨fun _ => ⟨_, _, _, rfl, rfl, H⟩, fun z => absurd (by decide) z⟩
  | some ops =>
    have hn := (ho ops rfl).ne
    obtain ⟨h2, h16, -⟩ : FmC f q ops := hc
    rw [h2]
    exact ⟨fun z => absurd z (nI_nle hn (by omega)), fun _ => ⟨_, _, _, rfl, rfl, H⟩⟩
theorem D_clamp {K : Int32 → FI → FL → Prop} {y : Int32} {v : Int} (hy : y.toInt = v) (H : K (nI (if v < 1 then 1 else if v > 99 then 99 else v.toNat)) f g) : Cl l G d 0 0 mJ_min [.int (nI 99), .int y] (sh, f, g, fR) (qi sh fR fun x1 f1 g1 => Cl l G d 0 0 mJ_max [.int (nI 1), .int x1] (sh, f1, g1, fR) (qi sh fR K)) := by
  have h99 : (nI 99).toInt = 99 := by decide
  refine D_min (fun c => D_max (fun c2 => ?_) (fun c2 => ?_)) (fun c => D_max (fun c2 => ?_) (fun c2 => ?_))
  · rw [Int32.lt_iff_toInt_lt, hy, h99] at c
    rw [Int32.lt_iff_toInt_lt, hy, nI1_toInt] at c2
    rw [if_neg (by omega), if_neg (by omega)] at H
    rw [toNat_nI (x := y) (n := v.toNat) (by rw [hy]; omega) (by omega)]
    exact H
  · rw [Int32.lt_iff_toInt_lt, hy, h99] at c
    rw [Int32.lt_iff_toInt_lt, hy, nI1_toInt] at c2
    by_cases e : v < 1
    · rw [if_pos e] at H
      exact H
    · rw [if_neg e, if_neg (by omega), show v.toNat = 1 by omega] at H
      exact H
  · rw [Int32.lt_iff_toInt_lt, hy, h99] at c
    by_cases e : v = 99
    · rw [if_neg (by omega), if_neg (by omega), e] at H
      exact H
    · rw [if_neg (by omega), if_pos (by omega)] at H
      exact H
  · exact absurd (by decide) c2
theorem CW.t8 (h : CW f x π win dl t w m la) : f x 8 = nI (w.1 0) := h.1 0 (by unfold nset; omega)
theorem D_waitOn {K : Int32 → FI → FL → Prop} {p : Nat} (hs : StW sh fR x) (hu : fR x 7 = some u) (hU : StPl sh fR u) (hux : u + 17 ≤ x) (hC : CW f x π win dl t w m la) (hc : CP f u π) (hq : qN w) (h0 : w.1 0 ≤ 1000) (hdl : ∀ p, dl p ≤ 9999) (hπ : πOK π) (hp : p < 4) (hp6 : p < π.1 6) (H : ∀ f' : FI, FW [11] x u f f' → K (nI (waitS π dl w p)) f' g) : Cl l G (d + 3) 0 0 mX10_waitOn [.ref x, .int (nI p)] (sh, f, g, fR) (qi sh fR K) := by
  obtain ⟨t1, t2, t3⟩ := rt_ok hs hp
  obtain ⟨r0, -, -, r3, r4, -⟩ := hC.rt hp
  replace r0 := r0 hp6
  have hd9 := hdl p
  obtain ⟨-, -, b2, b3, -⟩ := hq p
  have hF := hc.2.2.2 3 (by decide)
  replace hF : CPf f (u + 14) (π.2.2.2.2 3) := hF
  have hok := hπ.2.2.2.2.2.2.2.2.2.2.2
  refine VX10_waitOn hs hu hU ?_
  rw [clN (by omega)]
  refine ⟨inbN hp (by decide), x + 28 + p, t1, t2, t3, fun y ey => ?_⟩
  rw [r0, pk_mul, nI_add] at ey
  subst ey
  refine D_isTold (stF14 hU) hF hok ⟨fun c => ?_, fun c => ?_⟩
  · have hn := told0 c
    refine D_clamp (v := 4 * (dl p : Int) + 2) (by rw [nI_toInt (by omega)]; omega) ⟨_, _, _, rfl, rfl, ?_⟩
    have e : (if 4 * (dl p : Int) + 2 < 1 then 1 else if 4 * (dl p : Int) + 2 > 99 then 99 else (4 * (dl p : Int) + 2).toNat) = waitS π dl w p := by
      unfold waitS
      rw [hn]
    rw [e]
    exact H f FW.rf
  · obtain ⟨ops, ho⟩ := told1 c
    rw [ho] at hF
    have hO := hok ops ho
    rw [r0, r3, r4, hC.t8]
    have hFm : FmC (up2 (up2 (up2 (up2 f (x + 27) 0 (nI (w.1 0))) (x + 27) 4 (nI (dl p))) (x + 27) 5 (nI (w.2.1 p 2))) (x + 27) 7 (nI (w.2.1 p 3))) (u + 14) ops := FmC.congr (f := f) hF (fun k => by rw [up2_r (by omega), up2_r (by omega), up2_r (by omega), up2_r (by omega)]) (fun k => by rw [up2_r (by omega), up2_r (by omega), up2_r (by omega), up2_r (by omega)])
    refine D_valueBy (stF14 hU) (sW_27 hs) hFm hO (fa := faW w dl p) (fun k hk0 hk hal => ?_) (fun y f1 hy _ hf1 => ?_)
    · unfold alW at hal
      simp only [Bool.or_eq_true, beq_iff_eq] at hal
      rcases hal with ((rfl | rfl) | rfl) | rfl
      · rw [up2_k (by decide), up2_k (by decide), up2_k (by decide), up2_eq]; exact nI_r (by omega)
      · rw [up2_k (by decide), up2_k (by decide), up2_eq]; exact nI_r (by omega)
      · rw [up2_k (by decide), up2_eq]; exact nI_r (by omega)
      · rw [up2_eq]; exact nI_r (by omega)
    · refine D_clamp hy ⟨_, _, _, rfl, rfl, ?_⟩
      have e : (if ev ops (faW w dl p) < 1 then 1 else if ev ops (faW w dl p) > 99 then 99 else (ev ops (faW w dl p)).toNat) = waitS π dl w p := by
        unfold waitS
        rw [ho]
      rw [e]
      refine H f1 ⟨fun c' hc' j k hj ec => ?_, fun r k a b1 b2 b3 b4 => ?_⟩
      · have hj27 : j ≠ 27 := fun z => by subst z; exact hc' (by rw [← ec]; exact List.mem_singleton.mpr rfl)
        rw [hf1 _ _ (by omega), up2_r (by omega), up2_r (by omega), up2_r (by omega), up2_r (by omega)]
      · rw [hf1 _ _ (by omega), up2_r (by omega), up2_r (by omega), up2_r (by omega), up2_r (by omega)]
theorem D_sendAgain {K : FI → FL → Prop} {k : Nat} {s : Sg} (hs : StW sh fR x) (hu : fR x 7 = some u) (hU : StPl sh fR u) (hC : CW f x π win dl t w m la) (hk : w.2.2.1[k]? = some s) (hf : s.2.2.2.2.2.2.1 = true) (h4 : s.1 < 4) (hm : m.length < 500) (H : ∀ f' : FI, CW f' x π win dl t (wsg w (w.2.2.1.set k (sgFl s false))) (m ++ [pcE s]) la → Oc [3, 5, 6] x f f' → K f' g) : Cl l G (d + 1) 0 0 mX10_sendAgain [.ref x, .int (nI k)] (sh, f, g, fR) (qv sh fR K) := by
  have hlen := hC.2.2.2.2.1.2.1
  have hklt := (List.getElem?_eq_some_iff.mp hk).1
  obtain ⟨a1, -, a3, a4, -⟩ := hC.2.2.2.2.1.2.2 k s hk
  obtain ⟨t1, t2, t3⟩ := rt_ok hs h4
  obtain ⟨c1, o1⟩ := hC.off hk hf h4
  refine VX10_sendAgain hs hu hU ?_
  rw [clN (by omega), a1, clN (by omega), a3, a4]
  refine ⟨inbN (by omega) (by decide), inbN (by omega) (by decide), inbN h4 (by decide), x + 28 + s.1, t1, t2, t3, inbN (by omega) (by decide), inbN (by omega) (by decide), ?_⟩
  refine D_pAdd (q := pcE s) hs c1.2.2.2.2.2.1 hm (fun f2 q1 q2 => ⟨_, _, rfl, rfl, H f2 ?_ ((o1.mono (by decide)).tr (q2.mono (by decide)))⟩)
  exact c1.repp (q2.1.mono (by decide)) q1
theorem D_bury {K : FI → FL → Prop} {p : Nat} (hs : StW sh fR x) (hu : fR x 7 = some u) (hU : StPl sh fR u) (hC : CW f x π win dl t w m la) (hq : ∀ s ∈ w.2.2.1, s.1 < 4) (hp : p < 4) (hN : w.2.1 p 1 ≤ 1) (h0 : w.1 0 ≤ 1000) (hl : m.length + flyS w p ≤ 499) (H : ∀ f' : FI, CW f' x π win dl t (dieS w p) (dieM w p m) la → Oc [2, 3, 5, 6, 9] x f f' → K f' g) : Cl l G (d + 2) 0 0 mX10_bury [.ref x, .int (nI p)] (sh, f, g, fR) (qv sh fR K) := by
  obtain ⟨t1, t2, t3⟩ := rt_ok hs hp
  obtain ⟨-, -, r2, -⟩ := hC.rt hp
  refine VX10_bury hs hu hU ?_
  rw [clN (by omega)]
  refine ⟨inbN hp (by decide), x + 28 + p, t1, t2, t3, ?_⟩
  rw [r2, nI_0' (by omega), hC.t8]
  refine ⟨fun c => ?_, fun c => ⟨_, _, rfl, rfl, H f ?_ Oc.rf⟩⟩
  · have z : ¬ w.2.1 p 1 = 1 := by omega
    have em : dieM w p m = m ++ (w.2.2.1.filter (hitS p)).map pcE := by unfold dieM; rw [if_neg z]
    have hC1 := hC.setp (p := p) (i := 1) (v := 1) hp (by decide)
    replace hC1 : CW (up2 f (x + 28 + p) 2 (nI 1)) x π win dl t (wpt w p 1 1) m la := hC1
    have o1 : Oc [2, 3, 5, 6, 9] x f (up2 f (x + 28 + p) 2 (nI 1)) := Oc.rf.upr hp (by decide)
    refine D_logAdd (q := (2, p, w.1 0)) hs hC1.2.2.2.2.2.2.2.2.1 (fun f1 h1 h2 => ?_)
    have hC2 : CW f1 x π win dl t (keepS (wpt w p 1 1) (2, p, w.1 0)) m la := hC1.repk (h2.1.mono (by decide)) h1
    have o2 : Oc [2, 3, 5, 6, 9] x f f1 := o1.tr (h2.mono (by decide))
    have hfl : flyS w p = (w.2.2.1.filter (hitS p)).length := by
      unfold flyS
      rw [List.countP_eq_length_filter]
      congr 1
      apply List.filter_congr
      intro y _
      unfold hitS
      exact Bool.and_comm _ _
    rw [hfl] at hl
    have hlg := hC.2.2.2.2.1.2.1
    generalize hw1 : keepS (wpt w p 1 1) (2, p, w.1 0) = w1 at hC2
    have hw1s : w1.2.2.1 = w.2.2.1 := by rw [← hw1]; rfl
    have loop : ∀ (R D : List Sg) (f0 : FI), w.2.2.1 = D ++ R → CW f0 x π win dl t (wsg w1 (D.map (offS p) ++ R)) (m ++ (D.filter (hitS p)).map pcE) la → Oc [2, 3, 5, 6, 9] x f f0 → LpX10_bury_35 l G d (qv sh fR K) sh fR x u f0 g (nI p) (nI D.length) := by
      intro R
      induction R with
      | nil =>
        intro D f0 e hC0 hO
        rw [List.append_nil] at e hC0
        have n8 : f0 (x + 5) 8 = nI (D.map (offS p)).length := hC0.2.2.2.2.1.1
        rw [List.length_map] at n8
        rw [e] at hlg
        refine VX10_bury_35 hs hu hU ?_
        rw [n8]
        refine ⟨fun _ => ⟨_, _, rfl, rfl, H f0 ?_ hO⟩, fun z => absurd (nI_le (Nat.le_refl _) (by omega)) z⟩
        rw [dieS_live z, hw1, em, e]
        exact hC0
      | cons s R ih =>
        intro D f0 e hC0 hO
        have hmem : s ∈ w.2.2.1 := by rw [e]; simp
        have hs4 := hq s hmem
        have hDl : D.length + 1 + R.length ≤ 500 := by
          have : w.2.2.1.length = D.length + (R.length + 1) := by rw [e]; simp
          omega
        have hkD : (wsg w1 (D.map (offS p) ++ s :: R)).2.2.1[D.length]? = some s := by
          show (D.map (offS p) ++ s :: R)[D.length]? = _
          have := at_len (a := s) (l := D.map (offS p)) (r := R)
          rw [List.length_map] at this
          exact this
        have n8 : f0 (x + 5) 8 = nI (D.map (offS p) ++ s :: R).length := hC0.2.2.2.2.1.1
        rw [List.length_append, List.length_map, List.length_cons] at n8
        obtain ⟨a1, -, -, -, -, -, -, a8⟩ := hC0.2.2.2.2.1.2.2 _ s hkD
        have nx : ∀ f2 : FI, CW f2 x π win dl t (wsg w1 ((D ++ [s]).map (offS p) ++ R)) (m ++ ((D ++ [s]).filter (hitS p)).map pcE) la → Oc [2, 3, 5, 6, 9] x f f2 → LpX10_bury_76 l G d (qv sh fR K) sh fR x u f2 g (nI p) (nI D.length) := by
          intro f2 h5 h6
          refine VX10_bury_76 hs hu hU ?_
          have := ih (D ++ [s]) f2 (by rw [e]; simp) h5 h6
          rw [List.length_append, List.length_singleton] at this
          rw [nI_add]
          exact this
        have nh : hitS p s = false → CW f0 x π win dl t (wsg w1 ((D ++ [s]).map (offS p) ++ R)) (m ++ ((D ++ [s]).filter (hitS p)).map pcE) la := by
          intro hz
          rw [List.map_append, List.filter_append]
          simpa [hz, offS] using hC0
        refine VX10_bury_35 hs hu hU ?_
        rw [n8, clN (by omega), a1, a8]
        refine ⟨fun z => absurd z (nI_ge (by omega) (by omega)), fun _ => ⟨inbN (by omega) (by decide), fun c1 => nx f0 (nh ?_) hO, fun c1 => ⟨inbN (by omega) (by decide), fun c2 => nx f0 (nh ?_) hO, fun c2 => ?_⟩⟩⟩
        · simp [hitS, bI_0.mp c1]
        · have z1 : ¬ s.1 = p := fun z => c2 (by rw [z])
          simp [hitS, z1]
        · have z1 : s.1 = p := (nI_eq (by omega) (by omega)).mp c2
          have z2 := bI_ne0 c1
          have hz : hitS p s = true := by simp [hitS, z1, z2]
          refine D_sendAgain hs hu hU hC0 hkD z2 hs4 ?_ (fun f2 h5 h6 => nx f2 ?_ (hO.tr (h6.mono (by decide))))
          · rw [List.length_append, List.length_map]
            rw [e, List.filter_append, List.length_append, List.filter_cons, if_pos hz, List.length_cons] at hl
            omega
          · rw [List.map_append, List.filter_append]
            have e5 : (D.map (offS p) ++ s :: R).set D.length (sgFl s false) = D.map (offS p) ++ sgFl s false :: R := by
              have := List.set_append_right (s := D.map (offS p)) (t := s :: R) (i := D.length) (x := sgFl s false) (by rw [List.length_map]; exact Nat.le_refl _)
              rw [this, List.length_map, Nat.sub_self]
              rfl
            rw [show (wsg w1 (D.map (offS p) ++ s :: R)).2.2.1.set D.length (sgFl s false) = D.map (offS p) ++ sgFl s false :: R from e5] at h5
            have h5' : CW f2 x π win dl t (wsg w1 (D.map (offS p) ++ sgFl s false :: R)) (m ++ (D.filter (hitS p)).map pcE ++ [pcE s]) la := h5
            simpa [hz, offS] using h5'
    refine loop w.2.2.1 [] f1 rfl ?_ o2
    have : wsg w1 w.2.2.1 = w1 := by rw [← hw1s]; rfl
    simp only [List.map_nil, List.nil_append, List.filter_nil, List.append_nil]
    rw [this]
    exact hC2
  · have z : w.2.1 p 1 = 1 := by omega
    unfold dieS dieM
    rw [if_pos z, if_pos z]
    exact hC
theorem D_failLate {K : FI → FL → Prop} {k t0 h0 : Nat} {c : Nat → Nat} {p : Nat} (hs : StW sh fR x) (hu : fR x 7 = some u) (hU : StPl sh fR u) (hux : u + 17 ≤ x) (hC : CW f x π win dl t w m la) (hc : CP f u π) (hW : WI π k t0 c h0 w) (hk : k ≤ 499000) (hS : WS w.2.2.1) (hdl : ∀ p, dl p ≤ 9999) (hπ : πOK π) (hp : p < 4) (hp6 : p < π.1 6) (hl : m.length + flyS w p ≤ 499) (H : ∀ f' : FI, CW f' x π win dl t (failS π dl w p) (failM π dl w p m) la → FW [2, 3, 5, 6, 9, 11] x u f f' → K f' g) : Cl l G (d + 4) 0 0 mX10_failLate [.ref x, .int (nI p)] (sh, f, g, fR) (qv sh fR K) := by
  obtain ⟨t1, t2, t3⟩ := rt_ok hs hp
  obtain ⟨-, -, -, -, r4, r5, -⟩ := hC.rt hp
  have hq := hW.qN (show k ≤ 500000 by omega)
  have hN := hW.wN hπ hk
  have h00 := hN.1 0 (by decide)
  have hlg := hC.2.2.2.2.1.2.1
  have hfl5 : flyS w p ≤ 500 := Nat.le_trans List.countP_le_length hlg
  have nothing : w.2.2.1.findIdx? (lateS π dl w p) = none → ∀ f' : FI, CW f' x π win dl t w m la → FW [2, 3, 5, 6, 9, 11] x u f f' → qv sh fR K none (sh, f', g, fR) := by
    intro hn f' q1 q2
    obtain ⟨e1, e2⟩ := failS_no (m := m) hn
    exact ⟨_, _, rfl, rfl, H f' (by rw [e1, e2]; exact q1) q2⟩
  refine VX10_failLate hs hu hU ?_
  rw [clN (by omega)]
  refine ⟨inbN hp (by decide), x + 28 + p, t1, t2, t3, ?_⟩
  rw [r5]
  refine ⟨fun c1 => nothing ?_ f hC FW.rf, fun c1 => ?_⟩
  · have z : flyS w p = 0 := by
      refine Nat.eq_zero_of_not_pos (fun y => ?_)
      exact nI_nle y (by omega) c1
    rw [List.findIdx?_eq_none_iff]
    intro s hs
    unfold flyS at z
    rw [List.countP_eq_zero] at z
    have := z s hs
    rw [Bool.not_eq_true] at this
    unfold lateS
    rw [show (s.1 == p && s.2.2.2.2.2.2.1) = (s.2.2.2.2.2.2.1 && s.1 == p) from Bool.and_comm _ _, this, Bool.false_and]
  · refine D_firstOn hs hC.2.2.2.2.1 (fun s hs => (hN.2.2.1 s hs).1) hp ?_
    cases hidx : w.2.2.1.findIdx? (fun s => s.1 == p && s.2.2.2.2.2.2.1) with
    | none =>
      refine ⟨fun _ => nothing ?_ f hC FW.rf, fun z => absurd rfl z⟩
      rw [List.findIdx?_eq_none_iff] at hidx ⊢
      intro s hs
      have := hidx s hs
      unfold lateS
      rw [this, Bool.false_and]
    | some j =>
      obtain ⟨hjlt, hjp, -⟩ := List.findIdx?_eq_some_iff_getElem.mp hidx
      have hj : w.2.2.1[j]? = some w.2.2.1[j] := List.getElem?_eq_getElem hjlt
      generalize w.2.2.1[j] = s at hj hjp
      rw [Bool.and_eq_true, beq_iff_eq] at hjp
      have hlate := late_idx (wt := waitS π dl w p) (now := w.1 0) hS (show w.2.2.1.findIdx? (hitS p) = some j from hidx) hj
      replace hlate : w.2.2.1.findIdx? (lateS π dl w p) = if waitS π dl w p + s.2.2.2.2.1 ≤ w.1 0 then some j else none := hlate
      have hmem := List.mem_of_getElem? hj
      have hst : s.2.2.2.2.1 ≤ w.1 0 := (hW.2.2.1 s hmem).2.2.2.2.1
      have hfre : freS w p = true := by
        have := (hW.2.2.1 s hmem).2.2.2.2.2.2 hjp.2
        rw [hjp.1] at this
        exact this
      have hs4 : s.1 < 4 := by rw [hjp.1]; exact hp
      obtain ⟨-, -, a3, -, a5, -⟩ := hC.2.2.2.2.1.2.2 j s hj
      have hw := waitS_le (π := π) (dl := dl) (w := w) (p := p)
      show ((nI j = -1 → _) ∧ _)
      refine ⟨fun z => absurd z (nI_m1 (by omega)), fun _ => ⟨inbN (show j < 512 by omega) (by decide), ?_⟩⟩
      refine D_waitOn hs hu hU hux hC hc hq h00 hdl hπ hp hp6 (fun f1 q1 => ?_)
      have hC1 : CW f1 x π win dl t w m la := hC.sm (q1.1.mono (by decide))
      have hF1 : FW [2, 3, 5, 6, 9, 11] x u f f1 := q1.mono (by decide)
      rw [show (oI (some j)).toNatClampNeg = j from clN (by omega), hC.t8, a5, pk_sub hst, nI_leI (by omega) (by omega)]
      refine ⟨fun c2 => ⟨inbN hp (by decide), x + 28 + p, t1, t2, t3, inbN (show j < 512 by omega) (by decide), ?_⟩, fun c2 => nothing ?_ f1 hC1 hF1⟩
      · rw [if_pos (by omega)] at hlate
        obtain ⟨e1, e2⟩ := failS_some (m := m) hfre hlate hj
        have a31 : f1 (x + 8) j = nI s.2.2.1 := (hC1.2.2.2.2.1.2.2 j s hj).2.2.1
        rw [a31]
        refine D_logAdd (q := (0, p, s.2.2.1)) hs hC1.2.2.2.2.2.2.2.2.1 (fun f2 h1 h2 => ?_)
        have hC2 : CW f2 x π win dl t (keepS w (0, p, s.2.2.1)) m la := hC1.repk (h2.1.mono (by decide)) h1
        have hF2 : FW [2, 3, 5, 6, 9, 11] x u f f2 := hF1.tr ((h2.mono (by decide)).fw)
        have hfly1 : 1 ≤ flyS w p := by
          unfold flyS
          refine List.countP_pos_iff.mpr ⟨s, hmem, ?_⟩
          simp [hjp.1, hjp.2]
        refine D_sendAgain hs hu hU hC2 (show (keepS w (0, p, s.2.2.1)).2.2.1[j]? = some s from hj) hjp.2 hs4 (by omega) (fun f3 h3 h4 => ?_)
        have hF3 : FW [2, 3, 5, 6, 9, 11] x u f f3 := hF2.tr ((h4.mono (by decide)).fw)
        have r43 := (h3.rt hp).2.2.2.2.1
        replace r43 : f3 (x + 28 + p) 4 = nI (w.2.1 p 3) := r43
        rw [r43, nI_add]
        have hC4 := h3.setp (p := p) (i := 3) (v := w.2.1 p 3 + 1) hp (by decide)
        replace hC4 : CW (up2 f3 (x + 28 + p) 4 (nI (w.2.1 p 3 + 1))) x π win dl t (wpt (wsg (keepS w (0, p, s.2.2.1)) (w.2.2.1.set j (sgFl s false))) p 3 (w.2.1 p 3 + 1)) (m ++ [pcE s]) la := hC4
        have o4 : Oc [2, 3, 5, 6, 9, 11] x f3 (up2 f3 (x + 28 + p) 4 (nI (w.2.1 p 3 + 1))) := Oc.rf.upr hp (by decide)
        have h3le := (hW.2.1 p).2.2.2.1
        have hq4 : qN (wpt (wsg (keepS w (0, p, s.2.2.1)) (w.2.2.1.set j (sgFl s false))) p 3 (w.2.1 p 3 + 1)) := qN.pt (w := wsg (keepS w (0, p, s.2.2.1)) (w.2.2.1.set j (sgFl s false))) hq (by omega)
        refine D_halve hs hC4 hq4 hp (fun f5 h5 h6 => ?_)
        have ew : wpt (wpt (wsg (keepS w (0, p, s.2.2.1)) (w.2.2.1.set j (sgFl s false))) p 3 (w.2.1 p 3 + 1)) p 2 (halfS ((wpt (wsg (keepS w (0, p, s.2.2.1)) (w.2.2.1.set j (sgFl s false))) p 3 (w.2.1 p 3 + 1)).2.1 p 2)) = wpt (wpt (wsg (keepS w (0, p, s.2.2.1)) (w.2.2.1.set j (sgFl s false))) p 3 (w.2.1 p 3 + 1)) p 2 (halfS (w.2.1 p 2)) := by
          have : (wpt (wsg (keepS w (0, p, s.2.2.1)) (w.2.2.1.set j (sgFl s false))) p 3 (w.2.1 p 3 + 1)).2.1 p 2 = w.2.1 p 2 := up2_k (by decide)
          rw [this]
        rw [ew] at h5
        have hC5 : CW f5 x π win dl t (failW w p j s) (m ++ [pcE s]) la := h5
        have hF5 : FW [2, 3, 5, 6, 9, 11] x u f f5 := hF3.tr ((o4.tr (h6.mono (by decide))).fw)
        have e33 : (failW w p j s).2.1 p 3 = w.2.1 p 3 + 1 := by
          show up2 (up2 w.2.1 p 3 (w.2.1 p 3 + 1)) p 2 (halfS (w.2.1 p 2)) p 3 = _
          rw [up2_k (by decide), up2_eq]
        have e31 : (failW w p j s).2.1 p 1 = w.2.1 p 1 := by
          show up2 (up2 w.2.1 p 3 (w.2.1 p 3 + 1)) p 2 (halfS (w.2.1 p 2)) p 1 = _
          rw [up2_k (by decide), up2_k (by decide)]
        have e3s : (failW w p j s).2.2.1 = w.2.2.1.set j (sgFl s false) := rfl
        have e30 : (failW w p j s).1 = w.1 := rfl
        have r45 := (hC5.rt hp).2.2.2.2.1
        rw [r45, e33, nI_ltI (by omega) (by decide)]
        have hd2 : w.2.1 p 3 ≤ 2 := by
          have := (hW.2.1 p).2.2.2.2.1
          have hz : w.2.1 p 1 = 0 := by
            unfold freS at hfre
            rw [Bool.and_eq_true, beq_iff_eq, beq_iff_eq] at hfre
            exact hfre.2
          exact this hz
        refine ⟨fun c3 => ⟨_, _, rfl, rfl, H f5 ?_ hF5⟩, fun c3 => ?_⟩
        · rw [e1, e2, if_neg (by omega), if_neg (by omega)]
          exact hC5
        · refine D_bury hs hu hU hC5 (fun y hy => ?_) hp (by rw [e31]; exact (hq p).2.1) (by rw [e30]; exact h00) ?_ (fun f6 h7 h8 => ⟨_, _, rfl, rfl, H f6 ?_ (hF5.tr ((h8.mono (by decide)).fw))⟩)
          · rw [e3s] at hy
            rcases List.mem_or_eq_of_mem_set hy with hy | hy
            · exact (hN.2.2.1 y hy).1
            · rw [hy]; exact hs4
          · have : flyS (failW w p j s) p + 1 = flyS w p := by
              have := cntF_set (p := p) hj hjp.2
              rw [if_pos hjp.1] at this
              exact this.symm
            rw [List.length_append, List.length_singleton]
            omega
          · rw [e1, e2, if_pos (by omega), if_pos (by omega)]
            exact h7
      · rw [if_neg (by omega)] at hlate
        exact hlate
end FL1
