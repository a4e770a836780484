/-! the class' tick: receiving as a whole -/
theorem sameR.die {L : List Sg} {w : Wd} {p : Nat} (h : sameR L w.2.2.1) : sameR L (dieS w p).2.2.1 := by
  by_cases hd : w.2.1 p 1 = 1
  · unfold dieS
    rw [if_pos hd]
    exact h
  · rw [dieS_live hd]
    refine ⟨?_, fun k s hk => ?_⟩
    · show (w.2.2.1.map (offS p)).length = _
      rw [List.length_map]
      exact h.1
    · obtain ⟨s', e1, e2, e3, e4⟩ := h.2 k s hk
      refine ⟨offS p s', ?_, ?_, ?_, ?_⟩
      · show (w.2.2.1.map (offS p))[k]? = _
        rw [List.getElem?_map, e1]
        rfl
      · rw [← e2]; unfold offS; split <;> rfl
      · rw [← e3]; unfold offS; split <;> rfl
      · rw [← e4]; unfold offS; split <;> rfl
theorem sameR.upd (T : Nat) (L : List Sg) : sameR L (L.map (updS T)) := by
  refine ⟨List.length_map _, fun k s hk => ⟨updS T s, ?_, ?_, ?_, ?_⟩⟩
  · rw [List.getElem?_map, hk]
    rfl
  · exact (updS_f T s).1
  · exact (updS_f T s).2.1
  · have := (updS_f T s).2.2.2.2.2
    rw [this]
section RV2
variable {l : Launch} {G : Gx} {d : Nat} {sh : Sh} {fR : FRt} {x u : Nat} {f : FI} {g : FL} {π : Pl} {win : Nat} {dl : Nat → Nat} {t : Int} {w : Wd} {m : List (Nat × Nat)} {la : List An}
theorem fly_all {p : Nat} : flyS w p ≤ w.2.2.1.countP (fun s => s.2.2.2.2.2.2.1) := countP_mono (fun s _ hz => by
  simp only [Bool.and_eq_true] at hz
  exact hz.1)
theorem D_buryWrong {K : FI → FL → Prop} {k T h0 : Nat} {L : List Sg} (hs : StW sh fR x) (hu : fR x 7 = some u) (hU : StPl sh fR u) (hC : CW f x π win dl t w m la) (hπ : πOK π) (hT : w.1 0 = T) (hL : sameR L w.2.2.1) (h4 : ∀ s ∈ L, s.1 < 4) (hd : dueC f x T L) (hW : WI π k (T + 1) (fun _ => T) h0 w) (hk : k ≤ 499000) (hP : PI π w m) (H : ∀ (f' : FI) (m' : List (Nat × Nat)), CW f' x π win dl t ((wrL T L).foldl dieS w) m' la → WI π k (T + 1) (fun _ => T) h0 ((wrL T L).foldl dieS w) → PI π ((wrL T L).foldl dieS w) m' → Oc [2, 3, 5, 6, 9] x f f' → K f' g) : Cl l G (d + 3) 0 0 mX10_buryWrong [.ref x] (sh, f, g, fR) (qv sh fR K) := by
  have hlg := hC.2.2.2.2.1.2.1
  have hlL := hL.1
  have loop : ∀ (R D : List Sg) (f0 : FI) (wk : Wd) (mk : List (Nat × Nat)), L = D ++ R → wk = (wrL T D).foldl dieS w → CW f0 x π win dl t wk mk la → sameR L wk.2.2.1 → WI π k (T + 1) (fun _ => T) h0 wk → PI π wk mk → wk.1 0 = T → Oc [2, 3, 5, 6, 9] x f f0 → LpX10_buryWrong_2 l G d (qv sh fR K) sh fR x u f0 g (nI D.length) := by
    intro R
    induction R with
    | nil =>
      intro D f0 wk mk e hwk hC0 hL0 hW0 hP0 hT0 hO
      rw [List.append_nil] at e
      subst e
      refine VX10_buryWrong_2 hs hu hU ?_
      rw [hC0.2.2.2.2.1.1, hL0.1]
      rw [hwk] at hC0 hW0 hP0
      exact ⟨fun _ => ⟨_, _, rfl, rfl, H f0 mk hC0 hW0 hP0 hO⟩, fun z => absurd (nI_le (Nat.le_refl _) (by omega)) z⟩
    | cons s R ih =>
      intro D f0 wk mk e hwk hC0 hL0 hW0 hP0 hT0 hO
      have hks : L[D.length]? = some s := by rw [e]; exact at_len
      have hlt : D.length < L.length := (List.getElem?_eq_some_iff.mp hks).1
      obtain ⟨s', hk', z1, z2, z3⟩ := hL0.2 _ s hks
      obtain ⟨a1, -, -, -, -, -, a7, -⟩ := hC0.2.2.2.2.1.2.2 _ s' hk'
      rw [z1] at a1
      rw [z3] at a7
      have hd0 := (hd.sm (hO.1 13 (by decide))) _ s hks
      have hN := hW0.wN hπ hk
      have hs4 := h4 s (List.mem_of_getElem? hks)
      have ih2 := ih (D ++ [s])
      rw [List.length_append, List.length_singleton] at ih2
      have skip : (due T s && s.2.2.2.2.2.2.2) = false → LpX10_buryWrong_54 l G d (qv sh fR K) sh fR x u f0 g (nI D.length) := by
        intro hz
        refine VX10_buryWrong_54 hs hu hU ?_
        rw [nI_add]
        refine ih2 f0 wk mk (by rw [e]; simp) ?_ hC0 hL0 hW0 hP0 hT0 hO
        have : wrL T (D ++ [s]) = wrL T D := by
          unfold wrL
          rw [List.filter_append]
          simp [hz]
        rw [this]
        exact hwk
      refine VX10_buryWrong_2 hs hu hU ?_
      rw [hC0.2.2.2.2.1.1, hL0.1, clN (by omega), hC0.t8, hT0, a1, a7, hd0]
      refine ⟨fun z => absurd z (nI_ge hlt (by omega)), fun _ => ⟨inbN (by omega) (by decide), fun c1 => skip ?_, fun c1 => ⟨inbN (by omega) (by decide), fun c2 => skip ?_, fun c2 => ⟨inbN (by omega) (by decide), ?_⟩⟩⟩⟩
      · rw [Bool.not_eq_true] at c1
        rw [c1, Bool.false_and]
      · rw [bI_0.mp c2, Bool.and_false]
      · have hz : (due T s && s.2.2.2.2.2.2.2) = true := by rw [c1, bI_ne0 c2]; rfl
        have hr : wrL T (D ++ [s]) = wrL T D ++ [s.1] := by
          unfold wrL
          rw [List.filter_append]
          simp [hz]
        have h1000 := hN.1 0 (by decide)
        refine D_bury hs hu hU hC0 (fun y hy => (hN.2.2.1 y hy).1) hs4 ((hW0.qN (by omega)) s.1).2.1 h1000 ?_ (fun f1 q1 q2 => ?_)
        · have := hP0.2.2
          have := fly_all (w := wk) (p := s.1)
          omega
        · refine VX10_buryWrong_54 hs hu hU ?_
          rw [nI_add]
          refine ih2 f1 (dieS wk s.1) (dieM wk s.1 mk) (by rw [e]; simp) ?_ q1 hL0.die (hW0.die (by omega)) (hP0.die hW0) (by rw [dieS_1]; exact hT0) (hO.tr q2)
          rw [hr, List.foldl_append, ← hwk]
          rfl
  refine VX10_buryWrong hs hu hU ?_
  exact loop L [] f w m rfl rfl hC hL hW hP hT Oc.rf
theorem cntF_upd (T p : Nat) (L : List Sg) : cntF (L.map (updS T)) p = cntF L p := by
  unfold cntF
  rw [List.countP_map]
  congr 1
  funext s
  obtain ⟨e1, -, -, -, -, e6⟩ := updS_f T s
  simp only [Function.comp]
  rw [e1, e6]
theorem D_receive {K : FI → FL → Prop} {k T : Nat} {A : List An} (hs : StW sh fR x) (hu : fR x 7 = some u) (hU : StPl sh fR u) (hux : u + 17 ≤ x) (hC : CW f x π win dl T w m A) (hc : CP f u π) (hπ : πOK π) (hwin : win ≤ 99) (hdl : ∀ p, p < π.1 6 → 1 ≤ dl p ∧ dl p ≤ 9) (hT : w.1 0 = T) (hW : WI π k T (fun _ => T) T w) (hk : k ≤ 499000) (hA1 : ∀ a ∈ w.2.2.2.2.1, T + 1 ≤ a.2.2.2.2.1) (hP : PI π w m) (hAl : A.length + (rsL T w.2.2.1).length ≤ 499) (H : ∀ (f' : FI) (m' : List (Nat × Nat)), CW f' x π win dl (T + 1) ((wrL T w.2.2.1).foldl dieS (midS π win dl w)) m' (A ++ nwS π win dl w) → WI π k (T + 1) (fun _ => T) (T + 1) ((wrL T w.2.2.1).foldl dieS (midS π win dl w)) → PI π ((wrL T w.2.2.1).foldl dieS (midS π win dl w)) m' → FW [1, 2, 3, 5, 6, 7, 8, 9, 11] x u f f' → K f' g) : Cl l G (d + 4) 0 0 mX10_receive [.ref x] (sh, f, g, fR) (qv sh fR K) := by
  have h4 := hπ.2.2.2.2.2.1
  have h200 := hπ.1.2
  have hlg := hC.2.2.2.2.1.2.1
  have hN := hW.wN hπ hk
  have hT1 : T ≤ 1000 := by rw [← hT]; exact hN.1 0 (by decide)
  have hs4 : ∀ s ∈ w.2.2.1, s.1 < 4 := fun s hs => (hN.2.2.1 s hs).1
  obtain ⟨b1, b2, b3, b4, b5⟩ := arrS_o (win := win) w
  generalize hLd : w.2.2.1 = L at *
  have dueEq : ∀ (f0 : FI) (s : Sg) (j : Nat), s ∈ L → arC T s.2.2.2.2.2.1 (f0 (x + 11) j) → (f0 (x + 11) j = nI T ↔ due T s = true) := by
    intro f0 s j hm ha
    unfold due
    rw [beq_iff_eq]
    cases hz : s.2.2.2.2.2.1 with
    | none =>
      rw [hz] at ha
      replace ha : (f0 (x + 11) j).toInt < (T : Int) := ha
      constructor
      · intro e
        rw [e, nI_toInt (by omega)] at ha
        omega
      · intro e; cases e
    | some a =>
      rw [hz] at ha
      rw [show f0 (x + 11) j = nI a from ha, nI_eq (by have := (hN.2.2.1 s (by rw [hLd]; exact hm)).2.2.2.2.2 a hz; omega) (by omega)]
      exact ⟨fun e => by rw [e], fun e => Option.some.inj e⟩
  have rest : ∀ (f0 : FI), CW f0 x π win dl T ((L.filter (due T)).foldl (arr1 win) w) m A → Oc [1, 8] x f f0 → Cl l G (d + 3) 0 0 mX7_missing [.ref (x + 2)] (sh, f0, g, fR) (qi sh fR fun x4 f2 g3 => Cl l G (d + 3) 0 0 mX10_amountToRead [.ref x, .int x4] (sh, f2, g3, fR) (qi sh fR fun x7 f5 g6 => ((nI (rsL T L).length ≤ 0 → ((x7 ≤ 0 → ((nI (wrL T L).length ≤ 0 → qv sh fR K none (sh, (up2 f5 (x + 2) 5 ((f5 (x + 2) 5) + x7)), g6, fR)) ∧ (¬ nI (wrL T L).length ≤ 0 → Cl l G (d + 3) 0 0 mX10_buryWrong [.ref x] (sh, (up2 f5 (x + 2) 5 ((f5 (x + 2) 5) + x7)), g6, fR) (qv sh fR fun f11 g12 => qv sh fR K none (sh, f11, g12, fR))))) ∧ (¬ x7 ≤ 0 → Cl l G (d + 3) 0 0 mX10_answerOnFirst [.ref x, .int x4] (sh, (up2 f5 (x + 2) 5 ((f5 (x + 2) 5) + x7)), g6, fR) (qv sh fR fun f13 g14 => ((nI (wrL T L).length ≤ 0 → qv sh fR K none (sh, f13, g14, fR)) ∧ (¬ nI (wrL T L).length ≤ 0 → Cl l G (d + 3) 0 0 mX10_buryWrong [.ref x] (sh, f13, g14, fR) (qv sh fR fun f16 g17 => qv sh fR K none (sh, f16, g17, fR)))))))) ∧ (¬ nI (rsL T L).length ≤ 0 → Cl l G (d + 3) 0 0 mX10_answerRight [.ref x, .int x4] (sh, (up2 f5 (x + 2) 5 ((f5 (x + 2) 5) + x7)), g6, fR) (qv sh fR fun f18 g19 => ((nI (wrL T L).length ≤ 0 → qv sh fR K none (sh, f18, g19, fR)) ∧ (¬ nI (wrL T L).length ≤ 0 → Cl l G (d + 3) 0 0 mX10_buryWrong [.ref x] (sh, f18, g19, fR) (qv sh fR fun f21 g22 => qv sh fR K none (sh, f21, g22, fR))))))))) := by
    intro f0 hE hO
    obtain ⟨-, -, hEs, -⟩ := folda_o (win := win) (L.filter (due T)) w
    rw [hLd] at hEs
    have hgE := hE.2.2.2.2.1
    rw [hEs] at hgE
    have hdC : dueC f0 x T L := fun j s hj => dueEq f0 s j (List.mem_of_getElem? hj) (hgE.2.2 j s hj).2.2.2.2.2.1
    have earr : arrS win w = wsg ((L.filter (due T)).foldl (arr1 win) w) (L.map (updS T)) := by
      unfold arrS
      rw [hT, hLd]
      rfl
    have hC2 : CW f0 x π win dl (T + 1) (arrS win w) m A := by
      rw [earr]
      obtain ⟨h1, h2, h3, h4, h5, h6, h7, h8, h9, h10⟩ := hE
      rw [hEs] at h3
      refine ⟨h1, h2, fun p hp => ?_, h4, ⟨?_, ?_, fun j z hz => ?_⟩, h6, h7, h8, h9, h10⟩
      · show _ = nI (cntF (L.map (updS T)) p)
        rw [cntF_upd]
        exact h3 p hp
      · show _ = nI (L.map (updS T)).length
        rw [List.length_map]
        exact hgE.1
      · show (L.map (updS T)).length ≤ 500
        rw [List.length_map]
        exact hgE.2.1
      · replace hz : (L.map (updS T))[j]? = some z := hz
        rw [List.getElem?_map] at hz
        cases hj : L[j]? with
        | none => rw [hj] at hz; cases hz
        | some s =>
          rw [hj] at hz
          cases hz
          obtain ⟨a1, a2, a3, a4, a5, a6, a7, a8⟩ := hgE.2.2 j s hj
          obtain ⟨u1, u2, u3, u4, u5, u6⟩ := updS_f T s
          rw [show sC1 f0 x (T + 1) j (updS T s) = sC1 f0 x (T + 1) j (updS T s) from rfl]
          refine ⟨by rw [u1]; exact a1, by rw [u2]; exact a2, by rw [u3]; exact a3, by rw [u4]; exact a4, by rw [u5]; exact a5, ?_, by rw [u6]; exact a7, by rw [u6]; exact a8⟩
          unfold updS
          split
          · rename_i hdue
            have := (dueEq f0 s j (List.mem_of_getElem? hj) a6).mpr hdue
            show (f0 (x + 11) j).toInt < (T : Int) + 1
            rw [this, nI_toInt (by omega)]
            omega
          · cases hz : s.2.2.2.2.2.1 with
            | none =>
              rw [hz] at a6
              replace a6 : (f0 (x + 11) j).toInt < (T : Int) := a6
              show (f0 (x + 11) j).toInt < (T : Int) + 1
              omega
            | some a =>
              rw [hz] at a6
              exact a6
    have hr4 : (arrS win w).1 4 ≤ π.1 1 := by rw [b1 4 (by decide)]; exact hW.1.2.2.2.2
    have hr0 : (arrS win w).1 0 = T := by rw [b1 0 (by decide)]; exact hT
    have hq2 : qN (arrS win w) := by
      have := hW.qN (show k ≤ 500000 by omega)
      unfold qN
      rw [b2]
      exact this
    have hc2 := hc.oc hux hO
    refine D_missing (r4 := (arrS win w).1 4) (len := π.1 1) hs hC2.2.2.2.2.2.2.2.1 (hC2.1 4 (by unfold nset; omega)) hC2.2.2.2.2.2.2.2.2.2.1 h200 (by omega) ?_
    refine D_amount hs hu hU hux hC2 hc2 (by omega) hr4 hπ (fun f1 q1 => ?_)
    have hm := manyS_le (π := π) (w := arrS win w)
    have hll := lack_le (π := π) (w := arrS win w) hr4
    have hlge := lack_ge (π := π) (w := arrS win w)
    have hC3 : CW f1 x π win dl (T + 1) (arrS win w) m A := hC2.sm (q1.1.mono (by decide))
    have r5 : f1 (x + 2) 5 = nI ((arrS win w).1 4) := hC3.1 4 (by unfold nset; omega)
    rw [r5, nI_add]
    have hC4 := hC3.setn (i := 4) (v := (arrS win w).1 4 + manyS π (arrS win w)) (by unfold nset; omega)
    replace hC4 : CW (up2 f1 (x + 2) 5 (nI ((arrS win w).1 4 + manyS π (arrS win w)))) x π win dl (T + 1) (wsc (arrS win w) 4 ((arrS win w).1 4 + manyS π (arrS win w))) m A := hC4
    have o4 : FW [1, 2, 3, 5, 6, 7, 8, 9, 11] x u f (up2 f1 (x + 2) 5 (nI ((arrS win w).1 4 + manyS π (arrS win w)))) := ((hO.mono (by decide)).fw.tr (q1.mono (by decide))).up (by decide) (by decide)
    have hd4 : dueC (up2 f1 (x + 2) 5 (nI ((arrS win w).1 4 + manyS π (arrS win w)))) x T L := (hdC.sm (q1.1 13 (by decide))).sm (Sm.rf.up (by decide))
    have hc4 : CP (up2 f1 (x + 2) 5 (nI ((arrS win w).1 4 + manyS π (arrS win w)))) u π := hc.fr hux o4.2
    generalize up2 f1 (x + 2) 5 (nI ((arrS win w).1 4 + manyS π (arrS win w))) = f4 at hC4 o4 hd4 hc4
    have hWm : WI π k (T + 1) (fun _ => T) (T + 1) (midS π win dl w) := by
      have := WI.mid (win := win) (dl := dl) (w := w) (by rw [hT]; exact hW) (by rw [hT]; exact hA1) (by omega) hπ hdl hwin
      rw [hT] at this
      exact this
    have hPm := hP.mid (win := win) (dl := dl)
    have hsame : sameR L (midS π win dl w).2.2.1 := by
      rw [mid_nw]
      show sameR L (arrS win w).2.2.1
      rw [b3, hT]
      exact sameR.upd T L
    have hsame4 : sameR L (wsc (arrS win w) 4 ((arrS win w).1 4 + manyS π (arrS win w))).2.2.1 := by
      show sameR L (arrS win w).2.2.1
      rw [b3, hT]
      exact sameR.upd T L
    have hmT : (midS π win dl w).1 0 = T := by
      rw [mid_nw]
      exact hr0
    have fin : ∀ f7 : FI, CW f7 x π win dl (T + 1) (wsc (arrS win w) 4 ((arrS win w).1 4 + manyS π (arrS win w))) m (A ++ nwS π win dl w) → Oc [7] x f4 f7 → ((nI (wrL T L).length ≤ 0 → qv sh fR K none (sh, f7, g, fR)) ∧ (¬ nI (wrL T L).length ≤ 0 → Cl l G (d + 3) 0 0 mX10_buryWrong [.ref x] (sh, f7, g, fR) (qv sh fR fun f16 g17 => qv sh fR K none (sh, f16, g17, fR)))) := by
      intro f7 hC7 o7
      have hC8 : CW f7 x π win dl (T + 1) (midS π win dl w) m (A ++ nwS π win dl w) := by
        rw [mid_nw]
        exact hC7
      have hwl : (wrL T L).length ≤ 500 := by
        unfold wrL
        rw [List.length_map]
        have := List.length_filter_le (fun s => due T s && s.2.2.2.2.2.2.2) L
        omega
      have oF := o4.tr ((o7.mono (L' := [1, 2, 3, 5, 6, 7, 8, 9, 11]) (by decide)).fw)
      refine ⟨fun c => ?_, fun c => ?_⟩
      · have e : wrL T L = [] := by
          cases hz : wrL T L with
          | nil => rfl
          | cons a as =>
            rw [hz] at c hwl
            exact absurd c (nI_nle (by simp) (by omega))
        rw [e] at H
        exact ⟨_, _, rfl, rfl, H f7 m hC8 hWm hPm oF⟩
      · refine D_buryWrong (T := T) hs hu hU hC8 hπ hmT hsame hs4 (hd4.sm (o7.1 13 (by decide))) hWm hk hPm (fun f9 m9 q3 q4 q5 q6 => ⟨_, _, rfl, rfl, H f9 m9 q3 q4 q5 (oF.tr ((q6.mono (by decide)).fw))⟩)
    have hrl : (rsL T L).length ≤ 500 := by
      unfold rsL
      have := List.length_filter_le (fun s => due T s && !s.2.2.2.2.2.2.2) L
      omega
    refine ⟨fun c => ?_, fun c => ?_⟩
    · have e : rsL T L = [] := by
        cases hz : rsL T L with
        | nil => rfl
        | cons a as =>
          rw [hz] at c hrl
          exact absurd c (nI_nle (by simp) (by omega))
      refine ⟨fun c2 => ?_, fun c2 => ?_⟩
      · have z : manyS π (arrS win w) = 0 := by
          refine Nat.eq_zero_of_not_pos (fun y => ?_)
          exact nI_nle y (by omega) c2
        have hnw : nwS π win dl w = [] := by
          unfold nwS nnS
          rw [hT, hLd, e, z]
          rfl
        have := fin f4 (by rw [hnw, List.append_nil]; exact hC4) Oc.rf
        exact this
      · have z : 0 < manyS π (arrS win w) := by
          refine Nat.pos_of_ne_zero (fun y => c2 ?_)
          rw [y]
          exact Int32.le_refl _
        rw [e] at hAl
        refine D_answerOnFirst (lk := lack π (arrS win w)) hs hu hU hC4 hc4 hq2 hπ (by rw [List.length_nil] at hAl; omega) (fun f7 q3 q4 => fin f7 ?_ q4)
        have hnw : nwS π win dl w = (match openS π (wsc (arrS win w) 4 ((arrS win w).1 4 + manyS π (arrS win w))) with
          | some p => [(p, none, lack π (arrS win w), (wsc (arrS win w) 4 ((arrS win w).1 4 + manyS π (arrS win w))).1 4 + win, (wsc (arrS win w) 4 ((arrS win w).1 4 + manyS π (arrS win w))).1 0 + dl p, (wsc (arrS win w) 4 ((arrS win w).1 4 + manyS π (arrS win w))).1 0)]
          | none => []) := by
          unfold nwS nnS
          rw [hT, hLd, e, decide_eq_true z, lack_many]
          rfl
        rw [hnw]
        exact q3
    · have hne : (rsL T L).isEmpty = false := by
        cases hz : rsL T L with
        | nil =>
          rw [hz] at c
          exact absurd (by decide) c
        | cons a as => rfl
      refine D_answerRight (T := T) (L := L) hs hu hU hC4 hr0 hsame4 (fun s hs => ⟨hs4 s hs, (hW.2.2.1 s (by rw [hLd]; exact hs)).1⟩) hd4 hAl (fun f7 q3 q4 => fin f7 ?_ q4)
      have hnw : nwS π win dl w = (rsL T L).map (ansS (lack π (arrS win w)) ((wsc (arrS win w) 4 ((arrS win w).1 4 + manyS π (arrS win w))).1 4 + win) T dl) := by
        unfold nwS nnS
        rw [hT, hLd, hne]
        simp only [Bool.false_and, Bool.false_eq_true, if_false, List.append_nil]
        rfl
      rw [hnw]
      exact q3
  have loop : ∀ (R D : List Sg) (f0 : FI), L = D ++ R → CW f0 x π win dl T ((D.filter (due T)).foldl (arr1 win) w) m A → Oc [1, 8] x f f0 → LpX10_receive_6 l G d (qv sh fR K) sh fR x u f0 g (nI (rsL T D).length) (nI (wrL T D).length) (nI D.length) := by
    intro R
    induction R with
    | nil =>
      intro D f0 e hC0 hO
      rw [List.append_nil] at e
      subst e
      refine VX10_receive_6 hs hu hU ?_
      obtain ⟨-, -, hEs, -⟩ := folda_o (win := win) (L.filter (due T)) w
      rw [hLd] at hEs
      have n8 := hC0.2.2.2.2.1.1
      rw [hEs] at n8
      rw [n8]
      exact ⟨fun _ => rest f0 hC0 hO, fun z => absurd (nI_le (Nat.le_refl _) (by omega)) z⟩
    | cons s R ih =>
      intro D f0 e hC0 hO
      have hks : L[D.length]? = some s := by rw [e]; exact at_len
      have hlt : D.length < L.length := (List.getElem?_eq_some_iff.mp hks).1
      have hmem := List.mem_of_getElem? hks
      obtain ⟨e1, -, hEs, -⟩ := folda_o (win := win) (D.filter (due T)) w
      rw [hLd] at hEs
      have hg := hC0.2.2.2.2.1
      rw [hEs] at hg
      obtain ⟨a1, a2, a3, a4, a5, a6, a7, a8⟩ := hg.2.2 _ s hks
      have hd0 := dueEq f0 s D.length hmem a6
      have hsC := (hW.2.2.1 s (by rw [hLd]; exact hmem)).2.2.2.1
      have ih2 := ih (D ++ [s])
      rw [List.length_append, List.length_singleton] at ih2
      refine VX10_receive_6 hs hu hU ?_
      rw [hg.1, clN (by omega), hC0.t8, e1 0 (by decide), hT, a3, a4, a7, hd0]
      refine ⟨fun z => absurd z (nI_ge hlt (by omega)), fun _ => ⟨inbN (by omega) (by decide), fun c1 => ?_, fun c1 => ⟨inbN (by omega) (by decide), inbN (by omega) (by decide), inbN (by omega) (by decide), ?_⟩⟩⟩
      · rw [Bool.not_eq_true] at c1
        have h1 : rsL T (D ++ [s]) = rsL T D := by
          unfold rsL
          rw [List.filter_append]
          simp [c1]
        have h2 : wrL T (D ++ [s]) = wrL T D := by
          unfold wrL
          rw [List.filter_append]
          simp [c1]
        have h3 : (D ++ [s]).filter (due T) = D.filter (due T) := by
          rw [List.filter_append]
          simp [c1]
        rw [h1, h2, h3] at ih2
        refine VX10_receive_107 hs hu hU ?_
        rw [nI_add]
        exact ih2 f0 (by rw [e]; simp) hC0 hO
      · have h3 : ((D ++ [s]).filter (due T)).foldl (arr1 win) w = arr1 win ((D.filter (due T)).foldl (arr1 win) w) s := by
          rw [List.filter_append, List.foldl_append]
          simp [c1]
        rw [h3] at ih2
        refine D_arrive hs hC0 hπ hwin (by rw [e1 4 (by decide)]; have := hW.1.2.2.2.2; omega) hsC (fun f1 q1 q2 => ?_)
        have a7' : f1 (x + 12) D.length = bI s.2.2.2.2.2.2.2 := by
          rw [q2.1 13 (by decide) 12 D.length (by decide) rfl]
          exact a7
        rw [a7']
        refine ⟨inbN (by omega) (by decide), fun c2 => ?_, fun c2 => ?_⟩
        · intro w32 e32
          have z := bI_0.mp c2
          have h1 : rsL T (D ++ [s]) = rsL T D ++ [s] := by
            unfold rsL
            rw [List.filter_append]
            simp [c1, z]
          have h2 : wrL T (D ++ [s]) = wrL T D := by
            unfold wrL
            rw [List.filter_append]
            simp [c1, z]
          rw [h1, h2, List.length_append, List.length_singleton] at ih2
          refine ⟨inbN (by omega) (by decide), fun _ => ?_, fun c3 => absurd c2 c3⟩
          intro w36 e36
          refine VX10_receive_107 hs hu hU ?_
          rw [e32, e36, nI_add, nI_add, nI_add]
          exact ih2 f1 (by rw [e]; simp) q1 (hO.tr q2)
        · intro w40 e40
          have z := bI_ne0 c2
          have h1 : rsL T (D ++ [s]) = rsL T D := by
            unfold rsL
            rw [List.filter_append]
            simp [c1, z]
          have h2 : wrL T (D ++ [s]) = wrL T D ++ [s.1] := by
            unfold wrL
            rw [List.filter_append]
            simp [c1, z]
          rw [h1, h2, List.length_append, List.length_singleton] at ih2
          refine ⟨inbN (by omega) (by decide), fun c3 => absurd c3 c2, fun _ => ?_⟩
          intro w46 e46
          refine VX10_receive_107 hs hu hU ?_
          rw [e40, e46, nI_add, nI_add, nI_add]
          exact ih2 f1 (by rw [e]; simp) q1 (hO.tr q2)
  refine VX10_receive hs hu hU ?_
  exact loop L [] f rfl hC Oc.rf
end RV2
