/-! the class' tick as a whole -/
theorem dieS_an {w : Wd} {p : Nat} : (dieS w p).2.2.2.2.1 = w.2.2.2.2.1 := by
  unfold dieS
  split <;> rfl
theorem dies_an : ∀ (wr : List Nat) (w : Wd), (wr.foldl dieS w).2.2.2.2.1 = w.2.2.2.2.1
  | [], _ => rfl
  | p :: wr, w => by rw [List.foldl_cons, dies_an wr, dieS_an]
theorem dies_offs : ∀ (wr : List Nat) (w : Wd), Offs w.2.2.1 (wr.foldl dieS w).2.2.1
  | [], _ => Offs.rf _
  | p :: wr, w => by
    rw [List.foldl_cons]
    exact dieS_offs.tr (dies_offs wr _)
theorem dies_0 : ∀ (wr : List Nat) (w : Wd), (wr.foldl dieS w).1 = w.1
  | [], _ => rfl
  | p :: wr, w => by rw [List.foldl_cons, dies_0 wr, dieS_1]
theorem failS_an {π : Pl} {dl : Nat → Nat} {w : Wd} {p : Nat} : (failS π dl w p).2.2.2.2.1 = w.2.2.2.2.1 := by
  cases hidx : w.2.2.1.findIdx? (lateS π dl w p) with
  | none => rw [(failS_no (m := []) hidx).1]
  | some j =>
    cases hfr : freS w p with
    | false =>
      unfold failS
      rw [hfr]
      rfl
    | true =>
      obtain ⟨hjlt, -, -⟩ := List.findIdx?_eq_some_iff_getElem.mp hidx
      have hj : w.2.2.1[j]? = some w.2.2.1[j] := List.getElem?_eq_getElem hjlt
      generalize w.2.2.1[j] = s at hj
      rw [(failS_some (m := []) hfr hidx hj).1]
      split
      · rw [dieS_an]
        rfl
      · rfl
theorem fails_an {π : Pl} {dl : Nat → Nat} {w : Wd} : ∀ n, (forN n (fun p w => failS π dl w p) w).2.2.2.2.1 = w.2.2.2.2.1
  | 0 => rfl
  | n + 1 => by
    show (failS π dl (forN n (fun p w => failS π dl w p) w) n).2.2.2.2.1 = _
    rw [failS_an, fails_an n]
theorem sendsS_an {π : Pl} {dl : Nat → Nat} {dr : Bool} : ∀ (n : Nat) (T : Tk), (sendsS π dl dr n T).1.1.2.2.2.2.1 = T.1.2.2.2.2.1
  | 0, _ => rfl
  | n + 1, T => by
    rw [sendsS_eq]
    split
    · rfl
    · split
      · rfl
      · split
        · rw [sendsS_an n]; rfl
        · rw [sendsS_an n]; rfl
theorem penS_an {π : Pl} {dl : Nat → Nat} {dr : Bool} {T T' : Tk} (h : penS π dl dr T = some T') : T'.1.2.2.2.2.1 = T.1.2.2.2.2.1 := by
  unfold penS at h
  split at h
  · split at h
    · cases h
    · split at h
      · cases h
      · split at h
        · cases h
        · cases h
          rfl
  · cases h
theorem send_fin {π : Pl} {dl : Nat → Nat} {dr : Bool} {T0 n' : Nat} {r : Tk × Bool} {T' : Tk} {m' : List (Nat × Nat)} (hπ : πOK π) (hdl : ∀ p, p < π.1 6 → 1 ≤ dl p ∧ dl p ≤ 9) (q1 : SJ π T0 n' r.1 m') (q2 : r.2 = true → m' = []) (q3 : T' = (if r.2 then (match penS π dl dr r.1 with
    | some T => T
    | none => r.1) else r.1)) : WI π (400 * T0 + 400) (T0 + 1) (fun _ => T0 + 1) (T0 + 1) T'.1 ∧ PI π T'.1 m' ∧ T'.1.1 0 = T0 ∧ T'.1.2.2.2.2.1 = r.1.1.2.2.2.2.1 := by
  obtain ⟨n2, rfl⟩ : ∃ n2, n' = n2 + 1 := by
    cases n' with
    | zero => exact absurd q1 SJ.z
    | succ n2 => exact ⟨n2, rfl⟩
  have base : WI π (400 * T0 + 400) (T0 + 1) (fun _ => T0 + 1) (T0 + 1) r.1.1 ∧ PI π r.1.1 m' ∧ r.1.1.1 0 = T0 ∧ r.1.1.2.2.2.2.1 = r.1.1.2.2.2.2.1 := by
    obtain ⟨a1, a2, a3, a4, a5, a6⟩ := q1
    exact ⟨a1.le (by omega) (fun _ => Nat.le_refl _) (Nat.le_refl _), a2, a4, rfl⟩
  cases hr : r.2 with
  | false =>
    rw [hr] at q3
    rw [show T' = r.1 from q3]
    exact base
  | true =>
    rw [hr] at q3
    have hm0 := q2 hr
    subst hm0
    cases hpen : penS π dl dr r.1 with
    | none =>
      rw [hpen] at q3
      rw [show T' = r.1 from q3]
      exact base
    | some T2 =>
      rw [hpen] at q3
      rw [show T' = T2 from q3]
      obtain ⟨a1, a2, a3⟩ := pen_ok hπ hdl q1 hpen
      exact ⟨a1, a2, a3, penS_an hpen⟩
theorem jn1_o {π : Pl} {w : Wd} {p : Nat} : (jn1 π p w).1 0 = w.1 0 ∧ (jn1 π p w).2.2 = w.2.2 ∧ (jn1 π p w).1 2 = w.1 2 := by
  unfold jn1
  split
  · split
    · exact ⟨joinS_o.1, joinS_o.2.2, joinS_o.2.1⟩
    · exact ⟨rfl, rfl, rfl⟩
  · exact ⟨rfl, rfl, rfl⟩
theorem joins_o {π : Pl} {w : Wd} : (joinsS π w).1 0 = w.1 0 ∧ (joinsS π w).2.2 = w.2.2 ∧ (joinsS π w).1 2 = w.1 2 := by
  rw [joinsS_eq]
  have : ∀ n, (forN n (jn1 π) w).1 0 = w.1 0 ∧ (forN n (jn1 π) w).2.2 = w.2.2 ∧ (forN n (jn1 π) w).1 2 = w.1 2 := by
    intro n
    induction n with
    | zero => exact ⟨rfl, rfl, rfl⟩
    | succ n ih =>
      obtain ⟨a, b, c⟩ := jn1_o (π := π) (w := forN n (jn1 π) w) (p := n)
      exact ⟨a.trans ih.1, b.trans ih.2.1, c.trans ih.2.2⟩
  exact this (π.1 6)
theorem PI.joins {π : Pl} {w : Wd} {m : List (Nat × Nat)} (hP : PI π w m) : PI π (joinsS π w) m := by
  obtain ⟨-, e2, e3⟩ := joins_o (π := π) (w := w)
  unfold PI ndS at hP ⊢
  rw [e2, e3]
  exact hP
section ST
variable {l : Launch} {G : Gx} {d : Nat} {sh : Sh} {fR : FRt} {x u wd : Nat} {f : FI} {g : FL} {π : Pl} {win : Nat} {dl : Nat → Nat} {w : Wd} {m : List (Nat × Nat)}
theorem left_eq {T : Nat} {A nw : List An} (hA : ∀ a ∈ A, T ≤ a.2.2.2.2.1) (hn : ∀ a ∈ nw, T + 1 ≤ a.2.2.2.2.1) : (A ++ nw).filter (leftA T) = A.filter (fun a => !dueA T a) ++ nw := by
  rw [List.filter_append]
  congr 1
  · apply List.filter_congr
    intro a ha
    have := hA a ha
    unfold leftA dueA
    by_cases e : a.2.2.2.2.1 = T
    · rw [e]; simp
    · rw [show (a.2.2.2.2.1 == T) = false by simp [e], decide_eq_true (by omega)]
      rfl
  · rw [List.filter_eq_self]
    intro a ha
    have := hn a ha
    unfold leftA
    exact decide_eq_true (by omega)
theorem nw_late {w1 : Wd} {T : Nat} (hT : w1.1 0 = T) (hdl : ∀ p, p < π.1 6 → 1 ≤ dl p ∧ dl p ≤ 9) (h6 : ∀ s ∈ w1.2.2.1, s.1 < π.1 6) : ∀ a ∈ nwS π win dl w1, T + 1 ≤ a.2.2.2.2.1 ∧ a.2.2.2.2.1 ≤ T + 9 := by
  intro a ha
  unfold nwS at ha
  rcases List.mem_append.mp ha with ha | ha
  · obtain ⟨s, hs, e⟩ := List.mem_map.mp ha
    have := hdl s.1 (h6 s (List.mem_filter.mp hs).1)
    rw [← e]
    show T + 1 ≤ w1.1 0 + dl s.1 ∧ w1.1 0 + dl s.1 ≤ T + 9
    omega
  · unfold nnS at ha
    split at ha
    · split at ha
      · rename_i p hp
        have := hdl p (open_lt hp)
        rw [List.mem_singleton.mp ha]
        show T + 1 ≤ (arrS win w1).1 0 + dl p ∧ (arrS win w1).1 0 + dl p ≤ T + 9
        rw [(arrS_o (win := win) w1).1 0 (by decide)]
        omega
      · cases ha
    · cases ha
theorem hear_an : (hearS π w).2.2.2.2.1 = w.2.2.2.2.1.filter (fun a => !dueA (w.1 0) a) := by
  show (((w.2.2.2.2.1.filter (fun a => a.2.2.2.2.1 == w.1 0)).foldl (hear1 π) (wan w (w.2.2.2.2.1.filter (fun a => !(a.2.2.2.2.1 == w.1 0)))))).2.2.2.2.1 = _
  rw [foldl_hear1_an]
  rfl
theorem D_stepN {K : FI → FL → Prop} {T0 s : Nat} (hs : StW sh fR x) (hu : fR x 7 = some u) (hU : StPl sh fR u) (hux : u + 17 ≤ x) (hwd : wd < u) (hC : CW f x π win dl T0 w m w.2.2.2.2.1) (hc : CP f u π) (hsd : false = true → f wd 0 = nI s) (hs31 : s < 2147483648) (hπ : πOK π) (hwin : win ≤ 99) (hdl : ∀ p, p < π.1 6 → 1 ≤ dl p ∧ dl p ≤ 9) (hd9 : ∀ p, dl p ≤ 9999) (hT : w.1 0 = T0) (hT0 : T0 < 1000) (hW : WI π (400 * T0) T0 (fun _ => T0) T0 w) (hP : PI π w m) (hS : WS w.2.2.1)
    (H : ∀ (f' : FI) (m' : List (Nat × Nat)), CW f' x π win dl ((T0 + 1 : Nat) : Int) (tickS π win dl false w s).1 m' (tickS π win dl false w s).1.2.2.2.2.1 → TkC f' x wd false (tickS π win dl false w s) → WI π (400 * (T0 + 1)) (T0 + 1) (fun _ => T0 + 1) (T0 + 1) (tickS π win dl false w s).1 → PI π (tickS π win dl false w s).1 m' → WS (tickS π win dl false w s).1.2.2.1 → (tickS π win dl false w s).1.1 0 = T0 + 1 → FV [1, 2, 3, 5, 6, 7, 8, 9, 11, 12, 13] x u wd false f f' → K f' g) : Cl l G (d + 5) 0 0 mX10_step [.ref x, .null] (sh, f, g, fR) (qv sh fR K) := by
  have h4 := hπ.2.2.2.2.2.1
  have hFz : FV [1, 2, 3, 5, 6, 7, 8, 9, 11, 12, 13] x u wd false f (up2 (up2 (up2 f x 13 (nI 0)) x 14 (nI 0)) x 15 (nI 0)) := ((FV.rf.up0 (by decide)).up0 (by decide)).up0 (by decide)
  have hCz : CW (up2 (up2 (up2 f x 13 (nI 0)) x 14 (nI 0)) x 15 (nI 0)) x π win dl T0 w m w.2.2.2.2.1 := hC.sm ((((Oc.rf (L := [11, 12])).up0 (by decide)).up0 (by decide)).up0 (by decide)).1
  have hkz : ∀ w0 : Wd, TkC (up2 (up2 (up2 f x 13 (nI 0)) x 14 (nI 0)) x 15 (nI 0)) x wd false (w0, 0, 0, false, s) := fun w0 => ⟨by rw [up2_k (by decide), up2_k (by decide), up2_eq], by rw [up2_k (by decide), up2_eq], up2_eq, fun z => by rw [up2_r (by omega), up2_r (by omega), up2_r (by omega)]; exact hsd z, hs31, Nat.zero_le _⟩
  have et : tickS π win dl false w s = lastS π dl false ((wrL ((hearS π (joinsS π w)).1 0) (hearS π (joinsS π w)).2.2.1).foldl dieS (midS π win dl (hearS π (joinsS π w)))) s := tickS_eq
  refine VX10_stepN hs hu hU ?_
  have hcz := hc.fv hux hwd hFz
  refine D_joinTold hs hu hU hux hCz hcz hW (by omega) hπ (fun f1 q1 o1 => ?_)
  obtain ⟨j0, j2, j3⟩ := joins_o (π := π) (w := w)
  have hWj : WI π (400 * T0) T0 (fun _ => T0) T0 (joinsS π w) := hW.joins
  have hPj : PI π (joinsS π w) m := hP.joins
  have hSj : WS (joinsS π w).2.2.1 := by rw [j2]; exact hS
  have ja : (joinsS π w).2.2.2.2.1 = w.2.2.2.2.1 := by rw [j2]
  have hTj : (joinsS π w).1 0 = T0 := j0.trans hT
  rw [← ja] at q1
  have hc1 := hcz.oc hux o1
  have hansj := hWj.ans hπ (fun _ => Nat.le_refl _) (Nat.le_refl _)
  have haj : ∀ a ∈ (joinsS π w).2.2.2.2.1, T0 ≤ a.2.2.2.2.1 ∧ a.2.2.2.2.1 ≤ T0 + 18 := fun a ha => by
    obtain ⟨-, -, -, -, q5, -, q7⟩ := hWj.2.2.2.2.2.1 a ha
    omega
  generalize joinsS π w = wj at *
  refine D_hear hs hu hU hux q1 hc1 hWj (by omega) hπ (fun f2 q2 o2 => ?_)
  have hc2 := hc1.oc hux o2
  obtain ⟨e1, e2, e3, e4, e5, e6, e7⟩ := hWj.hears
  have hP1 := hPj.hears hWj
  have hS1 : WS (hearS π wj).2.2.1 := hSj.offs e3
  have h01 : (hearS π wj).1 0 = T0 := (e4 0 (by decide) (by decide)).trans hTj
  have hA1 : ∀ a ∈ (hearS π wj).2.2.2.2.1, T0 + 1 ≤ a.2.2.2.2.1 := fun a ha => by
    have h1 := (e1.2.2.2.2.2.1 a ha).2.2.2.2.1.1
    have h2 := (e2 a ha).2
    omega
  have hane : (hearS π wj).2.2.2.2.1 = wj.2.2.2.2.1.filter (fun a => !dueA T0 a) := by rw [hear_an, hTj]
  have hsome := e3.some
  generalize hw1 : hearS π wj = w1 at *
  have hrsl : (rsL T0 w1.2.2.1).length ≤ w1.2.2.1.countP (fun s => s.2.2.2.2.2.1.isSome) := by
    unfold rsL
    rw [← List.countP_eq_length_filter]
    refine countP_mono (fun s _ hz => ?_)
    simp only [Bool.and_eq_true] at hz
    rw [beq_iff_eq.mp (show (s.2.2.2.2.2.1 == some T0) = true from hz.1)]
    rfl
  refine D_receive hs hu hU hux q2 hc2 hπ hwin hdl h01 e1 (by omega) hA1 hP1 (by omega) (fun f3 m3 q3 hW3 hP3 o3 => ?_)
  have hc3 := hc2.fr hux o3.2
  have hnl := nw_late (π := π) (win := win) (dl := dl) (w1 := w1) h01 hdl (fun s hs => (e1.2.2.1 s hs).1)
  have hmid := mid_nw (π := π) (win := win) (dl := dl) (w1 := w1)
  have han : (midS π win dl w1).2.2.2.2.1 = w1.2.2.2.2.1 ++ nwS π win dl w1 := by rw [hmid]; rfl
  have hS3 : WS ((wrL T0 w1.2.2.1).foldl dieS (midS π win dl w1)).2.2.1 := by
    refine WS.offs ?_ (dies_offs _ _)
    rw [mid_o.2.2.1]
    exact hS1.upd _
  have ha3 : ((wrL T0 w1.2.2.1).foldl dieS (midS π win dl w1)).2.2.2.2.1 = w1.2.2.2.2.1 ++ nwS π win dl w1 := by rw [dies_an, han]
  have h03 : ((wrL T0 w1.2.2.1).foldl dieS (midS π win dl w1)).1 0 = T0 := by rw [dies_0, mid_o.1]; exact h01
  rw [h01] at et
  generalize hw4 : (wrL T0 w1.2.2.1).foldl dieS (midS π win dl w1) = w4 at *
  rw [q3.t8, h03]
  refine D_aTidy hs (by omega) q3.2.2.2.2.2.2.1 (fun a ha => ?_) (fun f4 q4 o4 => ?_)
  · rcases List.mem_append.mp ha with ha | ha
    · have := haj a ha
      omega
    · have := hnl a ha
      omega
  have hC4 : CW f4 x π win dl (T0 + 1) w4 m3 w4.2.2.2.2.1 := by
    have := q3.repa (o4.1.mono (by decide)) q4
    rw [left_eq (fun a ha => (haj a ha).1) (fun a ha => (hnl a ha).1), ← hane, ← ha3] at this
    exact this
  have hF4 : FV [1, 2, 3, 5, 6, 7, 8, 9, 11, 12, 13] x u wd false f f4 := hFz.tr ((((((o1.mono (L' := [1, 2, 3, 5, 6, 7, 8, 9, 11]) (by decide)).tr (o2.mono (by decide))).fw (u := u)).tr o3).tr ((o4.mono (by decide)).fw)).fv.mono (by decide))
  have hk4 : ∀ w0 : Wd, TkC f4 x wd false (w0, 0, 0, false, s) := fun w0 => (hkz w0).fw hux hwd ((((o1.mono (L' := [1, 2, 3, 5, 6, 7, 8, 9, 11]) (by decide)).tr (o2.mono (by decide))).fw (u := u)).tr o3 |>.tr ((o4.mono (by decide)).fw)) (by decide)
  have hWf : WI π (400 * T0) (T0 + 1) (fun q => if q < 0 then T0 + 1 else T0) (T0 + 1) w4 := hW3.le (Nat.le_refl _) (fun q => by rw [if_neg (by omega)]; exact Nat.le_refl _) (Nat.le_refl _)
  have loop : ∀ n p (f0 : FI) (wk : Wd) (mk : List (Nat × Nat)), n + p = π.1 6 → wk = forN p (fun p w => failS π dl w p) w4 → CW f0 x π win dl (T0 + 1) wk mk w4.2.2.2.2.1 → WI π (400 * T0) (T0 + 1) (fun q => if q < p then T0 + 1 else T0) (T0 + 1) wk → PI π wk mk → WS wk.2.2.1 → wk.1 0 = T0 → (∀ w0 : Wd, TkC f0 x wd false (w0, 0, 0, false, s)) → FV [1, 2, 3, 5, 6, 7, 8, 9, 11, 12, 13] x u wd false f f0 → LpX10_stepN_40 l G d (qv sh fR K) sh fR x u f0 g (nI p) := by
    intro n
    induction n with
    | zero =>
      intro p f0 wk mk hp hwk hC0 hW0 hP0 hS0 h00 hk0 hF0
      rw [Nat.zero_add] at hp
      subst hp
      have hc0 := hc.fv hux hwd hF0
      refine VX10_stepN_40 hs hu hU ?_
      rw [hc0.1 6 (by decide), hC0.t8, h00]
      refine ⟨fun _ => ?_, fun z => absurd (nI_le (Nat.le_refl _) (by omega)) z⟩
      refine D_fStay hs (by omega) hC0 (fun y hy a ha => ?_) (fun f5 q5 o5 => ?_)
      · obtain ⟨-, -, -, -, z5, z6, -⟩ := hW0.2.2.1 y hy
        have := z6 a ha
        omega
      have hW5 : WI π (400 * T0) (T0 + 1) (fun _ => T0 + 1) (T0 + 1) (clearS wk) := hW0.clear.le (Nat.le_refl _) (fun q => by split <;> omega) (Nat.le_refl _)
      have hJ : SJ π T0 400 (clearS wk, 0, 0, false, s) mk := ⟨hW5, hP0.clear, fun y hy => (List.mem_filter.mp hy).2, h00, by omega, rfl⟩
      have hF5 : FV [1, 2, 3, 5, 6, 7, 8, 9, 11, 12, 13] x u wd false f f5 := hF0.tr (((o5.mono (by decide)).fw (u := u)).fv)
      have hc5 := hc.fv hux hwd hF5
      refine D_sendPiecesN hs hu hU hux hwd (T := (clearS wk, 0, 0, false, s)) q5 hc5 ((hk0 _).fw (u := u) hux hwd o5.fw (by decide)) hdl hd9 hπ hJ (hS0.sub List.filter_sublist) (fun f6 n6 q6 k6 j6 p6 s6 v6 => ?_)
      have hla : lastS π dl false w4 s = (let r := sendsS π dl false 400 (clearS wk, 0, 0, false, s); let T := if r.2 then (match penS π dl false r.1 with
        | some T => T
        | none => r.1) else r.1; (wsc T.1 0 (T.1.1 0 + 1), T.2)) := by
        unfold lastS
        rw [← hwk]
        rfl
      have hran : (sendsS π dl false 400 (clearS wk, 0, 0, false, s)).1.1.2.2.2.2.1 = w4.2.2.2.2.1 := by
        rw [sendsS_an]
        show wk.2.2.2.2.1 = _
        rw [hwk, fails_an]
      have hF6 : FV [1, 2, 3, 5, 6, 7, 8, 9, 11, 12, 13] x u wd false f f6 := hF5.tr (v6.mono (by decide))
      have hc6 := hc.fv hux hwd hF6
      generalize sendsS π dl false 400 (clearS wk, 0, 0, false, s) = r at *
      have fin : ∀ (f7 : FI) (T' : Tk), T' = (if r.2 then (match penS π dl false r.1 with
          | some T => T
          | none => r.1) else r.1) → CW f7 x π win dl (T0 + 1) T'.1 r.1.1.2.2.2.1 w4.2.2.2.2.1 → TkC f7 x wd false T' → WS T'.1.2.2.1 → FV [1, 2, 3, 5, 6, 7, 8, 9, 11, 12, 13] x u wd false f f7 → qv sh fR K none (sh, (up2 f7 x 8 ((f7 x 8) + (nI 1))), g, fR) := by
        intro f7 T' e7 c7 k7 s7 v7
        obtain ⟨a1, a2, a3, a4⟩ := send_fin hπ hdl j6 p6 e7
        have hfin : tickS π win dl false w s = (wsc T'.1 0 (T'.1.1 0 + 1), T'.2) := by
          rw [et, hla, e7]
        rw [c7.t8, nI_add]
        have c8 := c7.setn (i := 0) (v := T'.1.1 0 + 1) (by unfold nset; omega)
        refine ⟨_, _, rfl, rfl, H _ r.1.1.2.2.2.1 ?_ ?_ ?_ ?_ ?_ ?_ (v7.up0 (by decide))⟩
        · rw [hfin]
          show CW _ x π win dl _ (wsc T'.1 0 (T'.1.1 0 + 1)) _ T'.1.2.2.2.2.1
          rw [a4, hran]
          exact c8
        · rw [hfin]
          obtain ⟨y1, y2, y3, y4, y5, y6⟩ := k7
          exact ⟨by rw [up2_k (by decide)]; exact y1, by rw [up2_k (by decide)]; exact y2, by rw [up2_k (by decide)]; exact y3, fun z => by rw [up2_r (by omega)]; exact y4 z, y5, y6⟩
        · rw [hfin]
          exact (a1.tick (by omega)).le (by omega) (fun _ => Nat.le_refl _) (Nat.le_refl _)
        · rw [hfin]
          exact a2
        · rw [hfin]
          exact s7
        · rw [hfin]
          show T'.1.1 0 + 1 = T0 + 1
          rw [a3]
      refine ⟨fun z => fin f6 r.1 (by rw [bI_0.mp z]; rfl) q6 k6 s6 hF6, fun z => ?_⟩
      refine D_penaliseN hs hu hU hux hwd q6 hc6 k6 hd9 hπ j6 s6 (fun f7 T' e7 c7 k7 s7 v7 => fin f7 T' ?_ c7 k7 s7 (hF6.tr (v7.mono (by decide))))
      rw [bI_ne0 z]
      exact e7
    | succ n ih =>
      intro p f0 wk mk hp hwk hC0 hW0 hP0 hS0 h00 hk0 hF0
      have hc0 := hc.fv hux hwd hF0
      have ec : (fu (fun q => if q < p then T0 + 1 else T0) p (T0 + 1)) = (fun q => if q < p + 1 then T0 + 1 else T0) := by
        funext q
        unfold fu
        by_cases e : q = p
        · rw [if_pos e, if_pos (by omega)]
        · rw [if_neg e]
          dsimp only
          by_cases e2 : q < p
          · rw [if_pos e2, if_pos (by omega)]
          · rw [if_neg e2, if_neg (by omega)]
      have hW2 := hW0.fail (dl := dl) (p := p) (by rw [h00]; simp) (by rw [h00]; exact Nat.le_refl _)
      rw [h00, ec] at hW2
      have hf0 : (failS π dl wk p).1 0 = T0 := by
        rw [failS_1]
        exact h00
      have hPf : PI π (failS π dl wk p) (failM π dl wk p mk) := by
        cases hz : freS wk p with
        | true => exact hP0.fail hW0 hz
        | false =>
          have e : failS π dl wk p = wk := by
            unfold failS
            rw [hz]
            rfl
          have hno : wk.2.2.1.findIdx? (lateS π dl wk p) = none := by
            rw [List.findIdx?_eq_none_iff]
            intro y hy
            cases hl : lateS π dl wk p y with
            | false => rfl
            | true =>
              unfold lateS at hl
              rw [Bool.and_eq_true, Bool.and_eq_true, beq_iff_eq] at hl
              have := (hW0.2.2.1 y hy).2.2.2.2.2.2 hl.1.2
              rw [hl.1.1, hz] at this
              cases this
          rw [e, (failS_no (m := mk) hno).2]
          exact hP0
      refine VX10_stepN_40 hs hu hU ?_
      rw [hc0.1 6 (by decide)]
      refine ⟨fun z => absurd z (nI_ge (by omega) (by omega)), fun _ => ?_⟩
      refine D_failLate hs hu hU hux hC0 hc0 hW0 (by omega) hS0 hd9 hπ (by omega) (by omega) ?_ (fun f5 q5 o5 => ?_)
      · have := hP0.2.2
        have := fly_all (w := wk) (p := p)
        omega
      · rw [nI_add]
        exact ih (p + 1) f5 (failS π dl wk p) (failM π dl wk p mk) (by omega) (by rw [hwk]; rfl) q5 hW2 hPf (hS0.offs failS_offs) hf0 (fun w0 => (hk0 w0).fw hux hwd o5 (by decide)) (hF0.tr ((o5.mono (by decide)).fv))
  exact loop (π.1 6) 0 f4 w4 m3 rfl rfl hC4 hWf hP3 hS3 h03 hk4 hF4
theorem D_stepD {K : FI → FL → Prop} {T0 s : Nat} (hs : StW sh fR x) (hu : fR x 7 = some u) (hU : StPl sh fR u) (hux : u + 17 ≤ x) (hwd : wd < u) (hw : sh[wd]? = some (1, 1) ∧ 0 < wd) (hC : CW f x π win dl T0 w m w.2.2.2.2.1) (hc : CP f u π) (hsd : true = true → f wd 0 = nI s) (hs31 : s < 2147483648) (hπ : πOK π) (hwin : win ≤ 99) (hdl : ∀ p, p < π.1 6 → 1 ≤ dl p ∧ dl p ≤ 9) (hd9 : ∀ p, dl p ≤ 9999) (hT : w.1 0 = T0) (hT0 : T0 < 1000) (hW : WI π (400 * T0) T0 (fun _ => T0) T0 w) (hP : PI π w m) (hS : WS w.2.2.1)
    (H : ∀ (f' : FI) (m' : List (Nat × Nat)), CW f' x π win dl ((T0 + 1 : Nat) : Int) (tickS π win dl true w s).1 m' (tickS π win dl true w s).1.2.2.2.2.1 → TkC f' x wd true (tickS π win dl true w s) → WI π (400 * (T0 + 1)) (T0 + 1) (fun _ => T0 + 1) (T0 + 1) (tickS π win dl true w s).1 → PI π (tickS π win dl true w s).1 m' → WS (tickS π win dl true w s).1.2.2.1 → (tickS π win dl true w s).1.1 0 = T0 + 1 → FV [1, 2, 3, 5, 6, 7, 8, 9, 11, 12, 13] x u wd true f f' → K f' g) : Cl l G (d + 5) 0 0 mX10_step [.ref x, .ref wd] (sh, f, g, fR) (qv sh fR K) := by
  have h4 := hπ.2.2.2.2.2.1
  have hFz : FV [1, 2, 3, 5, 6, 7, 8, 9, 11, 12, 13] x u wd true f (up2 (up2 (up2 f x 13 (nI 0)) x 14 (nI 0)) x 15 (nI 0)) := ((FV.rf.up0 (by decide)).up0 (by decide)).up0 (by decide)
  have hCz : CW (up2 (up2 (up2 f x 13 (nI 0)) x 14 (nI 0)) x 15 (nI 0)) x π win dl T0 w m w.2.2.2.2.1 := hC.sm ((((Oc.rf (L := [11, 12])).up0 (by decide)).up0 (by decide)).up0 (by decide)).1
  have hkz : ∀ w0 : Wd, TkC (up2 (up2 (up2 f x 13 (nI 0)) x 14 (nI 0)) x 15 (nI 0)) x wd true (w0, 0, 0, false, s) := fun w0 => ⟨by rw [up2_k (by decide), up2_k (by decide), up2_eq], by rw [up2_k (by decide), up2_eq], up2_eq, fun z => by rw [up2_r (by omega), up2_r (by omega), up2_r (by omega)]; exact hsd z, hs31, Nat.zero_le _⟩
  have et : tickS π win dl true w s = lastS π dl true ((wrL ((hearS π (joinsS π w)).1 0) (hearS π (joinsS π w)).2.2.1).foldl dieS (midS π win dl (hearS π (joinsS π w)))) s := tickS_eq
  refine VX10_stepD hs hu hU hw ?_
  have hcz := hc.fv hux hwd hFz
  refine D_joinTold hs hu hU hux hCz hcz hW (by omega) hπ (fun f1 q1 o1 => ?_)
  obtain ⟨j0, j2, j3⟩ := joins_o (π := π) (w := w)
  have hWj : WI π (400 * T0) T0 (fun _ => T0) T0 (joinsS π w) := hW.joins
  have hPj : PI π (joinsS π w) m := hP.joins
  have hSj : WS (joinsS π w).2.2.1 := by rw [j2]; exact hS
  have ja : (joinsS π w).2.2.2.2.1 = w.2.2.2.2.1 := by rw [j2]
  have hTj : (joinsS π w).1 0 = T0 := j0.trans hT
  rw [← ja] at q1
  have hc1 := hcz.oc hux o1
  have hansj := hWj.ans hπ (fun _ => Nat.le_refl _) (Nat.le_refl _)
  have haj : ∀ a ∈ (joinsS π w).2.2.2.2.1, T0 ≤ a.2.2.2.2.1 ∧ a.2.2.2.2.1 ≤ T0 + 18 := fun a ha => by
    obtain ⟨-, -, -, -, q5, -, q7⟩ := hWj.2.2.2.2.2.1 a ha
    omega
  generalize joinsS π w = wj at *
  refine D_hear hs hu hU hux q1 hc1 hWj (by omega) hπ (fun f2 q2 o2 => ?_)
  have hc2 := hc1.oc hux o2
  obtain ⟨e1, e2, e3, e4, e5, e6, e7⟩ := hWj.hears
  have hP1 := hPj.hears hWj
  have hS1 : WS (hearS π wj).2.2.1 := hSj.offs e3
  have h01 : (hearS π wj).1 0 = T0 := (e4 0 (by decide) (by decide)).trans hTj
  have hA1 : ∀ a ∈ (hearS π wj).2.2.2.2.1, T0 + 1 ≤ a.2.2.2.2.1 := fun a ha => by
    have h1 := (e1.2.2.2.2.2.1 a ha).2.2.2.2.1.1
    have h2 := (e2 a ha).2
    omega
  have hane : (hearS π wj).2.2.2.2.1 = wj.2.2.2.2.1.filter (fun a => !dueA T0 a) := by rw [hear_an, hTj]
  have hsome := e3.some
  generalize hw1 : hearS π wj = w1 at *
  have hrsl : (rsL T0 w1.2.2.1).length ≤ w1.2.2.1.countP (fun s => s.2.2.2.2.2.1.isSome) := by
    unfold rsL
    rw [← List.countP_eq_length_filter]
    refine countP_mono (fun s _ hz => ?_)
    simp only [Bool.and_eq_true] at hz
    rw [beq_iff_eq.mp (show (s.2.2.2.2.2.1 == some T0) = true from hz.1)]
    rfl
  refine D_receive hs hu hU hux q2 hc2 hπ hwin hdl h01 e1 (by omega) hA1 hP1 (by omega) (fun f3 m3 q3 hW3 hP3 o3 => ?_)
  have hc3 := hc2.fr hux o3.2
  have hnl := nw_late (π := π) (win := win) (dl := dl) (w1 := w1) h01 hdl (fun s hs => (e1.2.2.1 s hs).1)
  have hmid := mid_nw (π := π) (win := win) (dl := dl) (w1 := w1)
  have han : (midS π win dl w1).2.2.2.2.1 = w1.2.2.2.2.1 ++ nwS π win dl w1 := by rw [hmid]; rfl
  have hS3 : WS ((wrL T0 w1.2.2.1).foldl dieS (midS π win dl w1)).2.2.1 := by
    refine WS.offs ?_ (dies_offs _ _)
    rw [mid_o.2.2.1]
    exact hS1.upd _
  have ha3 : ((wrL T0 w1.2.2.1).foldl dieS (midS π win dl w1)).2.2.2.2.1 = w1.2.2.2.2.1 ++ nwS π win dl w1 := by rw [dies_an, han]
  have h03 : ((wrL T0 w1.2.2.1).foldl dieS (midS π win dl w1)).1 0 = T0 := by rw [dies_0, mid_o.1]; exact h01
  rw [h01] at et
  generalize hw4 : (wrL T0 w1.2.2.1).foldl dieS (midS π win dl w1) = w4 at *
  rw [q3.t8, h03]
  refine D_aTidy hs (by omega) q3.2.2.2.2.2.2.1 (fun a ha => ?_) (fun f4 q4 o4 => ?_)
  · rcases List.mem_append.mp ha with ha | ha
    · have := haj a ha
      omega
    · have := hnl a ha
      omega
  have hC4 : CW f4 x π win dl (T0 + 1) w4 m3 w4.2.2.2.2.1 := by
    have := q3.repa (o4.1.mono (by decide)) q4
    rw [left_eq (fun a ha => (haj a ha).1) (fun a ha => (hnl a ha).1), ← hane, ← ha3] at this
    exact this
  have hF4 : FV [1, 2, 3, 5, 6, 7, 8, 9, 11, 12, 13] x u wd true f f4 := hFz.tr ((((((o1.mono (L' := [1, 2, 3, 5, 6, 7, 8, 9, 11]) (by decide)).tr (o2.mono (by decide))).fw (u := u)).tr o3).tr ((o4.mono (by decide)).fw)).fv.mono (by decide))
  have hk4 : ∀ w0 : Wd, TkC f4 x wd true (w0, 0, 0, false, s) := fun w0 => (hkz w0).fw hux hwd ((((o1.mono (L' := [1, 2, 3, 5, 6, 7, 8, 9, 11]) (by decide)).tr (o2.mono (by decide))).fw (u := u)).tr o3 |>.tr ((o4.mono (by decide)).fw)) (by decide)
  have hWf : WI π (400 * T0) (T0 + 1) (fun q => if q < 0 then T0 + 1 else T0) (T0 + 1) w4 := hW3.le (Nat.le_refl _) (fun q => by rw [if_neg (by omega)]; exact Nat.le_refl _) (Nat.le_refl _)
  have loop : ∀ n p (f0 : FI) (wk : Wd) (mk : List (Nat × Nat)), n + p = π.1 6 → wk = forN p (fun p w => failS π dl w p) w4 → CW f0 x π win dl (T0 + 1) wk mk w4.2.2.2.2.1 → WI π (400 * T0) (T0 + 1) (fun q => if q < p then T0 + 1 else T0) (T0 + 1) wk → PI π wk mk → WS wk.2.2.1 → wk.1 0 = T0 → (∀ w0 : Wd, TkC f0 x wd true (w0, 0, 0, false, s)) → FV [1, 2, 3, 5, 6, 7, 8, 9, 11, 12, 13] x u wd true f f0 → LpX10_stepD_40 l G d (qv sh fR K) sh fR x u wd f0 g (nI p) := by
    intro n
    induction n with
    | zero =>
      intro p f0 wk mk hp hwk hC0 hW0 hP0 hS0 h00 hk0 hF0
      rw [Nat.zero_add] at hp
      subst hp
      have hc0 := hc.fv hux hwd hF0
      refine VX10_stepD_40 hs hu hU hw ?_
      rw [hc0.1 6 (by decide), hC0.t8, h00]
      refine ⟨fun _ => ?_, fun z => absurd (nI_le (Nat.le_refl _) (by omega)) z⟩
      refine D_fStay hs (by omega) hC0 (fun y hy a ha => ?_) (fun f5 q5 o5 => ?_)
      · obtain ⟨-, -, -, -, z5, z6, -⟩ := hW0.2.2.1 y hy
        have := z6 a ha
        omega
      have hW5 : WI π (400 * T0) (T0 + 1) (fun _ => T0 + 1) (T0 + 1) (clearS wk) := hW0.clear.le (Nat.le_refl _) (fun q => by split <;> omega) (Nat.le_refl _)
      have hJ : SJ π T0 400 (clearS wk, 0, 0, false, s) mk := ⟨hW5, hP0.clear, fun y hy => (List.mem_filter.mp hy).2, h00, by omega, rfl⟩
      have hF5 : FV [1, 2, 3, 5, 6, 7, 8, 9, 11, 12, 13] x u wd true f f5 := hF0.tr (((o5.mono (by decide)).fw (u := u)).fv)
      have hc5 := hc.fv hux hwd hF5
      refine D_sendPiecesD hs hu hU hux hwd hw (T := (clearS wk, 0, 0, false, s)) q5 hc5 ((hk0 _).fw (u := u) hux hwd o5.fw (by decide)) hdl hd9 hπ hJ (hS0.sub List.filter_sublist) (fun f6 n6 q6 k6 j6 p6 s6 v6 => ?_)
      have hla : lastS π dl true w4 s = (let r := sendsS π dl true 400 (clearS wk, 0, 0, false, s); let T := if r.2 then (match penS π dl true r.1 with
        | some T => T
        | none => r.1) else r.1; (wsc T.1 0 (T.1.1 0 + 1), T.2)) := by
        unfold lastS
        rw [← hwk]
        rfl
      have hran : (sendsS π dl true 400 (clearS wk, 0, 0, false, s)).1.1.2.2.2.2.1 = w4.2.2.2.2.1 := by
        rw [sendsS_an]
        show wk.2.2.2.2.1 = _
        rw [hwk, fails_an]
      have hF6 : FV [1, 2, 3, 5, 6, 7, 8, 9, 11, 12, 13] x u wd true f f6 := hF5.tr (v6.mono (by decide))
      have hc6 := hc.fv hux hwd hF6
      generalize sendsS π dl true 400 (clearS wk, 0, 0, false, s) = r at *
      have fin : ∀ (f7 : FI) (T' : Tk), T' = (if r.2 then (match penS π dl true r.1 with
          | some T => T
          | none => r.1) else r.1) → CW f7 x π win dl (T0 + 1) T'.1 r.1.1.2.2.2.1 w4.2.2.2.2.1 → TkC f7 x wd true T' → WS T'.1.2.2.1 → FV [1, 2, 3, 5, 6, 7, 8, 9, 11, 12, 13] x u wd true f f7 → qv sh fR K none (sh, (up2 f7 x 8 ((f7 x 8) + (nI 1))), g, fR) := by
        intro f7 T' e7 c7 k7 s7 v7
        obtain ⟨a1, a2, a3, a4⟩ := send_fin hπ hdl j6 p6 e7
        have hfin : tickS π win dl true w s = (wsc T'.1 0 (T'.1.1 0 + 1), T'.2) := by
          rw [et, hla, e7]
        rw [c7.t8, nI_add]
        have c8 := c7.setn (i := 0) (v := T'.1.1 0 + 1) (by unfold nset; omega)
        refine ⟨_, _, rfl, rfl, H _ r.1.1.2.2.2.1 ?_ ?_ ?_ ?_ ?_ ?_ (v7.up0 (by decide))⟩
        · rw [hfin]
          show CW _ x π win dl _ (wsc T'.1 0 (T'.1.1 0 + 1)) _ T'.1.2.2.2.2.1
          rw [a4, hran]
          exact c8
        · rw [hfin]
          obtain ⟨y1, y2, y3, y4, y5, y6⟩ := k7
          exact ⟨by rw [up2_k (by decide)]; exact y1, by rw [up2_k (by decide)]; exact y2, by rw [up2_k (by decide)]; exact y3, fun z => by rw [up2_r (by omega)]; exact y4 z, y5, y6⟩
        · rw [hfin]
          exact (a1.tick (by omega)).le (by omega) (fun _ => Nat.le_refl _) (Nat.le_refl _)
        · rw [hfin]
          exact a2
        · rw [hfin]
          exact s7
        · rw [hfin]
          show T'.1.1 0 + 1 = T0 + 1
          rw [a3]
      refine ⟨fun z => fin f6 r.1 (by rw [bI_0.mp z]; rfl) q6 k6 s6 hF6, fun z => ?_⟩
      refine D_penaliseD hs hu hU hux hwd hw q6 hc6 k6 hd9 hπ j6 s6 (fun f7 T' e7 c7 k7 s7 v7 => fin f7 T' ?_ c7 k7 s7 (hF6.tr (v7.mono (by decide))))
      rw [bI_ne0 z]
      exact e7
    | succ n ih =>
      intro p f0 wk mk hp hwk hC0 hW0 hP0 hS0 h00 hk0 hF0
      have hc0 := hc.fv hux hwd hF0
      have ec : (fu (fun q => if q < p then T0 + 1 else T0) p (T0 + 1)) = (fun q => if q < p + 1 then T0 + 1 else T0) := by
        funext q
        unfold fu
        by_cases e : q = p
        · rw [if_pos e, if_pos (by omega)]
        · rw [if_neg e]
          dsimp only
          by_cases e2 : q < p
          · rw [if_pos e2, if_pos (by omega)]
          · rw [if_neg e2, if_neg (by omega)]
      have hW2 := hW0.fail (dl := dl) (p := p) (by rw [h00]; simp) (by rw [h00]; exact Nat.le_refl _)
      rw [h00, ec] at hW2
      have hf0 : (failS π dl wk p).1 0 = T0 := by
        rw [failS_1]
        exact h00
      have hPf : PI π (failS π dl wk p) (failM π dl wk p mk) := by
        cases hz : freS wk p with
        | true => exact hP0.fail hW0 hz
        | false =>
          have e : failS π dl wk p = wk := by
            unfold failS
            rw [hz]
            rfl
          have hno : wk.2.2.1.findIdx? (lateS π dl wk p) = none := by
            rw [List.findIdx?_eq_none_iff]
            intro y hy
            cases hl : lateS π dl wk p y with
            | false => rfl
            | true =>
              unfold lateS at hl
              rw [Bool.and_eq_true, Bool.and_eq_true, beq_iff_eq] at hl
              have := (hW0.2.2.1 y hy).2.2.2.2.2.2 hl.1.2
              rw [hl.1.1, hz] at this
              cases this
          rw [e, (failS_no (m := mk) hno).2]
          exact hP0
      refine VX10_stepD_40 hs hu hU hw ?_
      rw [hc0.1 6 (by decide)]
      refine ⟨fun z => absurd z (nI_ge (by omega) (by omega)), fun _ => ?_⟩
      refine D_failLate hs hu hU hux hC0 hc0 hW0 (by omega) hS0 hd9 hπ (by omega) (by omega) ?_ (fun f5 q5 o5 => ?_)
      · have := hP0.2.2
        have := fly_all (w := wk) (p := p)
        omega
      · rw [nI_add]
        exact ih (p + 1) f5 (failS π dl wk p) (failM π dl wk p mk) (by omega) (by rw [hwk]; rfl) q5 hW2 hPf (hS0.offs failS_offs) hf0 (fun w0 => (hk0 w0).fw hux hwd o5 (by decide)) (hF0.tr ((o5.mono (by decide)).fv))
  exact loop (π.1 6) 0 f4 w4 m3 rfl rfl hC4 hWf hP3 hS3 h03 hk4 hF4
end ST
