/-! what holds of every world stays: failing paths' pieces; the sends -/
section P9
variable {π : Pl} {k t h win : Nat} {c : Nat → Nat} {w : Wd} {m : List (Nat × Nat)} {dl : Nat → Nat}
theorem set_cnt : ∀ {l : List Sg} {j : Nat} {s : Sg}, l[j]? = some s → s.2.2.2.2.2.2.1 = true → (l.set j (sgFl s false)).countP (fun s => s.2.2.2.2.2.2.1) + 1 = l.countP (fun s => s.2.2.2.2.2.2.1)
  | [], j, s, h, _ => by simp at h
  | x :: l, 0, s, h, hf => by
    simp at h
    subst h
    rw [List.set_cons_zero, List.countP_cons, List.countP_cons, hf]
    rw [if_neg (show ¬ (sgFl x false).2.2.2.2.2.2.1 = true from fun z => by cases z), if_pos rfl]
  | x :: l, j + 1, s, h, hf => by
    simp at h
    have := set_cnt h hf
    rw [List.set_cons_succ, List.countP_cons, List.countP_cons]
    omega
theorem PI.dieC {p : Nat} (hC : ∀ s ∈ w.2.2.1, 1 ≤ s.2.2.2.1 ∧ s.2.2.1 + s.2.2.2.1 ≤ π.1 1) (hP : PI π w m) : PI π (dieS w p) (dieM w p m) := by
  unfold dieM
  by_cases hd : w.2.1 p 1 = 1
  · unfold dieS
    rw [if_pos hd, if_pos hd]
    exact hP
  · rw [dieS_live hd, if_neg hd]
    obtain ⟨p1, p2, p3⟩ := hP
    refine ⟨fun q hq => ?_, ?_, ?_⟩
    · rcases List.mem_append.mp hq with hq | hq
      · exact p1 q hq
      · obtain ⟨s, hs, e⟩ := List.mem_map.mp hq
        rw [← e]
        exact hC s (List.mem_filter.mp hs).1
    · show (m ++ _).filter (ndS w) = (w.2.2.2.1 ++ _).filter (ndS w)
      rw [List.filter_append, List.filter_append, ← p2, nd_idem]
    · show (m ++ _).length + (w.2.2.1.map (offS p)).countP _ ≤ 396
      have := off_cnt p w.2.2.1
      rw [List.length_append, List.length_map]
      omega
theorem PI.die {p : Nat} (hW : WI π k t c h w) (hP : PI π w m) : PI π (dieS w p) (dieM w p m) := hP.dieC (fun s hs => ⟨(hW.2.2.1 s hs).2.2.1, (hW.2.2.1 s hs).2.2.2.1⟩)
theorem PI.fail {p : Nat} (hW : WI π k t c h w) (hfr : freS w p = true) (hP : PI π w m) : PI π (failS π dl w p) (failM π dl w p m) := by
  unfold failS failM
  rw [if_pos hfr]
  show PI π (match w.2.2.1.findIdx? (lateS π dl w p) with
    | none => _
    | some k => _) _
  cases hidx : w.2.2.1.findIdx? (lateS π dl w p) with
  | none => exact hP
  | some j =>
    dsimp only
    obtain ⟨hjlt, hjp, -⟩ := List.findIdx?_eq_some_iff_getElem.mp hidx
    have hj : w.2.2.1[j]? = some w.2.2.1[j] := List.getElem?_eq_getElem hjlt
    generalize w.2.2.1[j] = s at hj hjp
    rw [hj]
    unfold lateS at hjp
    simp only [Bool.and_eq_true, beq_iff_eq] at hjp
    have hC : ∀ s ∈ w.2.2.1, 1 ≤ s.2.2.2.1 ∧ s.2.2.1 + s.2.2.2.1 ≤ π.1 1 := fun s hs => ⟨(hW.2.2.1 s hs).2.2.1, (hW.2.2.1 s hs).2.2.2.1⟩
    have hmod : w.2.2.1.modify j (fun s => sgFl s false) = w.2.2.1.set j (sgFl s false) := modify_set _ hj
    dsimp only
    have hw3 : ∀ w3 : Wd, w3 = wpt (wpt (pcF (wpc (wsg (keepS w (0, p, s.2.2.1)) ((keepS w (0, p, s.2.2.1)).2.2.1.modify j (fun s => sgFl s false))) ((keepS w (0, p, s.2.2.1)).2.2.2.1 ++ [(s.2.2.1, s.2.2.2.1)]))) p 3 (w.2.1 p 3 + 1)) p 2 (halfS (w.2.1 p 2)) → PI π (if w3.2.1 p 3 = 3 then dieS w3 p else w3) (if w.2.1 p 3 + 1 = 3 then (if w.2.1 p 1 = 1 then m ++ [pcE s] else m ++ [pcE s] ++ ((w.2.2.1.set j (sgFl s false)).filter (hitS p)).map pcE) else m ++ [pcE s]) := by
      intro w3 e3
      have q1 : w3.1 = w.1 := by rw [e3]; rfl
      have q2 : w3.2.1 = up2 (up2 w.2.1 p 3 (w.2.1 p 3 + 1)) p 2 (halfS (w.2.1 p 2)) := by rw [e3]; rfl
      have q3 : w3.2.2.1 = w.2.2.1.set j (sgFl s false) := by rw [e3]; exact hmod
      have q5 : w3.2.2.2.1 = (w.2.2.2.1 ++ [pcE s]).filter (ndS w) := by rw [e3]; rfl
      have z3 : w3.2.1 p 3 = w.2.1 p 3 + 1 := by rw [q2, up2_k (by decide), up2_eq]
      have z1 : w3.2.1 p 1 = w.2.1 p 1 := by rw [q2, up2_k (by decide), up2_k (by decide)]
      have hnd : ndS w3 = ndS w := by funext q; unfold ndS; rw [q1]
      clear e3
      have hP3 : PI π w3 (m ++ [pcE s]) := by
        obtain ⟨p1, p2, p3⟩ := hP
        refine ⟨fun q hq => ?_, ?_, ?_⟩
        · rcases List.mem_append.mp hq with hq | hq
          · exact p1 q hq
          · rw [List.mem_singleton.mp hq]
            exact hC s (List.mem_of_getElem? hj)
        · rw [hnd, q5, List.filter_append, List.filter_append, ← p2, nd_idem]
        · have := set_cnt hj hjp.1.2
          rw [q3, List.length_append, List.length_singleton]
          omega
      rw [z3]
      split
      · have := hP3.dieC (p := p) (fun y hy => by
          rw [q3] at hy
          rcases List.mem_or_eq_of_mem_set hy with hy | hy
          · exact hC y hy
          · rw [hy]; exact hC s (List.mem_of_getElem? hj))
        unfold dieM at this
        rw [z1, q3] at this
        exact this
      · exact hP3
    exact hw3 _ rfl
theorem pick_ok {but : Option Nat} {p : Nat} {x : Int} (hp : pickS π dl w but = some (p, x)) : p < π.1 6 ∧ freS w p = true ∧ 1000 * flyS w p < w.2.1 p 2 := by
  have : ∀ n p x, forN n (pick1 π dl w but) none = some (p, x) → p < n ∧ freS w p = true ∧ 1000 * flyS w p < w.2.1 p 2 := by
    intro n
    induction n with
    | zero => intro p x h; cases h
    | succ n ih =>
      intro p x h
      replace h : pick1 π dl w but n (forN n (pick1 π dl w but) none) = some (p, x) := h
      by_cases hc : but = some n ∨ freS w n = false ∨ w.2.1 n 2 ≤ 1000 * flyS w n
      · unfold pick1 at h
        rw [if_pos hc] at h
        have := ih p x h
        exact ⟨by omega, this.2⟩
      · rcases pick1_or (π := π) (dl := dl) (T := w) (but := but) (p := n) (best := forN n (pick1 π dl w but) none) with e | ⟨y, e⟩
        · rw [e] at h
          have := ih p x h
          exact ⟨by omega, this.2⟩
        · rw [e] at h
          cases h
          refine ⟨by omega, ?_, ?_⟩
          · cases hz : freS w n with
            | true => rfl
            | false => exact absurd (Or.inr (Or.inl hz)) hc
          · exact Nat.not_le.mp (fun z => hc (Or.inr (Or.inr z)))
  exact this _ _ _ hp
/-- what holds along the sends of tick T0 -/
def SJ (π : Pl) (T0 n : Nat) (T : Tk) (m : List (Nat × Nat)) : Prop := WI π (400 * T0 + T.2.1) (T0 + 1) (fun _ => T0 + 1) (T0 + 1) T.1 ∧ PI π T.1 m ∧ (∀ s ∈ T.1.2.2.1, stayS s = true) ∧ T.1.1 0 = T0 ∧ 400 ≤ n + T.1.2.2.1.countP (fun s => s.2.2.2.2.2.2.1) ∧ T.2.1 + n = 400
theorem SJ.z {T0 : Nat} {T : Tk} : ¬ SJ π T0 0 T m := by
  intro hz
  obtain ⟨-, ⟨-, -, p3⟩, -, -, h, -⟩ := hz
  omega
theorem SJ.jn {T0 n : Nat} {T : Tk} (hπ : πOK π) (hJ : SJ π T0 n T m) : JN π T m := by
  obtain ⟨hW, ⟨p1, p2, p3⟩, hst, h0, hn, hs⟩ := hJ
  have hT0 : T0 ≤ 1000 := by rw [← h0]; exact hW.1.1
  have h200 := hπ.1.2
  have hl := hW.seg hπ (fun _ => Nat.le_refl _) hst
  refine ⟨hW.wN hπ (by omega), fun p => (hW.2.1 p).2.2.2.2.2.2.1, by omega, by omega, fun s hs => (hW.2.2.1 s hs).2.2.1, fun q hq => ?_, p2⟩
  have := (p1 q hq).2
  omega
theorem SJ.dw {T0 n : Nat} {T : Tk} (hJ : SJ π T0 n T m) : SJ π T0 n T (m.dropWhile (fun q => !ndS T.1 q)) := by
  obtain ⟨hW, ⟨p1, p2, p3⟩, hr⟩ := hJ
  have hs : (m.dropWhile (fun q => !ndS T.1 q)).Sublist m := List.dropWhile_sublist _
  refine ⟨hW, ⟨fun q hq => p1 q (hs.subset hq), by rw [dw_filter]; exact p2, ?_⟩, hr⟩
  have := hs.length_le
  omega
theorem WI.sent {T : Tk} {T0 p frm many : Nat} {dr : Bool} (hW : WI π k (T0 + 1) c h T.1) (h0 : T.1.1 0 = T0) (hdl : ∀ p, p < π.1 6 → 1 ≤ dl p ∧ dl p ≤ 9) (hp : p < π.1 6) (hfr : freS T.1 p = true) (hfl : 1000 * flyS T.1 p < T.1.2.1 p 2) (hm : 1 ≤ many) (hfm : frm + many ≤ π.1 1) : WI π (k + 1) (T0 + 1) c h (sendS π dl dr T p frm many).1 := by
  have h99 := (hW.2.1 p).2.2.1
  have hd := hdl p hp
  refine hW.add (p := p) (s := (p, T.1.2.1 p 4, frm, many, T.1.1 0, (if lostS π dl T.1 p frm || (dr && decide ((if dr then drawS T.2.2.2.2 else T.2.2.2.2) / 64 % 100 < π.1 5)) then none else some (T.1.1 0 + dl p)), true, T.1.2.1 p 5 == 1)) hp hfr (by omega) (fun i hi => ?_) (fun q i hq => ?_) (fun i h4 h5 => ?_) ?_ ?_ rfl rfl rfl rfl hm hfm rfl (fun a ha => ?_) rfl
  · show fu T.1.1 5 _ i = _
    unfold fu
    rw [if_neg (by omega)]
  · show up2 (up2 T.1.2.1 p 5 0) p 4 _ q i = _
    rw [up2_r hq, up2_r hq]
  · show up2 (up2 T.1.2.1 p 5 0) p 4 _ p i = _
    rw [up2_k h4, up2_k h5]
  · exact up2_eq
  · show up2 (up2 T.1.2.1 p 5 0) p 4 _ p 5 = _
    rw [up2_k (by decide), up2_eq]
  · replace ha : (if lostS π dl T.1 p frm || (dr && decide ((if dr then drawS T.2.2.2.2 else T.2.2.2.2) / 64 % 100 < π.1 5)) then none else some (T.1.1 0 + dl p)) = some a := ha
    generalize (lostS π dl T.1 p frm || (dr && decide ((if dr then drawS T.2.2.2.2 else T.2.2.2.2) / 64 % 100 < π.1 5))) = bb at ha
    cases bb with
    | true => cases ha
    | false =>
      replace ha : some (T.1.1 0 + dl p) = some a := ha
      cases ha
      rw [h0]
      omega
theorem SJ.p {T0 n : Nat} {T : Tk} {q : Nat × Nat} {ms : List (Nat × Nat)} {p : Nat} {x : Int} {dr : Bool} (hdl : ∀ p, p < π.1 6 → 1 ≤ dl p ∧ dl p ≤ 9) (hJ : SJ π T0 (n + 1) T (q :: ms)) (hnd : ndS T.1 q = true) (hpk : pickS π dl T.1 none = some (p, x)) : SJ π T0 n (stepP π dl dr T p q (ms.filter (ndS T.1))) ms := by
  obtain ⟨hW, ⟨p1, p2, p3⟩, hst, h0, hn, hs⟩ := hJ
  obtain ⟨k1, k2, k3⟩ := pick_ok hpk
  have hqm := p1 q (List.mem_cons_self ..)
  have hW2 := hW.sent (dr := dr) (frm := q.1) (many := q.2) h0 hdl k1 k2 k3 hqm.1 hqm.2
  have hfl : (sendS π dl dr T p q.1 q.2).1.2.2.1.countP (fun s => s.2.2.2.2.2.2.1) = T.1.2.2.1.countP (fun s => s.2.2.2.2.2.2.1) + 1 := by
    show (T.1.2.2.1 ++ [_]).countP _ = _
    rw [List.countP_append]
    rfl
  refine ⟨?_, ⟨fun y hy => p1 y (List.mem_cons_of_mem _ hy), rfl, ?_⟩, fun s hs => ?_, h0, ?_, ?_⟩
  · exact hW2.cg (fun _ _ => rfl) rfl rfl rfl
  · show ms.length + (sendS π dl dr T p q.1 q.2).1.2.2.1.countP _ ≤ 396
    rw [hfl]
    rw [List.length_cons] at p3
    omega
  · rcases List.mem_append.mp (show s ∈ T.1.2.2.1 ++ [_] from hs) with hs | hs
    · exact hst s hs
    · rw [List.mem_singleton.mp hs]
      rfl
  · show 400 ≤ n + (sendS π dl dr T p q.1 q.2).1.2.2.1.countP _
    rw [hfl]
    omega
  · show T.2.1 + 1 + n = 400
    omega
theorem fly_tot (hW : WI π k t c h w) (hπ : πOK π) : w.2.2.1.countP (fun s => s.2.2.2.2.2.2.1) ≤ 396 := by
  have h4 := hπ.2.2.2.2.2.1
  exact four (fun s : Sg => s.2.2.2.2.2.2.1) (fun s : Sg => s.1) 99 w.2.2.1 (fun s hs => by have := (hW.2.2.1 s hs).1; omega) (fun p _ => hW.2.2.2.1 p)
theorem SJ.s {T0 n : Nat} {T : Tk} {p : Nat} {x : Int} {dr : Bool} (hπ : πOK π) (hdl : ∀ p, p < π.1 6 → 1 ≤ dl p ∧ dl p ≤ 9) (hJ : SJ π T0 (n + 1) T []) (hlt : T.1.1 1 < minS (T.1.1 3) (π.1 1)) (hpk : pickS π dl T.1 none = some (p, x)) : SJ π T0 n (stepN π dl dr T p) [] := by
  obtain ⟨hW, ⟨p1, p2, p3⟩, hst, h0, hn, hs⟩ := hJ
  obtain ⟨k1, k2, k3⟩ := pick_ok hpk
  have hu := hπ.2.1
  have hlm : minS (T.1.1 3) (π.1 1) ≤ π.1 1 := by unfold minS; split <;> omega
  have hm1 : 1 ≤ minS (π.1 2) (minS (T.1.1 3) (π.1 1) - T.1.1 1) ∧ T.1.1 1 + minS (π.1 2) (minS (T.1.1 3) (π.1 1) - T.1.1 1) ≤ π.1 1 := by
    generalize minS (T.1.1 3) (π.1 1) = y at hlt hlm
    unfold minS
    split <;> omega
  have hW2 := hW.sent (dr := dr) (frm := T.1.1 1) (many := minS (π.1 2) (minS (T.1.1 3) (π.1 1) - T.1.1 1)) h0 hdl k1 k2 k3 hm1.1 hm1.2
  unfold stepN
  generalize minS (π.1 2) (minS (T.1.1 3) (π.1 1) - T.1.1 1) = mm at hm1 hW2
  have hfl : (sendS π dl dr T p (T.1.1 1) mm).1.2.2.1.countP (fun s => s.2.2.2.2.2.2.1) = T.1.2.2.1.countP (fun s => s.2.2.2.2.2.2.1) + 1 := by
    show (T.1.2.2.1 ++ [_]).countP _ = _
    rw [List.countP_append]
    rfl
  have hft := fly_tot hW2 hπ
  refine ⟨?_, ⟨fun y hy => (by cases hy), p2, ?_⟩, fun s hs => ?_, h0, ?_, ?_⟩
  · obtain ⟨⟨a0, a1, a2, a3, a4⟩, hB, hC, hD, hE, hF, hG, hH⟩ := hW2
    exact ⟨⟨a0, hm1.2, a2, a3, a4⟩, hB, hC, hD, hE, hF, hG, hH⟩
  · show 0 + (sendS π dl dr T p (T.1.1 1) mm).1.2.2.1.countP _ ≤ 396
    omega
  · rcases List.mem_append.mp (show s ∈ T.1.2.2.1 ++ [_] from hs) with hs | hs
    · exact hst s hs
    · rw [List.mem_singleton.mp hs]
      rfl
  · show 400 ≤ n + (sendS π dl dr T p (T.1.1 1) mm).1.2.2.1.countP _
    rw [hfl]
    omega
  · show T.2.1 + 1 + n = 400
    omega
end P9
