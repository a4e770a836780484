/-! what holds of every world: it stays, step by step -/
section P3
variable {π : Pl} {k t h : Nat} {c : Nat → Nat} {w : Wd} {m : List (Nat × Nat)}
theorem WI.cg {w' : Wd} (hW : WI π k t c h w) (e1 : ∀ i, i < 5 → w'.1 i = w.1 i) (e2 : w'.2.1 = w.2.1) (e3 : w'.2.2.1 = w.2.2.1) (e4 : w'.2.2.2.2.1 = w.2.2.2.2.1) : WI π k t c h w' := by
  unfold WI WA pB sC aF pG flyS net freS at hW ⊢
  rw [e1 0 (by decide), e1 1 (by decide), e1 2 (by decide), e1 3 (by decide), e1 4 (by decide), e2, e3, e4]
  exact hW
theorem WI.le {k' : Nat} {c' : Nat → Nat} {h' : Nat} (hW : WI π k t c h w) (hk : k ≤ k') (hc : ∀ p, c p ≤ c' p) (hh : h ≤ h') : WI π k' t c' h' w := by
  obtain ⟨hA, hB, hC, hD, hE, hF, hG, hH⟩ := hW
  refine ⟨hA, fun p => ?_, hC, hD, hE, hF, fun p => ?_, fun s0 => Nat.le_trans (hH s0) (by omega)⟩
  · obtain ⟨b0, b1, b2, b3, b4, b5, b6⟩ := hB p
    exact ⟨b0, b1, b2, b3, b4, by omega, b6⟩
  · obtain ⟨g1, g2, g3⟩ := hG p
    have := hc p
    exact ⟨g1, fun z s0 => Nat.le_trans (g2 z s0) (by omega), g3⟩
theorem netA_sub {p : Nat} {l l' : List An} (h : l'.Sublist l) : (netA p l').Sublist (netA p l) := List.Sublist.filterMap _ h
theorem WI.suba {l' : List An} (hW : WI π k t c h w) (hl : l'.Sublist w.2.2.2.2.1) : WI π k t c h (wan w l') := by
  obtain ⟨hA, hB, hC, hD, hE, hF, hG, hH⟩ := hW
  refine ⟨hA, hB, hC, hD, hE, fun a ha => hF a (hl.subset ha), fun p => ?_, fun s0 => Nat.le_trans (hl.countP_le) (hH s0)⟩
  obtain ⟨g1, g2, g3⟩ := hG p
  have hs : (net (wan w l') p).Sublist (net w p) := List.Sublist.append (List.Sublist.refl _) (netA_sub hl)
  exact ⟨List.Nodup.sublist (hs.map _) g1, fun z s0 => Nat.le_trans hs.countP_le (g2 z s0), fun z => Nat.le_trans hs.length_le (g3 z)⟩
theorem Offs.pw : ∀ {l l' : List Sg}, Offs l l' → l.Pairwise (fun s s' => s.1 = s'.1 → s.2.1 ≠ s'.2.1) → l'.Pairwise (fun s s' => s.1 = s'.1 → s.2.1 ≠ s'.2.1)
  | [], [], _, h => h
  | s :: l, s' :: l', h, z => by
    obtain ⟨e1, e2, -⟩ := sgFl_eq h.1
    rw [List.pairwise_cons] at z ⊢
    refine ⟨fun y hy => ?_, Offs.pw h.2.2 z.2⟩
    obtain ⟨x, hx, ex, -⟩ := Offs.mem h.2.2 y hy
    obtain ⟨e3, e4, -⟩ := sgFl_eq ex
    rw [e1, e2, e3, e4]
    exact z.1 x hx
  | [], _ :: _, h, _ => h.elim
  | _ :: _, [], h, _ => h.elim
theorem WI.step {w' : Wd} {c' : Nat → Nat} (hW : WI π k t c h w) (hA : WA π w') (h0 : w'.1 0 = w.1 0) (hB : ∀ p, pB w' k p) (h4 : ∀ p, w'.2.1 p 4 = w.2.1 p 4) (ho : Offs w.2.2.1 w'.2.2.1) (hfr : ∀ s ∈ w'.2.2.1, s.2.2.2.2.2.2.1 = true → freS w' s.1 = true) (ha : w'.2.2.2.2.1 = w.2.2.2.2.1) (hG : ∀ p, pG w' (c' p) p) : WI π k t c' h w' := by
  obtain ⟨-, -, hC, hD, hE, hF, -, hH⟩ := hW
  refine ⟨hA, hB, fun s' hs' => ?_, fun p => Nat.le_trans ho.fly (hD p), ho.pw hE, fun a haa => ?_, hG, fun s0 => by rw [ha]; exact hH s0⟩
  · obtain ⟨s, hs, es, -⟩ := ho.mem s' hs'
    obtain ⟨e1, e2, e3, e4, e5, e6, -⟩ := sgFl_eq es
    obtain ⟨q1, q2, q3, q4, q5, q6, -⟩ := hC s hs
    refine ⟨by rw [e1]; exact q1, by rw [e2, h4, e1]; exact q2, by rw [e4]; exact q3, by rw [e3, e4]; exact q4, by rw [e5, h0]; exact q5, fun a ea => ?_, hfr s' hs'⟩
    rw [e6] at ea
    rw [e5]
    exact q6 a ea
  · rw [ha] at haa
    obtain ⟨q1, q2, q3, q4, q5, q6, q7⟩ := hF a haa
    exact ⟨q1, fun n hn => by rw [h4]; exact q2 n hn, q3, q4, q5, q6, by rw [h0]; exact q7⟩
theorem net_eq {w' : Wd} (ho : Offs w.2.2.1 w'.2.2.1) (ha : w'.2.2.2.2.1 = w.2.2.2.2.1) (p : Nat) : net w' p = net w p := by
  unfold net
  rw [ho.nG, ha]
theorem pG.keep {w' : Wd} {x p : Nat} (hG : pG w x p) (hn : net w' p = net w p) (h1 : w'.2.1 p 1 = w.2.1 p 1) (hal : ∀ y ∈ net w p, alv w.2.2.1 p y.1 = true → alv w'.2.2.1 p y.1 = true) : pG w' x p := by
  obtain ⟨g1, g2, g3⟩ := hG
  unfold pG
  rw [hn, h1]
  refine ⟨g1, fun z s0 => Nat.le_trans (countP_mono (fun y hy hz => ?_)) (g2 z s0), g3⟩
  simp only [Bool.and_eq_true, Bool.not_eq_true'] at hz ⊢
  refine ⟨hz.1, ?_⟩
  rw [Bool.eq_false_iff]
  intro q
  rw [hal y hy q] at hz
  cases hz.2
theorem alv_set {l : List Sg} {j p n : Nat} {s : Sg} (hj : l[j]? = some s) (hne : ¬ (s.1 = p ∧ s.2.1 = n)) (hz : alv l p n = true) : alv (l.set j (sgFl s false)) p n = true := by
  unfold alv at hz ⊢
  obtain ⟨x, hx, hz⟩ := List.any_eq_true.mp hz
  obtain ⟨i, hi, ei⟩ := List.getElem_of_mem hx
  refine List.any_eq_true.mpr ⟨x, ?_, hz⟩
  have hij : i ≠ j := by
    intro e
    subst e
    rw [List.getElem?_eq_getElem hi, ei] at hj
    cases hj
    simp only [Bool.and_eq_true, beq_iff_eq] at hz
    exact hne ⟨hz.1.2, hz.2⟩
  rw [← ei]
  refine List.mem_of_getElem? (i := i) ?_
  rw [List.getElem?_set_ne (fun z => hij z.symm), List.getElem?_eq_getElem hi]
theorem alv_off {l : List Sg} {p q n : Nat} (hne : q ≠ p) (hz : alv l q n = true) : alv (l.map (offS p)) q n = true := by
  unfold alv at hz ⊢
  obtain ⟨x, hx, hz⟩ := List.any_eq_true.mp hz
  refine List.any_eq_true.mpr ⟨x, ?_, hz⟩
  refine List.mem_map.mpr ⟨x, hx, ?_⟩
  simp only [Bool.and_eq_true, beq_iff_eq] at hz
  unfold offS hitS
  rw [if_neg]
  simp only [Bool.and_eq_true, beq_iff_eq]
  intro z
  exact hne (hz.1.2.symm.trans z.1)
theorem count_one {P P' : Nat × Nat → Bool} {n : Nat} : ∀ l : List (Nat × Nat), (l.map (fun x => x.1)).Nodup → (∀ x ∈ l, P' x = true → P x = true ∨ x.1 = n) → l.countP P' ≤ l.countP P + 1
  | [], _, _ => Nat.zero_le _
  | x :: l, hn, hp => by
    rw [List.map_cons, List.nodup_cons] at hn
    rw [List.countP_cons, List.countP_cons]
    by_cases e : x.1 = n
    · have : l.countP P' ≤ l.countP P := countP_mono (fun y hy hz => by
        rcases hp y (List.mem_cons_of_mem _ hy) hz with q | q
        · exact q
        · exact absurd (List.mem_map.mpr ⟨y, hy, q.trans e.symm⟩) hn.1)
      split <;> split <;> omega
    · have ih := count_one l hn.2 (fun y hy => hp y (List.mem_cons_of_mem _ hy))
      have := hp x (List.mem_cons_self ..)
      split
      · rename_i z
        rcases this z with q | q
        · rw [if_pos q]; omega
        · exact absurd q e
      · split <;> omega
theorem net_sent (hW : WI π k t c h w) {p : Nat} : ∀ x ∈ net w p, x.2 ≤ w.1 0 := by
  obtain ⟨-, -, hC, -, -, hF, -⟩ := hW
  intro x hx
  rcases List.mem_append.mp hx with hx | hx
  · obtain ⟨s, hs, e⟩ := List.mem_map.mp hx
    obtain ⟨hs, hz⟩ := List.mem_filter.mp hs
    rw [← e]
    exact (hC s hs).2.2.2.2.1
  · obtain ⟨a, ha, e⟩ := List.mem_filterMap.mp hx
    have := (hF a ha).2.2.2.2.2.2
    split at e
    · obtain ⟨n, -, e⟩ := Option.map_eq_some_iff.mp e
      rw [← e]
      exact this
    · cases e
theorem net_num (hW : WI π k t c h w) {p : Nat} : ∀ x ∈ net w p, x.1 < w.2.1 p 4 := by
  obtain ⟨-, -, hC, -, -, hF, -⟩ := hW
  intro x hx
  rcases List.mem_append.mp hx with hx | hx
  · obtain ⟨s, hs, e⟩ := List.mem_map.mp hx
    obtain ⟨hs, hz⟩ := List.mem_filter.mp hs
    simp only [Bool.and_eq_true, beq_iff_eq] at hz
    have := (hC s hs).2.1
    rw [← e, ← hz.1]
    exact this
  · obtain ⟨a, ha, e⟩ := List.mem_filterMap.mp hx
    have := (hF a ha).2.1
    split at e
    · rename_i ep
      obtain ⟨n, hn, e⟩ := Option.map_eq_some_iff.mp e
      rw [← e, ← ep]
      exact this n hn
    · cases e
theorem WI.ent {p : Nat} (hW : WI π k t c h w) (h0 : ¬ w.2.1 p 0 = 1) : WI π k t c h (entS w p) := by
  have e : ∀ q i, i ≠ 0 → i ≠ 2 → (entS w p).2.1 q i = w.2.1 q i := fun q i a b => by
    show up2 (up2 w.2.1 p 0 1) p 2 2000 q i = _
    rw [up2_k b, up2_k a]
  have e2 : ∀ q i, q ≠ p → (entS w p).2.1 q i = w.2.1 q i := fun q i a => by
    show up2 (up2 w.2.1 p 0 1) p 2 2000 q i = _
    rw [up2_r a, up2_r a]
  have hB := hW.2.1
  have hC := hW.2.2.1
  have hG := hW.2.2.2.2.2.2.1
  refine WI.step (c' := c) hW hW.1 rfl (fun q => ?_) (fun q => e q 4 (by decide) (by decide)) (Offs.rf _) (fun s hs hf => ?_) rfl (fun q => (hG q).keep rfl (e q 1 (by decide) (by decide)) (fun _ _ z => z))
  · by_cases eq : q = p
    · subst eq
      obtain ⟨b0, b1, b2, b3, b4, b5, b6, b7, b8⟩ := hB q
      have z0 : (entS w q).2.1 q 0 = 1 := by
        show up2 (up2 w.2.1 q 0 1) q 2 2000 q 0 = 1
        rw [up2_k (by decide), up2_eq]
      have z2 : (entS w q).2.1 q 2 = 2000 := by
        show up2 (up2 w.2.1 q 0 1) q 2 2000 q 2 = 2000
        exact up2_eq
      unfold pB
      rw [z0, z2, e q 1 (by decide) (by decide), e q 3 (by decide) (by decide), e q 4 (by decide) (by decide), e q 5 (by decide) (by decide)]
      exact ⟨by omega, b1, by omega, b3, b4, b5, b6, fun _ => by omega, fun i hi => by rw [e q i (by omega) (by omega)]; exact b8 i hi⟩
    · have := hB q
      unfold pB at this ⊢
      simp only [e2 q _ eq]
      exact this
  · have := (hC s hs).2.2.2.2.2.2 hf
    by_cases eq : s.1 = p
    · exfalso
      unfold freS at this
      simp only [Bool.and_eq_true, beq_iff_eq] at this
      rw [eq] at this
      exact h0 this.1
    · unfold freS at this ⊢
      rw [e2 _ _ eq, e2 _ _ eq]
      exact this
theorem WI.ref {i : Nat} (hW : WI π k t c h w) : WI π k t c h (refS w i) := hW.cg (fun j hj => by
  show fu w.1 (10 + i) _ j = _
  unfold fu
  rw [if_neg (by omega)]) rfl rfl rfl
theorem WI.join {p tok : Nat} (hW : WI π k t c h w) : WI π k t c h (joinS π w p tok).1 := by
  unfold joinS
  split
  · exact hW.ref
  · rename_i z
    exact hW.ent (fun q => z (Or.inl q))
theorem WI.joins (hW : WI π k t c h w) : WI π k t c h (joinsS π w) := by
  unfold joinsS
  generalize π.1 6 = n
  induction n with
  | zero => exact hW
  | succ n ih =>
    show WI π k t c h (match π.2.2.2.1 n with
      | some (t, tok) => if t = (forN n _ w).1 0 then (joinS π (forN n _ w) n tok).1 else forN n _ w
      | none => forN n _ w)
    split
    · split
      · exact ih.join
      · exact ih
    · exact ih
end P3
