/-! what holds of every world stays: all answers of a tick -/
section P7
variable {π : Pl} {k t h win : Nat} {c : Nat → Nat} {w : Wd} {m : List (Nat × Nat)} {dl : Nat → Nat}
theorem hear1_o (a : An) (w : Wd) : Offs w.2.2.1 (hear1 π w a).2.2.1 ∧ (hear1 π w a).2.2.2 = w.2.2.2 ∧ (∀ i, i ≠ 2 → i ≠ 3 → (hear1 π w a).1 i = w.1 i) ∧ w.1 2 ≤ (hear1 π w a).1 2 := by
  have e : ∀ i, i ≠ 2 → i ≠ 3 → (wsc (wsc w 2 (maxS a.2.2.1 (w.1 2))) 3 (maxS a.2.2.2.1 (w.1 3))).1 i = w.1 i := fun i h2 h3 => by
    show fu (fu w.1 2 _) 3 _ i = _
    unfold fu
    rw [if_neg h3, if_neg h2]
  have e2 : w.1 2 ≤ (wsc (wsc w 2 (maxS a.2.2.1 (w.1 2))) 3 (maxS a.2.2.2.1 (w.1 3))).1 2 := by
    show w.1 2 ≤ maxS a.2.2.1 (w.1 2)
    unfold maxS
    split <;> omega
  unfold hear1
  cases a.2.1 with
  | none => exact ⟨Offs.rf _, rfl, e, e2⟩
  | some n =>
    dsimp only
    generalize hw1 : wsc (wsc w 2 (maxS a.2.2.1 (w.1 2))) 3 (maxS a.2.2.2.1 (w.1 3)) = w1 at e e2
    have q1 : w1.2.2.1 = w.2.2.1 := by rw [← hw1]; rfl
    have q2 : w1.2.2.2 = w.2.2.2 := by rw [← hw1]; rfl
    cases hat : atS w1 a.1 n with
    | none => exact ⟨by rw [q1]; exact Offs.rf _, q2, e, e2⟩
    | some j =>
      obtain ⟨hjlt, -, -⟩ := List.findIdx?_eq_some_iff_getElem.mp hat
      have hj : w1.2.2.1[j]? = some w1.2.2.1[j] := List.getElem?_eq_getElem hjlt
      refine ⟨?_, q2, e, e2⟩
      show Offs w.2.2.1 (w1.2.2.1.modify j (fun s => sgFl s false))
      rw [modify_set _ hj, ← q1]
      exact Offs.set hj
theorem foldh_o : ∀ (as : List An) (w : Wd), Offs w.2.2.1 (as.foldl (hear1 π) w).2.2.1 ∧ (as.foldl (hear1 π) w).2.2.2 = w.2.2.2 ∧ (∀ i, i ≠ 2 → i ≠ 3 → (as.foldl (hear1 π) w).1 i = w.1 i) ∧ w.1 2 ≤ (as.foldl (hear1 π) w).1 2
  | [], w => ⟨Offs.rf _, rfl, fun _ _ _ => rfl, Nat.le_refl _⟩
  | a :: as, w => by
    obtain ⟨a1, a2, a3, a4⟩ := hear1_o (π := π) a w
    obtain ⟨b1, b2, b3, b4⟩ := foldh_o as (hear1 π w a)
    rw [List.foldl_cons]
    exact ⟨a1.tr b1, b2.trans a2, fun i h2 h3 => (b3 i h2 h3).trans (a3 i h2 h3), Nat.le_trans a4 b4⟩
theorem filt_cnt {α : Type} (P Q : α → Bool) : ∀ l : List α, l.countP Q = (l.filter P).countP Q + (l.filter (fun x => !P x)).countP Q
  | [] => rfl
  | x :: l => by
    have := filt_cnt P Q l
    rw [List.countP_cons, List.filter_cons, List.filter_cons]
    cases P x <;> simp [List.countP_cons] <;> omega
def dueA (T : Nat) (a : An) : Bool := a.2.2.2.2.1 == T
theorem hear_free (hW : WI π k t c h w) {a : An} {n : Nat} (ha : a ∈ w.2.2.2.2.1) (hd : dueA (w.1 0) a = true) (hn : a.2.1 = some n) : ∀ x ∈ net (wan w (w.2.2.2.2.1.filter (fun a => !dueA (w.1 0) a))) a.1, x.1 ≠ n := by
  obtain ⟨g1, -, -⟩ := hW.2.2.2.2.2.2.1 a.1
  have h1 := (nd_cnt _).mp g1 n
  intro x hx e
  have h2 : 0 < (net (wan w (w.2.2.2.2.1.filter (fun a => !dueA (w.1 0) a))) a.1).countP (fun x => x.1 == n) := List.countP_pos_iff.mpr ⟨x, hx, by simpa using e⟩
  unfold net at h1 h2
  rw [List.countP_append, netA_cnt] at h1 h2
  rw [filt_cnt (dueA (w.1 0))] at h1
  obtain ⟨Q, hQ⟩ : ∃ Q : An → Bool, Q = (fun b => b.1 == a.1 && (match b.2.1 with
    | some j => (j, b.2.2.2.2.2).1 == n
    | none => false)) := ⟨_, rfl⟩
  have h3 : 0 < (w.2.2.2.2.1.filter (dueA (w.1 0))).countP Q := List.countP_pos_iff.mpr ⟨a, List.mem_filter.mpr ⟨ha, hd⟩, by rw [hQ]; dsimp only; rw [hn]; simp⟩
  replace h1 : (netG a.1 w.2.2.1).countP (fun x => x.1 == n) + ((w.2.2.2.2.1.filter (dueA (w.1 0))).countP Q + (w.2.2.2.2.1.filter (fun a => !dueA (w.1 0) a)).countP Q) ≤ 1 := by rw [hQ]; exact h1
  replace h2 : 0 < (netG a.1 w.2.2.1).countP (fun x => x.1 == n) + (w.2.2.2.2.1.filter (fun a => !dueA (w.1 0) a)).countP Q := by rw [hQ]; exact h2
  omega
/-- what holds while the answers of a tick are heard -/
def HI (π : Pl) (k t : Nat) (c : Nat → Nat) (h : Nat) (w w1 : Wd) : Prop := WI π k t c h (wan w1 (w.2.2.2.2.1.filter (fun a => !dueA (w.1 0) a))) ∧ w1.1 0 = w.1 0 ∧ w1.2.2.2.2.1 = w.2.2.2.2.1 ∧ Offs w.2.2.1 w1.2.2.1
theorem HI.st (hW : WI π k t c h w) : HI π k t c h w w := ⟨hW.suba List.filter_sublist, rfl, rfl, Offs.rf _⟩
theorem HI.nx {w1 : Wd} {a : An} (hW : WI π k t c h w) (hI : HI π k t c h w w1) (ha : a ∈ w.2.2.2.2.1) (hd : a.2.2.2.2.1 = w.1 0) : HI π k t c h w (hear1 π w1 a) := by
  obtain ⟨i1, i2, i3, i4⟩ := hI
  obtain ⟨o1, o2, o3, -⟩ := hear1_o (π := π) a w1
  obtain ⟨-, -, f3, f4, -⟩ := hW.2.2.2.2.2.1 a ha
  have hd2 : dueA (w.1 0) a = true := by unfold dueA; rw [hd]; simp
  refine ⟨?_, (o3 0 (by decide) (by decide)).trans i2, ?_, i4.tr o1⟩
  · rw [← hear1_an]
    refine i1.hear f3 f4 (fun n hn x hx => hear_free hW ha hd2 hn x ?_)
    have : net (wan w1 (w.2.2.2.2.1.filter (fun a => !dueA (w.1 0) a))) a.1 = net (wan w (w.2.2.2.2.1.filter (fun a => !dueA (w.1 0) a))) a.1 := by
      unfold net
      rw [show netG a.1 (wan w1 (w.2.2.2.2.1.filter (fun a => !dueA (w.1 0) a))).2.2.1 = netG a.1 (wan w (w.2.2.2.2.1.filter (fun a => !dueA (w.1 0) a))).2.2.1 from i4.nG]
      rfl
    rw [this] at hx
    exact hx
  · show (hear1 π w1 a).2.2.2.2.1 = _
    rw [o2]
    exact i3
theorem HI.wn {w1 : Wd} (hW : WI π k t c h w) (hπ : πOK π) (hk : k ≤ 499000) (hI : HI π k t c h w w1) : wN w1 ∧ w1.1 0 = w.1 0 ∧ ∀ s ∈ w1.2.2.1, s.2.2.2.2.2.2.1 = true → 0 < allS π w1 := by
  obtain ⟨i1, i2, i3, i4⟩ := hI
  obtain ⟨n1, n2, n3, -⟩ := i1.wN hπ hk
  obtain ⟨-, -, -, n4⟩ := hW.wN hπ hk
  exact ⟨⟨n1, n2, n3, by rw [i3]; exact n4⟩, i2, i1.all⟩
theorem WI.hears (hW : WI π k t c h w) : WI π k t c h (hearS π w) ∧ (∀ a ∈ (hearS π w).2.2.2.2.1, a ∈ w.2.2.2.2.1 ∧ a.2.2.2.2.1 ≠ w.1 0) ∧ Offs w.2.2.1 (hearS π w).2.2.1 ∧ (∀ i, i ≠ 2 → i ≠ 3 → (hearS π w).1 i = w.1 i) ∧ w.1 2 ≤ (hearS π w).1 2 ∧ (hearS π w).2.2.2.1 = w.2.2.2.1.filter (ndS (hearS π w)) ∧ (hearS π w).2.2.2.2.2 = w.2.2.2.2.2 := by
  have key : ∀ (as : List An) (w1 : Wd), (∀ a ∈ as, a ∈ w.2.2.2.2.1 ∧ dueA (w.1 0) a = true) → HI π k t c h w w1 → HI π k t c h w (as.foldl (hear1 π) w1) := by
    intro as
    induction as with
    | nil => intro w1 _ hI; exact hI
    | cons a as ih =>
      intro w1 ha hI
      rw [List.foldl_cons]
      have := ha a (List.mem_cons_self ..)
      exact ih _ (fun b hb => ha b (List.mem_cons_of_mem _ hb)) (hI.nx hW this.1 (by simpa [dueA] using this.2))
  have h1 := key (w.2.2.2.2.1.filter (dueA (w.1 0))) w (fun a ha => List.mem_filter.mp ha) (HI.st hW)
  obtain ⟨f1, f2, f3, f4⟩ := foldh_o (π := π) (w.2.2.2.2.1.filter (dueA (w.1 0))) w
  have eh : hearS π w = pcF (wan ((w.2.2.2.2.1.filter (dueA (w.1 0))).foldl (hear1 π) w) (w.2.2.2.2.1.filter (fun a => !dueA (w.1 0) a))) := by
    show pcF ((w.2.2.2.2.1.filter (dueA (w.1 0))).foldl (hear1 π) (wan w (w.2.2.2.2.1.filter (fun a => !dueA (w.1 0) a)))) = _
    rw [foldl_hear1_an]
  generalize (w.2.2.2.2.1.filter (dueA (w.1 0))).foldl (hear1 π) w = w1 at h1 f1 f2 f3 f4 eh
  rw [eh]
  refine ⟨h1.1.cg (fun _ _ => rfl) rfl rfl rfl, fun a ha => ?_, f1, f3, f4, ?_, ?_⟩
  · obtain ⟨q1, q2⟩ := List.mem_filter.mp (show a ∈ w.2.2.2.2.1.filter (fun a => !dueA (w.1 0) a) from ha)
    exact ⟨q1, by simpa [dueA] using q2⟩
  · show w1.2.2.2.1.filter _ = _
    rw [show w1.2.2.2.1 = w.2.2.2.1 by rw [f2]]
    rfl
  · show w1.2.2.2.2.2 = _
    rw [f2]
theorem Offs.flyA : ∀ {l l' : List Sg}, Offs l l' → l'.countP (fun s => s.2.2.2.2.2.2.1) ≤ l.countP (fun s => s.2.2.2.2.2.2.1)
  | [], [], _ => Nat.le_refl _
  | s :: l, s' :: l', h => by
    have ih := Offs.flyA h.2.2
    have h1 := h.2.1
    rw [List.countP_cons, List.countP_cons]
    cases hz : s'.2.2.2.2.2.2.1 with
    | false => simp; omega
    | true => rw [h1 hz]; omega
  | [], _ :: _, h => h.elim
  | _ :: _, [], h => h.elim
theorem PI.hears (hW : WI π k t c h w) (hP : PI π w m) : PI π (hearS π w) m := by
  obtain ⟨-, -, h3, -, h5, h6, -⟩ := hW.hears
  obtain ⟨p1, p2, p3⟩ := hP
  refine ⟨p1, ?_, Nat.le_trans (Nat.add_le_add_left h3.flyA _) p3⟩
  rw [h6, ← p2, List.filter_filter]
  congr 1
  funext q
  unfold ndS
  rw [Bool.eq_iff_iff]
  simp only [Bool.and_eq_true, decide_eq_true_eq]
  omega
end P7
