/-! what holds of every world stays: arrivals and answers -/
section P6
variable {π : Pl} {k t h win : Nat} {c : Nat → Nat} {w : Wd} {m : List (Nat × Nat)} {dl : Nat → Nat}
theorem nd_cnt : ∀ l : List (Nat × Nat), (l.map (fun x => x.1)).Nodup ↔ ∀ n, l.countP (fun x => x.1 == n) ≤ 1
  | [] => by simp
  | x :: l => by
    rw [List.map_cons, List.nodup_cons, nd_cnt l]
    constructor
    · intro ⟨h1, h2⟩ n
      rw [List.countP_cons]
      by_cases e : x.1 = n
      · have : l.countP (fun x => x.1 == n) = 0 := by
          rw [List.countP_eq_zero]
          intro y hy hz
          exact h1 (List.mem_map.mpr ⟨y, hy, by rw [e]; exact beq_iff_eq.mp hz⟩)
        rw [this]
        split <;> omega
      · have := h2 n
        simp [e]
        exact this
    · intro hz
      refine ⟨fun hm => ?_, fun n => ?_⟩
      · obtain ⟨y, hy, e⟩ := List.mem_map.mp hm
        have h1 := hz x.1
        rw [List.countP_cons] at h1
        have h2 : 0 < l.countP (fun y => y.1 == x.1) := List.countP_pos_iff.mpr ⟨y, hy, by simpa using e⟩
        rw [if_pos (by simp)] at h1
        omega
      · have := hz n
        rw [List.countP_cons] at this
        omega
theorem cnt_add {α : Type} {P Q R : α → Bool} : ∀ l : List α, (∀ x ∈ l, P x = true → R x = true) → (∀ x ∈ l, Q x = true → R x = true ∧ P x = false) → l.countP P + l.countP Q ≤ l.countP R
  | [], _, _ => Nat.le_refl _
  | x :: l, h1, h2 => by
    have ih := cnt_add l (fun y hy => h1 y (List.mem_cons_of_mem _ hy)) (fun y hy => h2 y (List.mem_cons_of_mem _ hy))
    have a1 := h1 x (List.mem_cons_self ..)
    have a2 := h2 x (List.mem_cons_self ..)
    simp only [List.countP_cons]
    cases hp : P x <;> cases hq : Q x <;> cases hr : R x <;> simp_all <;> omega
def updS (T : Nat) (s : Sg) : Sg := if due T s then sgAr s none else s
def ansS (lk ed T : Nat) (dl : Nat → Nat) (s : Sg) : An := (s.1, some s.2.1, lk, ed, T + dl s.1, s.2.2.2.2.1)
theorem updS_f (T : Nat) (s : Sg) : (updS T s).1 = s.1 ∧ (updS T s).2.1 = s.2.1 ∧ (updS T s).2.2.1 = s.2.2.1 ∧ (updS T s).2.2.2.1 = s.2.2.2.1 ∧ (updS T s).2.2.2.2.1 = s.2.2.2.2.1 ∧ (updS T s).2.2.2.2.2.2 = s.2.2.2.2.2.2 := by
  unfold updS
  split <;> exact ⟨rfl, rfl, rfl, rfl, rfl, rfl⟩
theorem netA_cnt {p : Nat} (P : Nat × Nat → Bool) : ∀ l : List An, (netA p l).countP P = l.countP (fun a => a.1 == p && (match a.2.1 with
    | some n => P (n, a.2.2.2.2.2)
    | none => false))
  | [] => rfl
  | a :: l => by
    have ih := netA_cnt (p := p) P l
    unfold netA at ih ⊢
    rw [List.filterMap_cons, List.countP_cons]
    by_cases e : a.1 = p
    · rw [if_pos e]
      cases ha : a.2.1 with
      | none => simpa using ih
      | some n =>
        simp only [Option.map_some]
        rw [List.countP_cons, ih, e]
        simp
    · rw [if_neg e]
      simpa [e] using ih
theorem WI.arr {w' : Wd} {lk ed : Nat} {nn : List An} (hW : WI π k (w.1 0) c h w) (hA1 : ∀ a ∈ w.2.2.2.2.1, w.1 0 + 1 ≤ a.2.2.2.2.1) (hh : h ≤ w.1 0) (hdl : ∀ p, p < π.1 6 → 1 ≤ dl p ∧ dl p ≤ 9) (hlk : lk ≤ π.1 1) (hed : ed ≤ 400)
    (e1 : ∀ i, i < 4 → w'.1 i = w.1 i) (e4 : w'.1 4 ≤ π.1 1) (e2 : w'.2.1 = w.2.1) (es : w'.2.2.1 = w.2.2.1.map (updS (w.1 0))) (ea : w'.2.2.2.2.1 = w.2.2.2.2.1 ++ (rsL (w.1 0) w.2.2.1).map (ansS lk ed (w.1 0) dl) ++ nn) (hnn : nn = [] ∨ ∃ p, p < π.1 6 ∧ nn = [(p, none, lk, ed, w.1 0 + dl p, w.1 0)]) : WI π k (w.1 0 + 1) c (w.1 0 + 1) w' := by
  obtain ⟨⟨a0, a1, a2, a3, a4⟩, hB, hC, hD, hE, hF, hG, hH⟩ := hW
  have hdue : ∀ s, due (w.1 0) s = true → s.2.2.2.2.2.1 = some (w.1 0) := fun s hz => beq_iff_eq.mp hz
  have hrs : ∀ s ∈ rsL (w.1 0) w.2.2.1, s ∈ w.2.2.1 ∧ due (w.1 0) s = true := fun s hs => by
    obtain ⟨q1, q2⟩ := List.mem_filter.mp hs
    simp only [Bool.and_eq_true] at q2
    exact ⟨q1, q2.1⟩
  have hnnm : ∀ a ∈ nn, a.2.1 = none := fun a ha => by
    rcases hnn with e | ⟨p, -, e⟩
    · rw [e] at ha; cases ha
    · rw [e] at ha; rw [List.mem_singleton.mp ha]
  have hcnt : ∀ (P : Nat × Nat → Bool) p, (net w' p).countP P ≤ (net w p).countP P := by
    intro P p
    unfold net
    rw [List.countP_append, List.countP_append, netA_cnt, netA_cnt, ea, List.countP_append, List.countP_append]
    have z1 : nn.countP (fun a => a.1 == p && (match a.2.1 with
      | some n => P (n, a.2.2.2.2.2)
      | none => false)) = 0 := by
      rw [List.countP_eq_zero]
      intro a ha hz
      rw [hnnm a ha] at hz
      simp at hz
    rw [z1, List.countP_map]
    unfold netG rsL
    rw [es, List.countP_map, List.countP_map, List.countP_filter, List.countP_filter, List.countP_filter, List.countP_map]
    have key := cnt_add (P := fun s : Sg => ((P ∘ fun s : Sg => (s.2.1, s.2.2.2.2.1)) ∘ updS (w.1 0)) s && ((fun s : Sg => s.1 == p && s.2.2.2.2.2.1.isSome) ∘ updS (w.1 0)) s) (Q := fun s : Sg => (s.1 == p && P (s.2.1, s.2.2.2.2.1)) && (due (w.1 0) s && !s.2.2.2.2.2.2.2)) (R := fun s : Sg => (P ∘ fun s : Sg => (s.2.1, s.2.2.2.2.1)) s && (s.1 == p && s.2.2.2.2.2.1.isSome)) w.2.2.1 (fun s _ hz => by
        obtain ⟨u1, u2, -, -, u5, -⟩ := updS_f (w.1 0) s
        simp only [Function.comp, Bool.and_eq_true] at hz ⊢
        rw [u1, u2, u5] at hz
        refine ⟨hz.1, hz.2.1, ?_⟩
        have := hz.2.2
        unfold updS at this
        split at this
        · cases this
        · exact this) (fun s _ hz => by
        simp only [Function.comp, Bool.and_eq_true] at hz ⊢
        refine ⟨⟨hz.1.2, hz.1.1, by rw [hdue s hz.2.1]; rfl⟩, ?_⟩
        have : (updS (w.1 0) s).2.2.2.2.2.1 = none := by
          unfold updS
          rw [if_pos hz.2.1]
          rfl
        rw [this]
        simp)
    simp only [Function.comp, ansS] at key ⊢
    have e8 : w.2.2.1.countP ((fun a : Sg => P (a.2.1, a.2.2.2.2.1) && (a.1 == p && a.2.2.2.2.2.1.isSome)) ∘ updS (w.1 0)) = w.2.2.1.countP (fun s : Sg => P ((updS (w.1 0) s).2.1, (updS (w.1 0) s).2.2.2.2.1) && ((updS (w.1 0) s).1 == p && (updS (w.1 0) s).2.2.2.2.2.1.isSome)) := rfl
    rw [e8]
    omega
  have halv : ∀ p n, alv w'.2.2.1 p n = alv w.2.2.1 p n := fun p n => by
    unfold alv
    rw [es, List.any_map]
    congr 1
    funext s
    obtain ⟨u1, u2, -, -, -, u6⟩ := updS_f (w.1 0) s
    simp only [Function.comp]
    rw [u1, u2, u6]
  have hfre : ∀ q, freS w' q = freS w q := fun q => by unfold freS; rw [e2]
  refine ⟨⟨by rw [e1 0 (by decide)]; exact a0, by rw [e1 1 (by decide)]; exact a1, by rw [e1 2 (by decide)]; exact a2, by rw [e1 3 (by decide)]; exact a3, e4⟩, fun p => ?_, fun y hy => ?_, fun p => ?_, ?_, fun a ha => ?_, fun p => ?_, fun s0 => ?_⟩
  · have := hB p
    unfold pB at this ⊢
    rw [e2]
    exact this
  · rw [es] at hy
    obtain ⟨s, hs, ey⟩ := List.mem_map.mp hy
    obtain ⟨q1, q2, q3, q4, q5, q6, q7⟩ := hC s hs
    obtain ⟨u1, u2, u3, u4, u5, u6⟩ := updS_f (w.1 0) s
    rw [← ey]
    refine ⟨by rw [u1]; exact q1, by rw [u2, u1, e2]; exact q2, by rw [u4]; exact q3, by rw [u3, u4]; exact q4, by rw [u5, e1 0 (by decide)]; exact q5, fun a haa => ?_, fun hf => ?_⟩
    · by_cases hd : due (w.1 0) s = true
      · unfold updS at haa
        rw [if_pos hd] at haa
        cases haa
      · unfold updS at haa
        rw [if_neg hd] at haa
        have := q6 a haa
        have hne : a ≠ w.1 0 := fun z => hd (by unfold due; rw [haa, z]; simp)
        rw [u5]
        omega
    · rw [u6] at hf
      rw [hfre, u1]
      exact q7 hf
  · have := hD p
    unfold flyS at this ⊢
    rw [es, List.countP_map]
    have e : ((fun s : Sg => s.2.2.2.2.2.2.1 && s.1 == p) ∘ updS (w.1 0)) = (fun s => s.2.2.2.2.2.2.1 && s.1 == p) := by
      funext s
      obtain ⟨u1, -, -, -, -, u6⟩ := updS_f (w.1 0) s
      simp only [Function.comp]
      rw [u1, u6]
    rw [e]
    exact this
  · rw [es, List.pairwise_map]
    refine hE.imp (fun {x y} hxy => ?_)
    obtain ⟨u1, u2, -⟩ := updS_f (w.1 0) x
    obtain ⟨v1, v2, -⟩ := updS_f (w.1 0) y
    rw [u1, u2, v1, v2]
    exact hxy
  · rw [ea] at ha
    rcases List.mem_append.mp ha with ha | ha
    · rcases List.mem_append.mp ha with ha | ha
      · obtain ⟨q1, q2, q3, q4, q5, q6, q7⟩ := hF a ha
        exact ⟨q1, fun n hn => by rw [e2]; exact q2 n hn, q3, q4, ⟨hA1 a ha, q5.2⟩, q6, by rw [e1 0 (by decide)]; exact q7⟩
      · obtain ⟨s, hs, e⟩ := List.mem_map.mp ha
        obtain ⟨hs1, hs2⟩ := hrs s hs
        obtain ⟨q1, q2, q3, q4, q5, q6, q7⟩ := hC s hs1
        have h6 := q6 _ (hdue s hs2)
        have hd9 := hdl s.1 q1
        rw [← e]
        refine ⟨q1, fun n hn => ?_, hlk, hed, ⟨?_, ?_⟩, fun z => (by cases z), ?_⟩
        · cases hn
          rw [e2]
          exact q2
        · show w.1 0 + 1 ≤ w.1 0 + dl s.1
          omega
        · show w.1 0 + dl s.1 ≤ s.2.2.2.2.1 + 18
          omega
        · show s.2.2.2.2.1 ≤ w'.1 0
          rw [e1 0 (by decide)]
          exact q5
    · rcases hnn with e | ⟨p, hp, e⟩
      · rw [e] at ha; cases ha
      · rw [e] at ha
        have hd9 := hdl p hp
        rw [List.mem_singleton.mp ha]
        refine ⟨hp, fun n hn => (by cases hn), hlk, hed, ⟨?_, ?_⟩, fun _ => ?_, ?_⟩
        · show w.1 0 + 1 ≤ w.1 0 + dl p
          omega
        · show w.1 0 + dl p ≤ w.1 0 + 18
          omega
        · show w.1 0 + dl p ≤ w.1 0 + 9
          omega
        · show w.1 0 ≤ w'.1 0
          rw [e1 0 (by decide)]
          exact Nat.le_refl _
  · obtain ⟨g1, g2, g3⟩ := hG p
    unfold pG
    rw [e2]
    refine ⟨(nd_cnt _).mpr (fun n => Nat.le_trans (hcnt _ p) ((nd_cnt _).mp g1 n)), fun z s0 => ?_, fun z => ?_⟩
    · have e : (fun x : Nat × Nat => decide (s0 ≤ x.2) && !alv w'.2.2.1 p x.1) = (fun x => decide (s0 ≤ x.2) && !alv w.2.2.1 p x.1) := by
        funext x
        rw [halv]
      rw [e]
      exact Nat.le_trans (hcnt _ p) (g2 z s0)
    · have := hcnt (fun _ => true) p
      rw [List.countP_true] at this
      exact Nat.le_trans this (g3 z)
  · have h1 := hH s0
    rw [ea, List.countP_append, List.countP_append, List.countP_map]
    have z1 : (rsL (w.1 0) w.2.2.1).countP ((fun a : An => a.2.1.isNone && decide (s0 ≤ a.2.2.2.2.2)) ∘ ansS lk ed (w.1 0) dl) = 0 := by
      rw [List.countP_eq_zero]
      intro s _ hz
      simp [ansS] at hz
    rw [z1]
    rcases hnn with e | ⟨p, hp, e⟩
    · rw [e, List.countP_nil]; omega
    · rw [e, List.countP_singleton]
      by_cases hs0 : s0 ≤ w.1 0
      · split <;> omega
      · rw [if_neg (by simp; omega)]
        omega
end P6
