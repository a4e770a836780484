/-! the class is made -/
def cutx {α : Type} (f : Nat → Nat → α) (n : Nat) (z : α) : Nat → Nat → α := fun a b => if n ≤ a then z else f a b
def RO : List (Nat × Nat × Nat) := [(0, 15, 106), (106, 0, 107), (106, 1, 108), (106, 2, 109), (106, 3, 110), (106, 4, 111), (106, 5, 112), (106, 6, 113), (106, 7, 114), (106, 8, 115), (106, 9, 116), (0, 13, 105), (0, 10, 104), (0, 9, 72), (73, 3, 103), (73, 2, 102), (73, 1, 101), (73, 0, 100), (72, 7, 4), (72, 6, 99), (72, 5, 95), (95, 2, 98), (95, 1, 97), (95, 0, 96), (72, 4, 92), (92, 1, 94), (92, 0, 93), (72, 3, 86), (86, 4, 91), (86, 3, 90), (86, 2, 89), (86, 1, 88), (86, 0, 87), (72, 2, 77), (77, 7, 85), (77, 6, 84), (77, 5, 83), (77, 4, 82), (77, 3, 81), (77, 2, 80), (77, 1, 79), (77, 0, 78), (72, 1, 74), (74, 1, 76), (74, 0, 75), (72, 0, 73), (0, 8, 40), (41, 3, 71), (41, 2, 70), (41, 1, 69), (41, 0, 68), (40, 7, 4), (40, 6, 67), (40, 5, 63), (63, 2, 66), (63, 1, 65), (63, 0, 64), (40, 4, 60), (60, 1, 62), (60, 0, 61), (40, 3, 54), (54, 4, 59), (54, 3, 58), (54, 2, 57), (54, 1, 56), (54, 0, 55), (40, 2, 45), (45, 7, 53), (45, 6, 52), (45, 5, 51), (45, 4, 50), (45, 3, 49), (45, 2, 48), (45, 1, 47), (45, 0, 46), (40, 1, 42), (42, 1, 44), (42, 0, 43), (40, 0, 41), (0, 7, 38), (38, 7, 26), (38, 6, 21), (38, 3, 1), (38, 0, 39), (0, 6, 21), (21, 14, 35), (35, 1, 37), (35, 0, 36), (21, 13, 32), (32, 1, 34), (32, 0, 33), (21, 12, 29), (29, 1, 31), (29, 0, 30), (21, 11, 26), (26, 1, 28), (26, 0, 27), (21, 10, 25), (21, 9, 24), (21, 8, 23), (21, 7, 22), (0, 5, 4), (4, 14, 18), (18, 1, 20), (18, 0, 19), (4, 13, 15), (15, 1, 17), (15, 0, 16), (4, 12, 12), (12, 1, 14), (12, 0, 13), (4, 11, 9), (9, 1, 11), (9, 0, 10), (4, 10, 8), (4, 9, 7), (4, 8, 6), (4, 7, 5), (0, 3, 3), (0, 2, 2), (0, 0, 1)]
def RWA (x : Nat) : List (Nat × Nat × Nat) := [(106, 0, x + 107), (106, 1, x + 108), (106, 2, x + 109), (106, 3, x + 110), (106, 4, x + 111), (106, 5, x + 112), (106, 6, x + 113), (106, 7, x + 114), (106, 8, x + 115), (106, 9, x + 116)]
def NA1 : List (Nat × Nat) := NA0 ++ ((26, 10) :: List.replicate 10 (20, 122))
theorem RO_eq {x : Nat} : (0, 15, x + 106) :: (RWA x ++ RA0 x) = RO.map (fun e => (e.1, e.2.1, x + e.2.2)) := rfl
theorem IA0_lt : ∀ e ∈ IA0, e.1 < 106 := by decide +kernel
theorem s_ii : "[" ++ (FieldType.array FieldType.int).toString = "[[I" := by decide +kernel
set_option maxRecDepth 30000 in
theorem mlA61 : Cond.classLink RX11 61 ("[" ++ (FieldType.array FieldType.int).toString) ∈ lw_good := by
  rw [s_ii]
  exact gw 524 rfl rfl
section AMK
variable {l : Launch} {G : Gx} {d : Nat} {sh : Sh} {f : FI} {g : FL} {fR : FRt} {x : Nat}
theorem IA0_no {j k : Nat} (hj : 106 ≤ j) : fnI IA0 j k = none := by
  unfold fnI
  rw [List.find?_eq_none]
  intro e he
  have := IA0_lt e he
  simp
  intro z
  omega
theorem RA0_lt : ∀ e ∈ RA0 x, e.1 < 106 := by
  intro e he
  have h2 : RA0 x = (RO.drop 11).map (fun e => (e.1, e.2.1, x + e.2.2)) := rfl
  rw [h2] at he
  obtain ⟨a, ha, rfl⟩ := List.mem_map.mp he
  exact (by decide +kernel : ∀ a ∈ RO.drop 11, a.1 < 106) a ha
theorem nwm_A (hx : sh.length = x) : nwm (gi sh f g fR x NA0 (RA0 x) IA0 []) 10 122 = gi sh (cutx f (x + 117) 0) (cutx g (x + 117) 0) (cutx fR (x + 117) none) x NA1 (RWA x ++ RA0 x) IA0 [] := by
  have hl : (sh ++ NA0).length = x + 106 := by rw [List.length_append, hx]; rfl
  refine Prod.ext ?_ (Prod.ext ?_ (Prod.ext ?_ ?_))
  · show sh ++ NA0 ++ _ = sh ++ (NA0 ++ _)
    rw [List.append_assoc]
  · funext a b
    show (if (sh ++ NA0).length ≤ a then 0 else fi f 0 x 106 IA0 a b) = fi (cutx f (x + 117) 0) 0 x 117 IA0 a b
    rw [hl]
    unfold fi cutx
    by_cases h1 : a < x
    · rw [if_neg (by omega), if_neg (by omega), if_neg (by omega), if_neg (by omega)]
    · by_cases h2 : a < x + 106
      · rw [if_neg (by omega), if_pos ⟨by omega, by omega⟩, if_pos ⟨by omega, by omega⟩]
      · rw [if_pos (by omega)]
        by_cases h3 : a < x + 117
        · rw [if_pos ⟨by omega, by omega⟩, IA0_no (by omega)]; rfl
        · rw [if_neg (by omega), if_pos (by omega)]
  · funext a b
    show (if (sh ++ NA0).length ≤ a then 0 else fi g 0 x 106 [] a b) = fi (cutx g (x + 117) 0) 0 x 117 [] a b
    rw [hl]
    unfold fi cutx
    by_cases h1 : a < x
    · rw [if_neg (by omega), if_neg (by omega), if_neg (by omega), if_neg (by omega)]
    · by_cases h2 : a < x + 106
      · rw [if_neg (by omega), if_pos ⟨by omega, by omega⟩, if_pos ⟨by omega, by omega⟩]
      · rw [if_pos (by omega)]
        by_cases h3 : a < x + 117
        · rw [if_pos ⟨by omega, by omega⟩]; rfl
        · rw [if_neg (by omega), if_pos (by omega)]
  · funext a b
    show (if a = (sh ++ NA0).length then (if b < 10 then some ((sh ++ NA0).length + 1 + b) else none) else if (sh ++ NA0).length ≤ a then none else rf fR x 106 (RA0 x) a b) = rf (cutx fR (x + 117) none) x 117 (RWA x ++ RA0 x) a b
    rw [hl]
    have fa : ∀ i k, fnd (RWA x ++ RA0 x) i k = (fnd (RWA x) i k).or (fnd (RA0 x) i k) := fun i k => by unfold fnd; rw [List.find?_append]
    have fw : ∀ i k, i ≠ 106 → fnd (RWA x) i k = none := fun i k hi => by
      unfold fnd
      rw [List.find?_eq_none]
      intro e he
      have : e.1 = 106 := by
        unfold RWA at he
        simp only [List.mem_cons, List.not_mem_nil, or_false] at he
        rcases he with rfl | rfl | rfl | rfl | rfl | rfl | rfl | rfl | rfl | rfl <;> rfl
      simp
      intro z
      omega
    have f0 : ∀ i k, 106 ≤ i → fnd (RA0 x) i k = none := fun i k hi => by
      unfold fnd
      rw [List.find?_eq_none]
      intro e he
      have := RA0_lt e he
      simp
      intro z
      omega
    unfold rf cutx
    by_cases h1 : a < x
    · rw [if_neg (by omega), if_neg (by omega), if_neg (by omega), if_neg (by omega), if_neg (by omega)]
    · by_cases h2 : a < x + 106
      · rw [if_neg (by omega), if_neg (by omega), if_pos ⟨by omega, by omega⟩, if_pos ⟨by omega, by omega⟩, fa, fw _ _ (by omega)]; rfl
      · by_cases h3 : a = x + 106
        · rw [if_pos h3, if_pos (show x ≤ a ∧ a < x + 117 by omega), fa, f0 _ _ (by omega), show a - x = 106 by omega]
          by_cases hb : b < 10
          · rw [if_pos hb]
            rcases (show b = 0 ∨ b = 1 ∨ b = 2 ∨ b = 3 ∨ b = 4 ∨ b = 5 ∨ b = 6 ∨ b = 7 ∨ b = 8 ∨ b = 9 by omega) with rfl | rfl | rfl | rfl | rfl | rfl | rfl | rfl | rfl | rfl <;> rfl
          · rw [if_neg hb]
            have : fnd (RWA x) 106 b = none := by
              unfold fnd
              rw [List.find?_eq_none]
              intro e he
              have : e.2.1 < 10 := by
                unfold RWA at he
                simp only [List.mem_cons, List.not_mem_nil, or_false] at he
                rcases he with rfl | rfl | rfl | rfl | rfl | rfl | rfl | rfl | rfl | rfl <;> (dsimp only; omega)
              simp
              intro z
              omega
            rw [this]; rfl
        · rw [if_neg h3, if_pos (by omega)]
          by_cases h4 : a < x + 117
          · rw [if_pos ⟨by omega, by omega⟩, fa, f0 _ _ (by omega), fw _ _ (by omega)]; rfl
          · rw [if_neg (by omega), if_pos (by omega)]
def fA (f : FI) (x : Nat) : FI := fi (cutx f (x + 117) 0) 0 x 117 IA0
def gA (g : FL) (x : Nat) : FL := fi (cutx g (x + 117) 0) 0 x 117 []
def rA (fR : FRt) (x : Nat) : FRt := rf (cutx fR (x + 117) none) x 117 (RO.map (fun e => (e.1, e.2.1, x + e.2.2)))
theorem I_A (hx : sh.length = x) (hx0 : 0 < x) : Cl l G (d + 5) 116 32793 mX11_init [.ref (x + 0)] (gi sh f g fR x [(11, 16)] [] [] []) (fun r h => r = none ∧ h = (sh ++ NA1, fA f x, gA g x, rA fR x)) := by
  have h9 := I_X9 (l := l) (G := G) (d := d) (sh := sh) (f := f) (g := g) (fR := fR) hx hx0
  rw [IL29] at h9
  refine I_X11 (d := d + 2) hx hx0 h9 ?_
  refine S_mna (pc := 125) (N := 10) (K := 122) (kc := 0) (ks := 0) dX11_init_125 mlA61 (gw 39 rfl rfl) (by decide) (by decide) (by decide) (by decide) (by decide) (by decide) (by decide) ?_
  have hl : (gi sh f g fR x NA0 (RA0 x) IA0 []).1.length = x + 106 := by
    show (sh ++ NA0).length = _
    rw [List.length_append, hx]; rfl
  rw [hl, nwm_A hx]
  refine I_putR (pc := 129) (i := 0) dX11_init_129 flX11_63 hx hx0 rfl (ff_11_15 rfl rfl) (fun _ => rfl) (fun _ => rfl) (fun _ => rfl) ?_
  refine S_vreturn (R := rmd (d + 2 + 3) 116 32793) (pc := 132) dX11_init_132 rfl ⟨rfl, ?_⟩
  rw [RO_eq]
  rfl
end AMK
theorem fnd_off {x i k : Nat} {L : List (Nat × Nat × Nat)} : (fnd (L.map (fun e => (e.1, e.2.1, x + e.2.2))) i k).map (fun e => e.2.2) = (fnd L i k).map (fun e => x + e.2.2) := by
  unfold fnd
  rw [List.find?_map, Option.map_map]
  rfl
section AMD
variable {sh sh' : Sh} {f f' : FI} {g : FL} {fR fR' : FRt} {A : Nat}
/-- the class as it is made, once the reference stands behind it -/
theorem P_made (hx : sh.length = A) (hx0 : 0 < A) (hsh : ∀ i q, NA1[i]? = some q → sh'[A + i]? = some q) (hlen : A + 155 ≤ sh'.length) (hf : ∀ i k, i < 117 → f' (A + i) k = fA f A (A + i) k) (hR : ∀ i k, i < 117 → fR' (A + i) k = rA fR A (A + i) k) : PSt sh' fR' f' A Z0 := by
  have vR : ∀ i k, i < 117 → fR' (A + i) k = (fnd RO i k).map (fun e => A + e.2.2) := fun i k hi => by
    rw [hR i k hi]
    unfold rA rf
    rw [if_pos ⟨by omega, by omega⟩, Nat.add_sub_cancel_left, fnd_off]
  have vf : ∀ i k, i < 117 → f' (A + i) k = ((fnI IA0 i k).map (fun e => e.2.2)).getD 0 := fun i k hi => by
    rw [hf i k hi]
    unfold fA fi
    rw [if_pos ⟨by omega, by omega⟩, Nat.add_sub_cancel_left]
  have rd : ∀ i k j, i < 117 → (fnd RO i k).map (fun e => e.2.2) = some j → fR' (A + i) k = some (A + j) := fun i k j hi h => by
    rw [vR i k hi]
    cases q : fnd RO i k with
    | none => rw [q] at h; cases h
    | some e => rw [q] at h; cases h; rfl
  have stw : ∀ y, y = 40 ∨ y = 72 → StW sh' fR' (A + y) := fun y hy => by
    refine ⟨fun i z hi => ?_, fun z hz => ?_, by omega⟩
    · have hi2 : i < 32 := (List.getElem?_eq_some_iff.mp hi).1
      rw [Nat.add_assoc]
      refine hsh _ _ ?_
      have : ∀ i, i < 32 → NA1[40 + i]? = wSh[i]? ∧ NA1[72 + i]? = wSh[i]? := by decide +kernel
      rcases hy with rfl | rfl
      · rw [(this i hi2).1]; exact hi
      · rw [(this i hi2).2]; exact hi
    · have : ∀ z ∈ wFR, z.1 < 32 ∧ (fnd RO (40 + z.1) z.2.1).map (fun e => e.2.2) = some (40 + z.2.2) ∧ (fnd RO (72 + z.1) z.2.1).map (fun e => e.2.2) = some (72 + z.2.2) := by decide +kernel
      obtain ⟨t1, t2, t3⟩ := this z hz
      rw [Nat.add_assoc, Nat.add_assoc]
      rcases hy with rfl | rfl
      · exact rd _ _ _ (by omega) t2
      · exact rd _ _ _ (by omega) t3
  have stp : ∀ y, y = 4 ∨ y = 21 → StPl sh' fR' (A + y) := fun y hy => by
    refine ⟨fun i z hi => ?_, fun z hz => ?_, by omega⟩
    · have hi2 : i < 17 := (List.getElem?_eq_some_iff.mp hi).1
      rw [Nat.add_assoc]
      refine hsh _ _ ?_
      have : ∀ i, i < 17 → NA1[4 + i]? = lSh[i]? ∧ NA1[21 + i]? = lSh[i]? := by decide +kernel
      rcases hy with rfl | rfl
      · rw [(this i hi2).1]; exact hi
      · rw [(this i hi2).2]; exact hi
    · have : ∀ z ∈ lFR, z.1 < 17 ∧ (fnd RO (4 + z.1) z.2.1).map (fun e => e.2.2) = some (4 + z.2.2) ∧ (fnd RO (21 + z.1) z.2.1).map (fun e => e.2.2) = some (21 + z.2.2) := by decide +kernel
      obtain ⟨t1, t2, t3⟩ := this z hz
      rw [Nat.add_assoc, Nat.add_assoc]
      rcases hy with rfl | rfl
      · exact rd _ _ _ (by omega) t2
      · exact rd _ _ _ (by omega) t3
  have hA : StA sh' fR' A := by
    refine ⟨fun q hq => hsh _ _ ((by decide +kernel : ∀ q ∈ aSh, NA1[q.1]? = some q.2) q hq), fun q hq => ?_, hx0, stw 40 (Or.inl rfl), stw 72 (Or.inr rfl), stp 4 (Or.inl rfl), stp 21 (Or.inr rfl)⟩
    obtain ⟨t1, t2⟩ := (by decide +kernel : ∀ q ∈ aFR, q.1 < 117 ∧ (fnd RO q.1 q.2.1).map (fun e => e.2.2) = some q.2.2) q hq
    exact rd _ _ _ t1 t2
  have z : ∀ i k v, i < 117 → ((fnI IA0 i k).map (fun e => e.2.2)).getD 0 = v → f' (A + i) k = v := fun i k v hi h => by rw [vf i k hi]; exact h
  refine ⟨A + 4, A + 21, ⟨hA, Or.inl ⟨rfl, rfl⟩, rd 0 5 4 (by decide) rfl, rd 0 6 21 (by decide) rfl, rd 40 7 4 (by decide) rfl, ⟨A + 21, rd 38 6 21 (by decide) rfl, Or.inr rfl⟩, ⟨A + 26, rd 38 7 26 (by decide) rfl, stF5 (stp 21 (Or.inr rfl)), by omega, by omega⟩, hlen, fun k y hk hy => ?_, fun k k' y y' hk _ _ hy => ?_⟩, ⟨z 0 1 _ (by decide) rfl, fun k b hk => (by cases hk)⟩, fun i hi => ?_, z 3 0 _ (by decide) rfl, z 38 1 _ (by decide) rfl, fun k o hk => ?_, z 0 4 _ (by decide) rfl, 0, by decide, z 0 11 _ (by decide) rfl, z 0 12 _ (by decide) rfl, z 0 14 _ (by decide) rfl⟩
  · rw [vR 104 k (by decide)] at hy
    have : fnd RO 104 k = none := by
      unfold fnd
      rw [List.find?_eq_none]
      intro e he
      have := (by decide +kernel : ∀ e ∈ RO, e.1 ≠ 104) e he
      simp
      intro z
      exact absurd z this
    rw [this] at hy; cases hy
  · rw [vR 104 k (by decide)] at hy
    have : fnd RO 104 k = none := by
      unfold fnd
      rw [List.find?_eq_none]
      intro e he
      have := (by decide +kernel : ∀ e ∈ RO, e.1 ≠ 104) e he
      simp
      intro z
      exact absurd z this
    rw [this] at hy; cases hy
  · refine z 2 i _ (by decide) ?_
    have : fnI IA0 2 i = none := by
      unfold fnI
      rw [List.find?_eq_none]
      intro e he
      have := (by decide +kernel : ∀ e ∈ IA0, e.1 ≠ 2) e he
      simp
      intro z
      exact absurd z this
    rw [this]; rfl
  · refine z 39 k _ (by decide) ?_
    have hk2 : k < 29 := (List.getElem?_eq_some_iff.mp hk).1
    have e1 := ow_own hk2
    rw [hk] at e1
    cases e1
    rcases (show k = 0 ∨ k = 1 ∨ k = 2 ∨ k = 3 ∨ k = 4 ∨ k = 5 ∨ k = 6 ∨ k = 7 ∨ k = 8 ∨ k = 9 ∨ k = 10 ∨ k = 11 ∨ k = 12 ∨ k = 13 ∨ k = 14 ∨ k = 15 ∨ k = 16 ∨ k = 17 ∨ k = 18 ∨ k = 19 ∨ k = 20 ∨ k = 21 ∨ k = 22 ∨ k = 23 ∨ k = 24 ∨ k = 25 ∨ k = 26 ∨ k = 27 ∨ k = 28 by omega) with rfl | rfl | rfl | rfl | rfl | rfl | rfl | rfl | rfl | rfl | rfl | rfl | rfl | rfl | rfl | rfl | rfl | rfl | rfl | rfl | rfl | rfl | rfl | rfl | rfl | rfl | rfl | rfl | rfl <;> rfl
end AMD
