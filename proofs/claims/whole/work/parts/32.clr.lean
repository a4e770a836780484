/-! the reference's tick: clearing -/
def stayS (s : Sg) : Bool := s.2.2.2.2.2.2.1 || s.2.2.2.2.2.1.isSome
section C10
variable {l : Launch} {G : Gx} {d : Nat} {sh : Sh} {fR : FRt} {B v b win : Nat} {f : FI} {g : FL} {w : Wd} {m : List (Nat × Nat)} {π : Pl} {dl : Nat → Nat}
theorem C_clears {K : FI → FL → Prop} (hs : StM sh fR B) (hv : v < 22) (hR : RM f B v w m) (hok : ∀ s ∈ w.2.2.1, sOK s) (H : ∀ f' : FI, RM f' B v (clearS w) m → Fr B v f f' → K f' g) : Cl l G (d + 1) 0 0 mX12_clears [.ref B, .int (nI v)] (sh, f, g, fR) (qv sh fR K) := by
  have hal := hR.2.2.1.2.1
  have loop : ∀ (R D : List Sg) (f0 : FI), w.2.2.1 = D ++ R → RM f0 B v (wsg w (D.filter stayS ++ D.drop (D.filter stayS).length ++ R)) m → Fr B v f f0 → LpX12_clears_4 l G d (qv sh fR K) sh fR B f0 g (nI v) (nI (D.filter stayS).length) (nI D.length) := by
    intro R
    induction R with
    | nil =>
      intro D f0 e hR0 hF
      rw [List.append_nil] at e hR0
      generalize hkD : D.filter stayS = kD at hR0 ⊢
      have hkl : kD.length ≤ D.length := by rw [← hkD]; exact List.length_filter_le _ _
      have hL : (kD ++ D.drop kD.length).length = D.length := by rw [List.length_append, List.length_drop]; omega
      have hDl : D.length ≤ 480 := by rw [← e]; exact hal
      obtain ⟨n6, -, hA⟩ := hR0.2.2.1
      replace n6 : f0 (B + 23) (40 * v + 6) = nI (kD ++ D.drop kD.length).length := n6
      replace hA : ∀ (k : Nat) (a : Sg), (kD ++ D.drop kD.length)[k]? = some a → ∀ i, i < 8 → f0 (B + 24) (8 * (480 * v + k) + i) = sE a i := hA
      rw [hL] at n6
      refine VX12_clears_4 hs ?_
      simp (disch := omega) only [pk_mul, nI_add, clN]
      rw [n6]
      refine ⟨inbN (by omega) (by decide), fun _ => ⟨inbN (by omega) (by decide), _, _, rfl, rfl, H _ ?_ (hF.up (by unfold tch; omega))⟩, fun z => absurd (nI_le (Nat.le_refl _) (by omega)) z⟩
      have ef : clearS w = wsg w kD := by
        show wsg w (w.2.2.1.filter stayS) = _
        rw [e, hkD]
      rw [ef]
      refine RM.repg (w := wsg w (kD ++ D.drop kD.length)) (l' := kD) hR0 (fun j a b c i hi => ?_) ⟨up2_eq, by omega, fun k a hk i hi => ?_⟩
      · by_cases ej : j = 23
        · subst ej
          exact up2_k (hi rfl)
        · exact up2_r (by omega)
      · rw [up2_r (by omega)]
        exact hA k a (by rw [List.getElem?_append_left (List.getElem?_eq_some_iff.mp hk).1]; exact hk) i hi
    | cons a R ih =>
      intro D f0 e hR0 hF
      have hmem : a ∈ w.2.2.1 := by rw [e]; simp
      obtain ⟨q1, q2, q3, q4, q5, q6⟩ := hok a hmem
      have ih2 := ih (D ++ [a])
      rw [List.length_append, List.length_singleton] at ih2
      generalize hkD : D.filter stayS = kD at hR0 ⊢
      have hkl : kD.length ≤ D.length := by rw [← hkD]; exact List.length_filter_le _ _
      have hnl : D.length + 1 + R.length ≤ 480 := by
        have : w.2.2.1.length = D.length + (R.length + 1) := by rw [e]; simp
        omega
      have hdl : (kD ++ D.drop kD.length).length = D.length := by rw [List.length_append, List.length_drop]; omega
      obtain ⟨n6, -, hA⟩ := hR0.2.2.1
      replace n6 : f0 (B + 23) (40 * v + 6) = nI (kD ++ D.drop kD.length ++ a :: R).length := n6
      replace hA : ∀ (k : Nat) (a' : Sg), (kD ++ D.drop kD.length ++ a :: R)[k]? = some a' → ∀ i, i < 8 → f0 (B + 24) (8 * (480 * v + k) + i) = sE a' i := hA
      rw [List.length_append, hdl, List.length_cons] at n6
      have hk : (kD ++ D.drop kD.length ++ a :: R)[D.length]? = some a := by
        have := at_len (a := a) (l := kD ++ D.drop kD.length) (r := R)
        rw [hdl] at this
        exact this
      have hAk := hA _ a hk
      have keep : stayS a = true → LpX12_clears_40 l G d (qv sh fR K) sh fR B f0 g (nI v) (nI kD.length) (nI D.length) := by
        intro hst
        have hf1 : (D ++ [a]).filter stayS = kD ++ [a] := by rw [List.filter_append, hkD]; simp [hst]
        rw [hf1] at ih2
        refine VX12_clears_40 hs ?_
        have inner : ∀ n i (f1 : FI), n + i = 8 → (∀ r k, ¬ (r = B + 24 ∧ 8 * (480 * v + kD.length) ≤ k ∧ k < 8 * (480 * v + kD.length) + 8) → f1 r k = f0 r k) → (∀ j, j < i → f1 (B + 24) (8 * (480 * v + kD.length) + j) = sE a j) → (∀ j, i ≤ j → j < 8 → f1 (B + 24) (8 * (480 * v + kD.length) + j) = f0 (B + 24) (8 * (480 * v + kD.length) + j)) → LpX12_clears_43 l G d (qv sh fR K) sh fR B f1 g (nI v) (nI kD.length) (nI D.length) (nI i) := by
          intro n
          induction n with
          | zero =>
            intro i f1 hi e1 e2 e3
            refine VX12_clears_43 hs ⟨fun _ => ?_, fun z => absurd (nI_le (by omega) (by omega)) z⟩
            refine VX12_clears_75 hs ?_
            rw [nI_add, nI_add]
            have := ih2 f1 (by rw [e]; simp) ?_ (fun r k hz => by rw [e1 r k (fun q => hz (by unfold tch; omega))]; exact hF r k hz)
            · rw [List.length_append, List.length_singleton] at this
              exact this
            · have e5 : kD ++ [a] ++ (D ++ [a]).drop (kD ++ [a]).length ++ R = (kD ++ D.drop kD.length ++ a :: R).set kD.length a := by
                rw [List.length_append, List.length_singleton]
                by_cases ekd : kD.length = D.length
                · rw [ekd, List.drop_eq_nil_of_le (Nat.le_refl _), List.drop_eq_nil_of_le (by simp)]
                  simp [← ekd]
                · have hlt : kD.length < D.length := by omega
                  rw [List.drop_append_of_le_length (by omega), List.drop_eq_getElem_cons hlt]
                  generalize D[kD.length] = y
                  generalize List.drop (kD.length + 1) D = X
                  have e6 : kD ++ y :: X ++ a :: R = kD ++ (y :: (X ++ a :: R)) := by simp
                  rw [e6, List.set_append_right _ _ (Nat.le_refl _), Nat.sub_self, List.set_cons_zero]
                  simp
              rw [e5]
              refine RM.repg (w := wsg w (kD ++ D.drop kD.length ++ a :: R)) (l' := (kD ++ D.drop kD.length ++ a :: R).set kD.length a) hR0 (fun j a1 b1 c1 i hi => e1 _ _ (by omega)) ⟨?_, ?_, fun k a' hk' i' hi' => ?_⟩
              · rw [e1 _ _ (by omega), List.length_set]
                exact hR0.2.2.1.1
              · rw [List.length_set]
                exact hR0.2.2.1.2.1
              · by_cases ek : k = kD.length
                · subst ek
                  rw [List.getElem?_set_self (by rw [List.length_append, hdl, List.length_cons]; omega)] at hk'
                  cases hk'
                  exact e2 i' (by omega)
                · rw [List.getElem?_set_ne (fun z => ek z.symm)] at hk'
                  rw [e1 _ _ (by omega)]
                  exact hA k a' hk' i' hi'
          | succ n ih3 =>
            intro i f1 hi e1 e2 e3
            refine VX12_clears_43 hs ⟨fun z => absurd z (nI_ge (by omega) (by decide)), fun _ => ?_⟩
            simp (disch := omega) only [pk_mul, nI_add, clN]
            refine ⟨inbN (by omega) (by decide), inbN (by omega) (by decide), ?_⟩
            have hsrc : f1 (B + 24) (8 * (480 * v + D.length) + i) = sE a i := by
              by_cases ekd : kD.length = D.length
              · rw [← ekd, e3 i (Nat.le_refl _) (by omega), ekd]
                exact hAk i (by omega)
              · rw [e1 _ _ (by omega)]
                exact hAk i (by omega)
            rw [hsrc]
            refine ih3 (i + 1) _ (by omega) (fun r k hz => ?_) (fun j hj => ?_) (fun j hj hj5 => ?_)
            · rw [up2_ne (by omega)]
              exact e1 r k hz
            · by_cases ej : j = i
              · subst ej
                exact up2_eq
              · rw [up2_k (by omega)]
                exact e2 j (by omega)
            · rw [up2_k (by omega)]
              exact e3 j (by omega) hj5
        exact inner 8 0 f0 rfl (fun _ _ _ => rfl) (fun j hj => by omega) (fun _ _ _ => rfl)
      refine VX12_clears_4 hs ?_
      simp (disch := omega) only [pk_mul, nI_add, clN]
      rw [n6, hAk 6 (by decide), hAk 5 (by decide)]
      refine ⟨inbN (by omega) (by decide), fun z => absurd z (nI_ge (by omega) (by omega)), fun _ => ⟨inbN (by omega) (by decide), fun c1 => keep ?_, fun c1 => ⟨inbN (by omega) (by decide), fun c2 => keep ?_, fun c2 => ?_⟩⟩⟩
      · have z : a.2.2.2.2.2.2.1 = true := by
          cases hz : a.2.2.2.2.2.2.1 with
          | true => rfl
          | false => exact absurd (bI_0.mpr hz) c1
        simp [stayS, z]
      · have z : a.2.2.2.2.2.1.isSome = true := by
          cases hz : a.2.2.2.2.2.1 with
          | some x => rfl
          | none => exact absurd (show oI a.2.2.2.2.2.1 = -1 by rw [hz]; rfl) c2
        simp [stayS, z]
      · have z1 : a.2.2.2.2.2.2.1 = false := bI_0.mp c1
        have z2 : a.2.2.2.2.2.1 = none := (oI_none (fun k hk => by have := q6 k hk; omega)).mp c2
        have hf1 : (D ++ [a]).filter stayS = kD := by rw [List.filter_append, hkD]; simp [stayS, z1, z2]
        rw [hf1] at ih2
        refine VX12_clears_75 hs ?_
        rw [nI_add]
        refine ih2 f0 (by rw [e]; simp) ?_ hF
        have e3 : kD ++ (D ++ [a]).drop kD.length ++ R = kD ++ D.drop kD.length ++ a :: R := by
          rw [List.drop_append_of_le_length hkl]
          simp
        rw [e3]
        exact hR0
  refine VX12_clears hs ?_
  have := loop w.2.2.1 [] f rfl hR Fr.rf
  exact this
end C10
