/-! the reference's tick: all that it sends; clearing -/
section C9
variable {l : Launch} {G : Gx} {d : Nat} {sh : Sh} {fR : FRt} {B v b win : Nat} {f : FI} {g : FL} {w : Wd} {m : List (Nat × Nat)} {π : Pl} {dl : Nat → Nat}
theorem dw_filter {α : Type} (P : α → Bool) : ∀ m : List α, (m.dropWhile (fun q => !P q)).filter P = m.filter P
  | [] => rfl
  | q :: m => by
    rw [List.dropWhile_cons, List.filter_cons]
    cases h : P q with
    | true => simp [h]
    | false => simpa using dw_filter P m
theorem dw_head {α : Type} (P : α → Bool) : ∀ (m : List α) (q : α) (ms : List α), m.dropWhile (fun q => !P q) = q :: ms → P q = true
  | [], q, ms, h => by cases h
  | x :: m, q, ms, h => by
    rw [List.dropWhile_cons] at h
    cases hx : P x with
    | true =>
      simp [hx] at h
      rw [← h.1]
      exact hx
    | false =>
      simp [hx] at h
      exact dw_head P m q ms h
/-- what is asked along the sends -/
def JN (π : Pl) (T : Tk) (m : List (Nat × Nat)) : Prop := wN T.1 ∧ (∀ p, T.1.2.1 p 5 ≤ 1) ∧ T.1.2.2.1.length < 480 ∧ T.2.1 < 1000 ∧ (∀ s ∈ T.1.2.2.1, 1 ≤ s.2.2.2.1) ∧ (∀ q ∈ m, q.1 ≤ 1000 ∧ q.2 ≤ 1000) ∧ m.filter (ndS T.1) = T.1.2.2.2.1
def stepP (π : Pl) (dl : Nat → Nat) (dr : Bool) (T : Tk) (p : Nat) (q : Nat × Nat) (ps : List (Nat × Nat)) : Tk := (wpc (sendS π dl dr T p q.1 q.2).1 ps, (sendS π dl dr T p q.1 q.2).2)
def stepN (π : Pl) (dl : Nat → Nat) (dr : Bool) (T : Tk) (p : Nat) : Tk := (wsc (sendS π dl dr T p (T.1.1 1) (minS (π.1 2) (minS (T.1.1 3) (π.1 1) - T.1.1 1))).1 1 (T.1.1 1 + minS (π.1 2) (minS (T.1.1 3) (π.1 1) - T.1.1 1)), (sendS π dl dr T p (T.1.1 1) (minS (π.1 2) (minS (T.1.1 3) (π.1 1) - T.1.1 1))).2)
theorem sendsS_eq {dr : Bool} {n : Nat} {T : Tk} : sendsS π dl dr (n + 1) T = (if T.1.2.2.2.1 = [] ∧ minS (T.1.1 3) (π.1 1) ≤ T.1.1 1 then (T, true) else match pickS π dl T.1 none with
      | none => (T, false)
      | some (p, _) => match T.1.2.2.2.1 with
        | q :: ps => sendsS π dl dr n (stepP π dl dr T p q ps)
        | [] => sendsS π dl dr n (stepN π dl dr T p)) := rfl
theorem C_sendsAll {J : Nat → Tk → List (Nat × Nat) → Prop} {K : FI → FL → Prop} {dr : Bool} {T : Tk} {n : Nat} (hs : StM sh fR B) (hv : v < 22) (hπ : πOK π) (hJ : J n T m) (hJ0 : ∀ T m, ¬ J 0 T m) (hJn : ∀ n T m, J n T m → JN π T m) (hJd : ∀ n T m, J n T m → J n T (m.dropWhile (fun q => !ndS T.1 q)))
    (hJp : ∀ n T q ms p x, J (n + 1) T (q :: ms) → ndS T.1 q = true → pickS π dl T.1 none = some (p, x) → J n (stepP π dl dr T p q (ms.filter (ndS T.1))) ms)
    (hJs : ∀ n T p x, J (n + 1) T [] → T.1.1 1 < minS (T.1.1 3) (π.1 1) → pickS π dl T.1 none = some (p, x) → J n (stepN π dl dr T p) [])
    (hR : RM f B v T.1 m) (hT : TM f B b π win dl) (hk : TkR f g B dr T)
    (H : ∀ (f' : FI) (g' : FL) (n' : Nat) (m' : List (Nat × Nat)) (T' : Tk), J n' (sendsS π dl dr n T).1 m' → ((sendsS π dl dr n T).2 = true → m' = []) → T' = (if (sendsS π dl dr n T).2 then (match penS π dl dr (sendsS π dl dr n T).1 with
      | some T => T
      | none => (sendsS π dl dr n T).1) else (sendsS π dl dr n T).1) → RM f' B v T'.1 m' → TkR f' g' B dr T' → FrS B v f f' → FrL B g g' → K f' g') : Cl l G (d + 5) 0 0 mX12_sendsAll [.ref B, .int (nI v)] (sh, f, g, fR) (qv sh fR K) := by
  have h200 := hπ.1
  have hu := hπ.2.1
  have tkL : ∀ {f0 f1 : FI} {g0 g1 : FL} {T : Tk}, TkR f0 g0 B dr T → (∀ r k, r ≠ B + 31 → ¬ (r = B + 23 ∧ 40 * v ≤ k ∧ k < 40 * v + 40) → ¬ (r = B + 25 ∧ 960 * v ≤ k ∧ k < 960 * v + 960) → f1 r k = f0 r k) → (∀ r k, r ≠ B + 30 → g1 r k = g0 r k) → TkR f1 g1 B dr T := by
    intro f0 f1 g0 g1 T h e1 e2
    exact h.fr (v := v) (fun r k z => e1 r k (fun q => z (by unfold tch; omega)) (fun q => z (by unfold tch; omega)) (fun q => z (by unfold tch; omega))) e2
  have loop : ∀ n (T : Tk) (m : List (Nat × Nat)) (f0 : FI) (g0 : FL), J n T m → RM f0 B v T.1 m → TM f0 B b π win dl → TkR f0 g0 B dr T → FrS B v f f0 → FrL B g g0 → (∀ (f' : FI) (g' : FL) (n' : Nat) (m' : List (Nat × Nat)) (T' : Tk), J n' (sendsS π dl dr n T).1 m' → ((sendsS π dl dr n T).2 = true → m' = []) → T' = (if (sendsS π dl dr n T).2 then (match penS π dl dr (sendsS π dl dr n T).1 with
      | some T => T
      | none => (sendsS π dl dr n T).1) else (sendsS π dl dr n T).1) → RM f' B v T'.1 m' → TkR f' g' B dr T' → FrS B v f f' → FrL B g g' → K f' g') → LpX12_sendsAll_4 l G d (qv sh fR K) sh fR B f0 g0 (nI v) (nI 1) (nI 0) := by
    intro n
    induction n with
    | zero => intro T m f0 g0 h; exact absurd h (hJ0 T m)
    | succ n ih =>
      intro T m f0 g0 hJ hR hT hk hF hG H
      obtain ⟨hN, h5, hl, hc, hmany, hmq, hpc⟩ := hJn _ _ _ hJ
      have hJ2 := hJd _ _ _ hJ
      have hb := hT.1.2.1
      have t1 := hN.1 1 (by decide)
      have t2 := hN.1 2 (by decide)
      have t3 := hN.1 3 (by decide)
      have n1 := hR.1 1 (by unfold nset; omega)
      have n3 := hR.1 3 (by unfold nset; omega)
      generalize hm2 : m.dropWhile (fun q => !ndS T.1 q) = m2 at hJ2
      have hpc2 : m2.filter (ndS T.1) = T.1.2.2.2.1 := by rw [← hm2, dw_filter, hpc]
      have hms := sendsS_eq (π := π) (dl := dl) (dr := dr) (n := n) (T := T)
      have st96 : ∀ f1 : FI, RM f1 B v T.1 m2 → (∀ r k, ¬ (r = B + 23 ∧ k = 40 * v + 7) → ¬ (r = B + 25 ∧ 960 * v ≤ k ∧ k < 960 * v + 960) → f1 r k = f0 r k) → ¬ (T.1.2.2.2.1 = [] ∧ minS (T.1.1 3) (π.1 1) ≤ T.1.1 1) → LpX12_sendsAll_96 l G d (qv sh fR K) sh fR B f1 g0 (nI v) (nI 0) (nI (minS (T.1.1 3) (π.1 1))) (nI (T.1.1 1)) (bI (!m2.isEmpty)) := by
        intro f1 hR1 e1 hne
        rw [if_neg hne] at hms
        have hF1 : Fr B v f0 f1 := fun r k z => e1 r k (fun q => z (by unfold tch; omega)) (fun q => z (by unfold tch; omega))
        have hT1 := hT.fr hF1
        refine VX12_sendsAll_96 hs ?_
        refine C_picked (but := none) hs hv hR1 hN hT1 hπ (fun p hp => by cases hp) (fun f2 g2 e2 e3 => ?_)
        have hF2 : Fr B v f1 f2 := fun r k z => e2 r k (fun q => z (by unfold tch; omega))
        have hR2 : RM f2 B v T.1 m2 := hR1.congr (fun j a b i => e2 _ _ (by omega))
        have hT2 := hT1.fr hF2
        have hk2 : TkR f2 g2 B dr T := hk.fr (hF1.tr hF2) e3
        have hG2 : FrL B g0 g2 := FrL.of e3
        cases hpk : pickS π dl T.1 none with
        | none =>
          rw [hpk] at hms
          replace hms : sendsS π dl dr (n + 1) T = (T, false) := hms
          refine ⟨fun _ => ?_, fun z => absurd rfl z⟩
          refine VX12_sendsAll_4 hs ⟨fun _ => ⟨_, _, rfl, rfl, H f2 g2 (n + 1) m2 T ?_ ?_ ?_ hR2 hk2 (hF.tr (hF1.tr hF2).s) (hG.tr hG2)⟩, fun z => absurd rfl z⟩
          · rw [hms]; exact hJ2
          · rw [hms]; intro z; cases z
          · rw [hms]; rfl
        | some x =>
          obtain ⟨p, vv⟩ := x
          have hp4 : p < 4 := pick_lt hπ.2.2.2.2.2.1 _ hpk
          rw [hpk] at hms
          dsimp only at hms
          refine ⟨fun z => absurd z (nI_m1 (n := p) (by omega)), fun _ => ?_⟩
          rw [show oI (Option.map (fun x => x.1) (some (p, vv))) = nI p from rfl]
          cases m2 with
          | nil =>
            have hpe : T.1.2.2.2.1 = [] := by rw [← hpc2]; rfl
            rw [hpe] at hms
            dsimp only at hms
            have hlt : T.1.1 1 < minS (T.1.1 3) (π.1 1) := Nat.not_le.mp (fun z => hne ⟨hpe, z⟩)
            have hlm : minS (T.1.1 3) (π.1 1) ≤ 1000 := by unfold minS; split <;> omega
            have hnx := hJs n T p vv hJ2 hlt hpk
            refine ⟨fun _ => ?_, fun z => absurd rfl z⟩
            have b13 : f2 B 13 = nI b := hT2.1.1
            have b3 : f2 (B + 3) b = nI (π.1 2) := hT2.1.2.2.2.1
            rw [b13, clN (by omega), b3, pk_sub (by omega)]
            have go : ∀ y : Int32, y = nI (minS (π.1 2) (minS (T.1.1 3) (π.1 1) - T.1.1 1)) → Cl l G (d + 4) 0 0 mX12_sends [.ref B, .int (nI v), .int (nI p), .int (nI (T.1.1 1)), .int y] (sh, f2, g2, fR) (qv sh fR fun f49 g50 => inb (nI 40 * nI v + nI 1) 880 ∧ LpX12_sendsAll_4 l G d (qv sh fR K) sh fR B (up2 f49 (B + 23) (nI 40 * nI v + nI 1).toNatClampNeg (nI (T.1.1 1) + y)) g50 (nI v) (nI 1) (nI 0)) := by
              intro y hy
              subst hy
              refine C_sends hs hv hR2 hN hT2 hπ hk2 hp4 (by omega) (h5 p) hl hc (fun f3 g3 q1 q2 q3 q4 => ?_)
              simp (disch := omega) only [pk_mul, nI_add, clN]
              refine ⟨inbN (by omega) (by decide), ?_⟩
              refine ih (stepN π dl dr T p) [] _ g3 hnx ?_ ((hT2.frS q3).fr (Fr.rf.up (v := v) (by unfold tch; omega))) ?_ ((hF.tr ((hF1.tr hF2).s.tr q3)).up (by unfold tchS tchQ tch; omega)) ((hG.tr hG2).tr q4) ?_
              · exact q1.setn (i := 1) (by unfold nset; omega)
              · exact TkR.fr (v := v) (T := sendS π dl dr T p _ _) q2 (Fr.rf.up (by unfold tch; omega)) (fun _ _ _ => rfl)
              · rw [hms] at H
                exact H
            refine ⟨inbN (by omega) (by decide), fun c => ⟨inbN (by omega) (by decide), fun y hy => go y ?_⟩, fun c y hy => go y ?_⟩
            · rw [hy]
              have := (nI_leI (by omega) (by omega)).mp c
              congr 1
              unfold minS at this ⊢
              split at this <;> split <;> split <;> omega
            · rw [hy]
              have : ¬ π.1 2 ≤ minS (T.1.1 3) (π.1 1) - T.1.1 1 := fun z => c ((nI_leI (by omega) (by omega)).mpr z)
              congr 1
              generalize minS (T.1.1 3) (π.1 1) - T.1.1 1 = z at this
              unfold minS
              rw [if_neg (by omega)]
          | cons q ms =>
            have hnd := dw_head _ _ _ _ hm2
            have hpe : T.1.2.2.2.1 = q :: ms.filter (ndS T.1) := by rw [← hpc2, List.filter_cons, if_pos hnd]
            rw [hpe] at hms
            dsimp only at hms
            have hnx := hJp n T q ms p vv hJ2 hnd hpk
            obtain ⟨-, -, -, -, -, hmq2, -⟩ := hJn _ _ _ hJ2
            have hq := hmq2 q (List.mem_cons_self ..)
            have c0 := hR2.2.2.2.1.2.2 0 q rfl
            rw [show 2 * (480 * v + 0) = 960 * v by omega] at c0
            refine ⟨fun z => absurd z (show ¬ bI true = 0 by decide), fun _ => ?_⟩
            simp (disch := omega) only [pk_mul, nI_add, clN]
            rw [c0.1, c0.2]
            refine ⟨inbN (by omega) (by decide), inbN (by omega) (by decide), ?_⟩
            refine C_sends hs hv hR2 hN hT2 hπ hk2 hp4 (by omega) (h5 p) hl hc (fun f3 g3 q1 q2 q3 q4 => ?_)
            refine C_shifts hs hv q1 (n := 1) (by rw [List.length_cons]; omega) (fun f4 q5 q6 => ?_)
            have hF4 : Fr B v f3 f4 := fun r k z => q6 r k (fun q => z (by unfold tch; omega)) (fun q => z (by unfold tch; omega))
            refine ih (stepP π dl dr T p q (ms.filter (ndS T.1))) ms f4 g3 hnx q5 ((hT2.frS q3).fr hF4) ?_ (hF.tr ((hF1.tr hF2).s.tr (q3.tr hF4.s))) ((hG.tr hG2).tr q4) ?_
            · exact TkR.fr (T := sendS π dl dr T p q.1 q.2) q2 hF4 (fun _ _ _ => rfl)
            · rw [hms] at H
              exact H
      have stop : ∀ f1 : FI, RM f1 B v T.1 m2 → (∀ r k, ¬ (r = B + 23 ∧ k = 40 * v + 7) → ¬ (r = B + 25 ∧ 960 * v ≤ k ∧ k < 960 * v + 960) → f1 r k = f0 r k) → m2 = [] → minS (T.1.1 3) (π.1 1) ≤ T.1.1 1 → Cl l G (d + 4) 0 0 mX12_isPenalised [.ref B, .int (nI v)] (sh, f1, g0, fR) (qi sh fR fun x19 f17 g18 => (x19 = 0 → LpX12_sendsAll_89 l G d (qv sh fR K) sh fR B f17 g18 (nI v)) ∧ (¬ x19 = 0 → LpX12_sendsAll_4 l G d (qv sh fR K) sh fR B f17 g18 (nI v) (nI 1) (nI 1))) := by
        intro f1 hR1 e1 hm0 hle
        subst hm0
        have hpe : T.1.2.2.2.1 = [] := by rw [← hpc2]; rfl
        rw [if_pos ⟨hpe, hle⟩] at hms
        have hF1 : Fr B v f0 f1 := fun r k z => e1 r k (fun q => z (by unfold tch; omega)) (fun q => z (by unfold tch; omega))
        have hT1 := hT.fr hF1
        have hk1 : TkR f1 g0 B dr T := hk.fr hF1 (fun _ _ _ => rfl)
        refine C_isPenalised hs hv hR1 hN hT1 hπ hk1 h5 hl hc hmany (fun T' f2 g2 e2 q1 q2 q3 q4 => ?_) (fun f2 g2 e2 q1 q2 => ?_)
        · refine ⟨fun z => absurd z (by decide), fun _ => ?_⟩
          have hT'1 : T'.1.1 1 = T.1.1 1 ∧ T'.1.1 2 = T.1.1 2 ∧ T'.1.1 3 = T.1.1 3 := by
            unfold penS at e2
            split at e2
            · split at e2
              · cases e2
              · split at e2
                · cases e2
                · split at e2
                  · cases e2
                  · cases e2
                    exact ⟨rfl, rfl, rfl⟩
            · cases e2
          have hT2 := hT1.frS q3
          have hb2 := hT2.1.2.1
          have a1 := q1.1 1 (by unfold nset; omega)
          have a3 := q1.1 3 (by unfold nset; omega)
          rw [hT'1.1] at a1
          rw [hT'1.2.2] at a3
          have go : Cl l G (d + 4) 0 0 mX12_isPiece [.ref B, .int (nI v)] (sh, f2, g2, fR) (qi sh fR fun x13 f11 g12 => ((¬ x13 = 0 → LpX12_sendsAll_96 l G d (qv sh fR K) sh fR B f11 g12 (nI v) (nI 1) (nI (minS (T.1.1 3) (π.1 1))) (nI (T.1.1 1)) x13) ∧ (x13 = 0 → ((nI (T.1.1 1) < nI (minS (T.1.1 3) (π.1 1)) → LpX12_sendsAll_96 l G d (qv sh fR K) sh fR B f11 g12 (nI v) (nI 1) (nI (minS (T.1.1 3) (π.1 1))) (nI (T.1.1 1)) x13) ∧ (¬ nI (T.1.1 1) < nI (minS (T.1.1 3) (π.1 1)) → ((¬ nI 1 = 0 → LpX12_sendsAll_89 l G d (qv sh fR K) sh fR B f11 g12 (nI v)) ∧ (nI 1 = 0 → Cl l G (d + 4) 0 0 mX12_isPenalised [.ref B, .int (nI v)] (sh, f11, g12, fR) (qi sh fR fun x19 f17 g18 => (x19 = 0 → LpX12_sendsAll_89 l G d (qv sh fR K) sh fR B f17 g18 (nI v)) ∧ (¬ x19 = 0 → LpX12_sendsAll_4 l G d (qv sh fR K) sh fR B f17 g18 (nI v) (nI 1) (nI 1)))))))))) := by
            refine C_isPiece hs hv q1 (by rw [hT'1.2.1]; exact t2) (fun q hq => by cases hq) (fun f3 q5 q6 => ?_)
            have hF3 : Fr B v f2 f3 := fun r k z => q6 r k (fun q => z (by unfold tch; omega)) (fun q => z (by unfold tch; omega))
            refine ⟨fun z => absurd rfl z, fun _ => ⟨fun z => absurd z (nI_nlt hle (by omega)), fun _ => ⟨fun _ => ?_, fun z => absurd z (by decide)⟩⟩⟩
            refine VX12_sendsAll_89 hs ?_
            refine VX12_sendsAll_4 hs ⟨fun _ => ⟨_, _, rfl, rfl, H f3 g2 (n + 1) [] T' ?_ (fun _ => rfl) ?_ q5 (TkR.fr (v := v) q2 hF3 (fun _ _ _ => rfl)) (hF.tr (hF1.s.tr (q3.tr hF3.s))) (hG.tr q4)⟩, fun z => absurd rfl z⟩
            · rw [hms]; exact hJ2
            · rw [hms]
              show T' = (match penS π dl dr T with
                | some T => T
                | none => T)
              rw [e2]
          refine VX12_sendsAll_4 hs ⟨fun z => absurd z (by decide), fun _ => ?_⟩
          rw [hT2.1.1]
          simp (disch := omega) only [pk_mul, nI_add, clN]
          rw [hT2.1.2.2.1, a1, a3]
          refine ⟨inbN (by omega) (by decide), inbN (by omega) (by decide), fun c => ⟨inbN (by omega) (by decide), fun y hy => ⟨inbN (by omega) (by decide), fun y2 hy2 => ?_⟩⟩, fun c => ⟨inbN (by omega) (by decide), fun y hy => ⟨inbN (by omega) (by decide), fun y2 hy2 => ?_⟩⟩⟩
          · have z := (nI_leI (by omega) (by omega)).mp c
            have e9 : minS (T.1.1 3) (π.1 1) = π.1 1 := by unfold minS; rw [if_neg (by omega)]
            rw [e9] at go
            rw [hy, hy2]
            exact go
          · have z : ¬ π.1 1 ≤ T.1.1 3 := fun z => c ((nI_leI (by omega) (by omega)).mpr z)
            have e9 : minS (T.1.1 3) (π.1 1) = T.1.1 3 := by unfold minS; rw [if_pos (by omega)]
            rw [e9] at go
            rw [hy, hy2]
            exact go
        · refine ⟨fun _ => ?_, fun z => absurd rfl z⟩
          have hF2 : Fr B v f1 f2 := fun r k z => q1 r k (fun q => z (by unfold tch; omega))
          refine VX12_sendsAll_89 hs ?_
          refine VX12_sendsAll_4 hs ⟨fun _ => ⟨_, _, rfl, rfl, H f2 g2 (n + 1) [] T ?_ (fun _ => rfl) ?_ (hR1.congr (fun j a b i => q1 _ _ (by omega))) (hk1.fr hF2 q2) (hF.tr (hF1.tr hF2).s) (hG.tr (FrL.of q2))⟩, fun z => absurd rfl z⟩
          · rw [hms]; exact hJ2
          · rw [hms]
            show T = (match penS π dl dr T with
              | some T => T
              | none => T)
            rw [e2]
      have go : Cl l G (d + 4) 0 0 mX12_isPiece [.ref B, .int (nI v)] (sh, f0, g0, fR) (qi sh fR fun x13 f11 g12 => ((¬ x13 = 0 → LpX12_sendsAll_96 l G d (qv sh fR K) sh fR B f11 g12 (nI v) (nI 0) (nI (minS (T.1.1 3) (π.1 1))) (nI (T.1.1 1)) x13) ∧ (x13 = 0 → ((nI (T.1.1 1) < nI (minS (T.1.1 3) (π.1 1)) → LpX12_sendsAll_96 l G d (qv sh fR K) sh fR B f11 g12 (nI v) (nI 0) (nI (minS (T.1.1 3) (π.1 1))) (nI (T.1.1 1)) x13) ∧ (¬ nI (T.1.1 1) < nI (minS (T.1.1 3) (π.1 1)) → ((¬ nI 0 = 0 → LpX12_sendsAll_89 l G d (qv sh fR K) sh fR B f11 g12 (nI v)) ∧ (nI 0 = 0 → Cl l G (d + 4) 0 0 mX12_isPenalised [.ref B, .int (nI v)] (sh, f11, g12, fR) (qi sh fR fun x19 f17 g18 => (x19 = 0 → LpX12_sendsAll_89 l G d (qv sh fR K) sh fR B f17 g18 (nI v)) ∧ (¬ x19 = 0 → LpX12_sendsAll_4 l G d (qv sh fR K) sh fR B f17 g18 (nI v) (nI 1) (nI 1)))))))))) := by
        have hlm : minS (T.1.1 3) (π.1 1) ≤ 1000 := by unfold minS; split <;> omega
        refine C_isPiece hs hv hR t2 hmq (fun f3 q5 q6 => ?_)
        rw [hm2] at q5 ⊢
        cases hmm : m2 with
        | cons q ms =>
          rw [hmm] at q5 st96
          refine ⟨fun _ => st96 f3 q5 q6 (fun z => ?_), fun z => absurd z (show ¬ bI true = 0 by decide)⟩
          have hnd := dw_head _ _ _ _ (hm2.trans hmm)
          rw [← hpc2, hmm, List.filter_cons, if_pos hnd] at z
          cases z.1
        | nil =>
          rw [hmm] at q5 st96 stop
          refine ⟨fun z => absurd rfl z, fun _ => ⟨fun c => st96 f3 q5 q6 (fun z => ?_), fun c => ⟨fun z => absurd rfl z, fun _ => stop f3 q5 q6 rfl ?_⟩⟩⟩
          · have := (nI_ltI (by omega) (by omega)).mp c
            omega
          · exact Nat.not_lt.mp (fun z => c ((nI_ltI (by omega) (by omega)).mpr z))
      refine VX12_sendsAll_4 hs ⟨fun z => absurd z (by decide), fun _ => ?_⟩
      rw [hT.1.1]
      simp (disch := omega) only [pk_mul, nI_add, clN]
      rw [hT.1.2.2.1, n1, n3]
      refine ⟨inbN (by omega) (by decide), inbN (by omega) (by decide), fun c => ⟨inbN (by omega) (by decide), fun y hy => ⟨inbN (by omega) (by decide), fun y2 hy2 => ?_⟩⟩, fun c => ⟨inbN (by omega) (by decide), fun y hy => ⟨inbN (by omega) (by decide), fun y2 hy2 => ?_⟩⟩⟩
      · have z := (nI_leI (by omega) (by omega)).mp c
        have e9 : minS (T.1.1 3) (π.1 1) = π.1 1 := by unfold minS; rw [if_neg (by omega)]
        rw [e9] at go
        rw [hy, hy2]
        exact go
      · have z : ¬ π.1 1 ≤ T.1.1 3 := fun z => c ((nI_leI (by omega) (by omega)).mpr z)
        have e9 : minS (T.1.1 3) (π.1 1) = T.1.1 3 := by unfold minS; rw [if_pos (by omega)]
        rw [e9] at go
        rw [hy, hy2]
        exact go
  refine VX12_sendsAll hs ?_
  exact loop n T m f g hJ hR hT hk FrS.rf FrL.rf H
end C9
