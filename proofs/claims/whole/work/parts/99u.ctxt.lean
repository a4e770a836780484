/-! the class' reader: joins, formulas, the whole text -/
section CTX
variable {l : Launch} {G : Gx} {d : Nat} {sh : Sh} {fR : FRt} {A p q : Nat} {f f' : FI} {g : FL} {tp : List Nat} {e : Nat} {π : Pl}
theorem T_jend {K : FI → FL → Prop} {k : Nat} {r : Rr Nat} (h9 : RP9 sh fR A p q) (hT : TS f A tp r) (hk : k < 4) (H : ∀ f' n1 n2, n1 = bd (bd r (exW tp 7)) (numD tp 0 99) → n2 = bd (bd (rF n1) (exW tp 8)) (numD tp 0 999) → TS f' A tp (rF n2) → f' (p + 3) k = nI (vOf n1) → f' (p + 4) k = nI (vOf n2) → (∀ r i, ¬ (r = A + 38 ∧ (i = 1 ∨ i = 2 ∨ i = 5 ∨ 10 ≤ i)) → ¬ ((r = p + 3 ∨ r = p + 4) ∧ i = k) → f' r i = f r i) → K f' g) : Cl l G (d + 3) 0 0 mX9_expectWord [.ref (A + 38), .int (nI 7)] (sh, f, g, (up2 fR (A + 38) 7 (some q))) (qv sh (up2 fR (A + 38) 7 (some q)) fun f15 g16 => Cl l G (d + 3) 0 0 mX9_expectNumber [.ref (A + 38), .int (nI 0), .int (nI 99)] (sh, f15, g16, (up2 fR (A + 38) 7 (some q))) (qi sh (up2 fR (A + 38) 7 (some q)) fun x19 f17 g18 => inb (nI k) 4 ∧ Cl l G (d + 3) 0 0 mX9_expectWord [.ref (A + 38), .int (nI 8)] (sh, (up2 f17 (p + 3) (nI k).toNatClampNeg x19), g18, (up2 fR (A + 38) 7 (some q))) (qv sh (up2 fR (A + 38) 7 (some q)) fun f21 g22 => Cl l G (d + 3) 0 0 mX9_expectNumber [.ref (A + 38), .int (nI 0), .int (nI 999)] (sh, f21, g22, (up2 fR (A + 38) 7 (some q))) (qi sh (up2 fR (A + 38) 7 (some q)) fun x25 f23 g24 => inb (nI k) 4 ∧ (qv sh (up2 fR (A + 38) 7 (some q)) K) none (sh, (up2 f23 (p + 4) (nI k).toNatClampNeg x25), g24, (up2 fR (A + 38) 7 (some q))))))) := by
  obtain ⟨h9, hp1, hp2⟩ := h9
  rw [clN (by omega)]
  refine K_exWord h9 hT (by decide) (fun f1 a1 t1 => ?_)
  refine K_exNum h9 t1 (by decide) (by decide) (fun f2 a2 t2 => ⟨inbN hk (by decide), ?_⟩)
  obtain ⟨n1, hn1⟩ : ∃ n, n = bd (bd r (exW tp 7)) (numD tp 0 99) := ⟨_, rfl⟩
  rw [← hn1] at t2 ⊢
  refine K_exWord h9 (t2.kp (f' := up2 f2 (p + 3) k (nI (vOf n1))) (fun r k z => up2_r (by omega))) (by decide) (fun f3 a3 t3 => ?_)
  refine K_exNum h9 t3 (by decide) (by decide) (fun f4 a4 t4 => ⟨inbN hk (by decide), ?_⟩)
  obtain ⟨n2, hn2⟩ : ∃ n, n = bd (bd (rF n1) (exW tp 8)) (numD tp 0 999) := ⟨_, rfl⟩
  rw [← hn2] at t4 ⊢
  refine ⟨_, _, rfl, rfl, H _ n1 n2 hn1 hn2 (t4.kp (fun r k z => up2_r (by omega))) ?_ up2_eq (fun r i z z2 => ?_)⟩
  · rw [up2_r (by omega), a4 _ _ (by omega), a3 _ _ (by omega), up2_eq]
  · rw [up2_ne (fun y => z2 ⟨Or.inr y.1, y.2⟩), a4 r i z, a3 r i z, up2_ne (fun y => z2 ⟨Or.inl y.1, y.2⟩), a2 r i z, a1 r i z]
theorem T_join {K : FI → FL → Prop} (h9 : RP9 sh fR A p q) (hS : SC f A p tp (.ok (e, π))) (hs : xOK π) (hw : isW tp e 6 = true) (H : ∀ f', SC f' A p tp (jonD tp π e) → Fz A p f f' → K f' g) : Cl l G (d + 4) 0 0 mX9_readJoin [.ref (A + 38)] (sh, f, g, (up2 fR (A + 38) 7 (some q))) (qv sh (up2 fR (A + 38) 7 (some q)) K) := by
  have h9' := h9
  obtain ⟨h9, hp1, hp2⟩ := h9
  obtain ⟨hT, ho, hc⟩ := hS
  have hT : TS f A tp (.ok e) := hT
  have hc : CPr f p π := hc
  have hK := (isW_K hw).1
  have h64 : π.1 6 ≤ 4 := hs.1.2.2.2.2.2.1
  have hl := hT.len
  have hPl := h9.2.2.1.fR7 (z := A + 38) (o := some q) (by omega)
  refine VX9_readJoin h9.1 h9.2.1 h9.2.2.1 h9.2.2.2 ?_
  unfold jonD at H
  refine K_advR h9 hT (fun e' he => by cases he; omega) (fun f1 a1 t1 => ?_)
  have t1 : TS f1 A tp (.ok (tkE tp e)) := t1
  have hc1 : CPr f1 p π := hc.kp (fun r k x y => a1 _ _ (by omega))
  have h61 : f1 p 6 = nI (π.1 6) := hc1.1.1 6 (by decide)
  have hse := tkS_le t1.2.2.1
  cases hx : exN tp (tkE tp e) with
  | error x =>
    rw [hx] at H
    refine K_pn0 hPl h61 h64 (fun y hy => fun w6 hw6 => ?_)
    refine K_exName h9 t1 (fun f2 a2 t2 => ?_)
    have t2 : TS f2 A tp (.error x) := by rw [← hx]; exact t2
    have hF2 : Fz A p f f2 := (a1.ft.tr a2).fz
    have bl : Cl l G (d + 3) 0 0 mX9_blame [.ref (A + 38), .int (nI 3), .int w6] (sh, f2, g, (up2 fR (A + 38) 7 (some q))) (qv sh (up2 fR (A + 38) 7 (some q)) fun f11 g12 => (qv sh (up2 fR (A + 38) 7 (some q)) K) none (sh, f11, g12, (up2 fR (A + 38) 7 (some q)))) := K_blame (k := 3) (pl := 0) h9 t2 (by decide) (fun e z => by cases z) (fun f3 b1 b2 => ⟨_, _, rfl, rfl, H f3 ⟨b2, trivial⟩ (hF2.tr b1.fz)⟩)
    refine ⟨fun _ => bl, fun z => ?_⟩
    obtain ⟨k, hk, rfl⟩ : ∃ k, k < 4 ∧ y = nI k := by
      rcases hy with rfl | h
      · exact absurd (by decide) z
      · exact h
    refine ⟨inbN hk (by decide), fun _ => ?_, fun _ => bl⟩
    refine T_jend h9' t2 hk (fun f3 n1 n2 b1 b2 b3 b4 b5 b6 => H f3 ⟨?_, trivial⟩ (hF2.tr (fun r i z z2 => b6 r i (fun y => z y.1) (by omega))))
    rw [b2, b1] at b3
    exact b3
  | ok e2 =>
    rw [hx, bd_ok] at H
    obtain ⟨m1, m2, m3, m4⟩ := exN_ok hx t1.2.2.1
    have m5 := isNm_K m1
    have hw4' : f1 (A + 38) 13 = nI (packC (tkW tp (tkE tp e))) := (t1.2.2.2.2.2.2.2.1 m5.1).1
    rw [hw4']
    refine K_pn hPl hc1 hs tkW_mem tkW_len (fun w6 hw6 => ?_)
    have hw6' : w6 = nI (tkS tp (tkE tp e)) := by rw [hw6]; exact t1.2.2.2.2.2.1
    refine K_exName h9 t1 (fun f2 a2 t2 => ?_)
    have t2 : TS f2 A tp (.ok e2) := by rw [← hx]; exact t2
    have hF2 : Fz A p f f2 := (a1.ft.tr a2).fz
    have hc2 : CPr f2 p π := hc1.kp (fun r k x y => a2 _ _ (by omega))
    have o2 : f2 (A + 38) 9 = nI 0 := by rw [a2 _ _ (by omega), a1 _ _ (by omega)]; exact ho
    have bl : jonP π (tkW tp (tkE tp e)) = none → Cl l G (d + 3) 0 0 mX9_blame [.ref (A + 38), .int (nI 3), .int w6] (sh, f2, g, (up2 fR (A + 38) 7 (some q))) (qv sh (up2 fR (A + 38) 7 (some q)) fun f11 g12 => (qv sh (up2 fR (A + 38) 7 (some q)) K) none (sh, f11, g12, (up2 fR (A + 38) 7 (some q)))) := fun hj => by
      rw [hj] at H
      exact K_blame (k := 3) (pl := tkS tp (tkE tp e)) h9 t2 (by decide) (fun e z => ⟨hw6', by omega⟩) (fun f3 b1 b2 => ⟨_, _, rfl, rfl, H f3 ⟨b2, trivial⟩ (hF2.tr b1.fz)⟩)
    cases hq : pnS π (tkW tp (tkE tp e)) with
    | none =>
      have hj : jonP π (tkW tp (tkE tp e)) = none := by unfold jonP; rw [hq]; rfl
      exact ⟨fun _ => bl hj, fun z => absurd (by decide) z⟩
    | some k =>
      obtain ⟨k1, k2⟩ := pnS_in hq
      rw [show oI (some k) = nI k from rfl]
      refine ⟨fun z => bl ?_, fun z => ?_⟩
      · have : k = 0 := by
          have := (nI_leI (a := k) (b := 0) (by omega) (by decide)).mp z
          omega
        unfold jonP; rw [hq, this]; rfl
      · have hk0 : k ≠ 0 := fun y => by subst y; exact z (by decide)
        have hcj := hc2.1.2.2.1 k k1
        rw [clN (k := k) (by omega)]
        refine ⟨inbN (by omega) (by decide), fun c => ?_, fun c => bl ?_⟩
        · have hjn : π.2.2.2.1 k = none := by
            cases hj : π.2.2.2.1 k with
            | none => rfl
            | some v =>
              unfold CPj at hcj
              rw [hj] at hcj
              have hv := (hs.1.2.2.2.2.2.2.2.1 k v.1 v.2 hj).1
              obtain ⟨v1, v2⟩ := v
              have hcj1 : f2 (p + 3) k = nI v1 := hcj.1
              exact absurd (hcj1.symm.trans c) (nI_m1 (by dsimp only at hv; omega))
          have hj : jonP π (tkW tp (tkE tp e)) = some k := by
            unfold jonP; rw [hq]
            show (if k = 0 ∨ (π.2.2.2.1 k).isSome then none else some k) = some k
            rw [if_neg]
            rintro (y | y)
            · exact hk0 y
            · rw [hjn] at y; cases y
          rw [hj] at H
          dsimp only at H
          have tj := T_jend (l := l) (G := G) (d := d) (g := g) (K := K) h9' t2 (k := k) (by omega) (fun f3 n1 n2 b1 b2 b3 b4 b5 b6 => ?_)
          · rw [clN (k := k) (by omega)] at tj
            exact tj
          refine H f3 ?_ (hF2.tr (fun r i z z2 => b6 r i (fun y => z y.1) (by omega)))
          have eq : (bd (exW tp 7 e2) (fun e3 => bd (numD tp 0 99 e3) (fun n1 => bd (exW tp 8 n1.1) (fun e4 => bd (numD tp 0 999 e4) (fun n2 => .ok (n2.1, pJon π k (n1.2, n2.2)))))) : Rr (Nat × Pl)) = bd n2 (fun y => .ok (y.1, pJon π k (vOf n1, y.2))) := by
            refine (bd_as (r := exW tp 7 e2) (k := numD tp 0 99)).symm.trans ?_
            rw [show bd (exW tp 7 e2) (numD tp 0 99) = n1 from b1.symm]
            cases n1 with
            | error x => subst b2; rfl
            | ok y1 =>
              rw [bd_ok]
              refine (bd_as (r := exW tp 8 y1.1) (k := numD tp 0 999)).symm.trans ?_
              rw [show bd (exW tp 8 y1.1) (numD tp 0 999) = n2 from b2.symm]
              rfl
          rw [eq]
          cases n2 with
          | error x => exact ⟨b3, trivial⟩
          | ok y =>
            refine ⟨b3, by rw [b6 _ _ (by omega) (by omega)]; exact o2, ⟨fun i hi => ?_, fun i hi => ?_, fun i hi => ?_, fun i hi => ?_⟩, fun i hi => ?_, fun i hi hi2 => ?_⟩
            · rw [b6 _ _ (by omega) (by omega)]; exact hc2.1.1 i hi
            · rw [b6 _ _ (by omega) (by omega)]; exact hc2.1.2.1 i hi
            · show CPj f3 p i (fu π.2.2.2.1 k (some (vOf n1, y.2)) i)
              by_cases zi : i = k
              · rw [zi, fu_eq]; exact ⟨b4, b5⟩
              · rw [fu_ne zi]
                have := hc2.1.2.2.1 i hi
                unfold CPj at this ⊢
                rw [b6 _ _ (by omega) (by omega), b6 _ _ (by omega) (by omega)]
                exact this
            · have := hc2.1.2.2.2 i hi
              show CPf f3 (p + 5 + 3 * i) (π.2.2.2.2 i)
              unfold CPf at this ⊢
              cases hf : π.2.2.2.2 i with
              | none =>
                rw [hf] at this
                show f3 (p + 5 + 3 * i) 2 = nI 0
                rw [b6 _ _ (by omega) (by omega)]; exact this
              | some ops =>
                rw [hf] at this
                exact FmC.congr this (fun k => b6 _ _ (by omega) (by omega)) (fun k => b6 _ _ (by omega) (by omega))
            · rw [b6 _ _ (by omega) (by omega)]; exact hc2.2.1 i hi
            · have hi2 : π.1 6 ≤ i := hi2
              rw [b6 _ _ (by omega) (by omega)]; exact hc2.2.2 i hi hi2
        · unfold jonP; rw [hq]
          show (if k = 0 ∨ (π.2.2.2.1 k).isSome then none else some k) = none
          rw [if_pos]
          right
          cases hj : π.2.2.2.1 k with
          | some v => rfl
          | none =>
            unfold CPj at hcj
            rw [hj] at hcj
            exact absurd hcj c
theorem stF_w {w : Nat} (h : StPl sh fR p) (hw : w < 4) : StF sh fR (p + 5 + 3 * w) := by
  rcases (show w = 0 ∨ w = 1 ∨ w = 2 ∨ w = 3 by omega) with rfl | rfl | rfl | rfl
  · exact stF5 h
  · exact stF8 h
  · exact stF11 h
  · exact stF14 h
theorem fm_al {w : Nat} (hs : xOK π) (hw : w < 4) : fmOK (π.2.2.2.2 w) (decide (w = 0)) (al w) := by
  rcases (show w = 0 ∨ w = 1 ∨ w = 2 ∨ w = 3 by omega) with rfl | rfl | rfl | rfl
  · exact hs.1.2.2.2.2.2.2.2.2.1
  · exact hs.1.2.2.2.2.2.2.2.2.2.1
  · exact hs.1.2.2.2.2.2.2.2.2.2.2.1
  · exact hs.1.2.2.2.2.2.2.2.2.2.2.2
theorem T_form {K : Nat → FI → FL → Prop} {w : Nat} (h9 : RP9 sh fR A p q) (hd : 56 ≤ d) (hS : SC f A p tp (.ok (e, π))) (hs : xOK π) (hw : w < 4) (hW : isW tp e (10 + w) = true) (H : ∀ q' f', StF sh fR q' → A + 4 ≤ q' ∧ q' + 3 ≤ A + 38 → SC f' A p tp (forD tp π w e) → Fz A p f f' → K q' f' g) (hq : A + 4 ≤ q ∧ q + 3 ≤ A + 38) : Cl l G (d + 11) 0 0 mX9_readFormula [.ref (A + 38), .ref (p + 5 + 3 * w)] (sh, f, g, (up2 fR (A + 38) 7 (some q))) (qn sh fR (A + 38) K) := by
  have h9' := h9
  obtain ⟨h9, hp1, hp2⟩ := h9
  obtain ⟨hT, ho, hc⟩ := hS
  have hT : TS f A tp (.ok e) := hT
  have hc : CPr f p π := hc
  have hK := (isW_K hW).1
  have hl := hT.len
  have hst : StF sh fR (p + 5 + 3 * w) := stF_w h9.2.2.1 hw
  refine VX9_readFormula h9.1 h9.2.1 h9.2.2.1 h9.2.2.2 hst ?_
  unfold forD at H
  refine D_isTold (hst.fR7 (by omega)) (hc.1.2.2.2 w hw) (fm_al hs hw) (bI_cs (fun z => ?_) (fun z => ?_))
  · rw [z, if_neg Bool.false_ne_true] at H
    rw [up2_up2]
    have h14 : f (A + 38) 14 = nI (10 + w) := by
      rw [(hT.2.2.2.2.2.2.2.1 hK).2, (ownI_i (by omega)).mpr (isW_K hW).2]; rfl
    rw [h14]
    have h99 : R9 sh fR A p (p + 5 + 3 * w) := ⟨h9.1, h9.2.1, h9.2.2.1, hst⟩
    have hQ9 : RQ9 sh fR A p (p + 5 + 3 * w) := ⟨h99, by omega, by omega⟩
    have hF0 : ∀ r k, ¬ (r = A + 38 ∧ k = 8) → up2 f (A + 38) 8 (nI (10 + w)) r k = f r k := fun r k z => up2_ne z
    have hT0 : TS (up2 f (A + 38) 8 (nI (10 + w))) A tp (.ok e) := by
      obtain ⟨⟨c1, c2, c3, c4, c5⟩, d1, d2, t1, t2, t3, t4, t5, t6⟩ := hT
      exact ⟨⟨by rw [hF0 _ _ (by omega)]; exact c1, c2, fun k hk => by rw [hF0 _ _ (by omega)]; exact c3 k hk, c4, fun k o hk => by rw [hF0 _ _ (by omega)]; exact c5 k o hk⟩, by rw [hF0 _ _ (by omega)]; exact d1, d2, by rw [hF0 _ _ (by omega)]; exact t1, by rw [hF0 _ _ (by omega)]; exact t2, by rw [hF0 _ _ (by omega)]; exact t3, fun z => by rw [hF0 _ _ (by omega)]; exact t4 z, fun z => by rw [hF0 _ _ (by omega), hF0 _ _ (by omega)]; exact t5 z, fun z => by rw [hF0 _ _ (by omega)]; exact t6 z⟩
    refine K_advR (d := d + 8) h99 hT0 (fun e' he => by cases he; omega) (fun f1 a1 t1 => ?_)
    have t1 : TS f1 A tp (.ok (tkE tp e)) := t1
    have h8 : f1 (A + 38) 8 = nI (10 + w) := by rw [a1 _ _ (by omega), up2_eq]
    have o1 : f1 (A + 38) 9 = nI 0 := by rw [a1 _ _ (by omega), hF0 _ _ (by omega)]; exact ho
    have k1 : ∀ r k, r ≠ A + 38 → f1 r k = f r k := fun r k z => by rw [a1 _ _ (by omega), hF0 _ _ (by omega)]
    have hc1 : CPr f1 p π := hc.kp (fun r k x y => k1 _ _ (by omega))
    have hf0 : π.2.2.2.2 w = none := by
      cases hq : π.2.2.2.2 w with
      | none => rfl
      | some v => rw [hq] at z; cases z
    have hR : RS f1 A (p + 5 + 3 * w) tp w 0 0 (.ok (tkE tp e, [])) := by
      refine ⟨t1, h8, o1, by decide, ⟨?_, Nat.zero_le _, fun j o hj => by cases hj⟩, Nat.zero_le _⟩
      have := hc1.1.2.2.2 w hw
      unfold CPf at this
      rw [hf0] at this
      exact this
    obtain ⟨q1, -, q3⟩ := P_lvl (l := l) (G := G) (tp := tp) hQ9 hw 7 (by decide) d (by omega)
    have fin : ∀ (D : Nat → Rf) f2, frmD tp w (tkE tp e) = D (tkE tp e) → RS f2 A (p + 5 + 3 * w) tp w (7 - 7) 0 (ap (.ok (tkE tp e, [])) D) → Fx A (p + 5 + 3 * w) f1 f2 → (qn sh fR (A + 38) K) none (sh, f2, g, (up2 fR (A + 38) 7 (some (p + 5 + 3 * w)))) := by
      intro D f2 hD b1 b2
      rw [hD] at H
      have hF : Fz A p f f2 := fun r k z z2 => by rw [b2 r k z (by omega) (by omega), k1 r k z]
      refine ⟨_, _, _, rfl, rfl, hst, H _ f2 hst (by omega) ?_ hF⟩
      have ea : ap (.ok (tkE tp e, [])) D = D (tkE tp e) := by
        show bd (D (tkE tp e)) (fun y => .ok (y.1, [] ++ y.2)) = _
        cases D (tkE tp e) with
        | error x => rfl
        | ok y => rfl
      rw [ea] at b1
      cases hy : D (tkE tp e) with
      | error x => rw [hy] at b1; exact ⟨b1.1, trivial⟩
      | ok y =>
        rw [hy] at b1
        obtain ⟨c1, c2, c3, c4, c5, c6⟩ := b1
        refine ⟨c1, c3, ⟨fun i hi => ?_, fun k hk => ?_, fun k hk => ?_, fun i hi => ?_⟩, fun k hk => ?_, fun k hk hk2 => ?_⟩
        · rw [b2 _ _ (by omega) (by omega) (by omega)]; exact hc1.1.1 i hi
        · rw [b2 _ _ (by omega) (by omega) (by omega)]; exact hc1.1.2.1 k hk
        · have := hc1.1.2.2.1 k hk
          show CPj f2 p k (π.2.2.2.1 k)
          unfold CPj at this ⊢
          rw [b2 _ _ (by omega) (by omega) (by omega), b2 _ _ (by omega) (by omega) (by omega)]
          exact this
        · show CPf f2 (p + 5 + 3 * i) (fu π.2.2.2.2 w (some y.2) i)
          by_cases zi : i = w
          · rw [zi, fu_eq]; exact c5
          · rw [fu_ne zi]
            have := hc1.1.2.2.2 i hi
            unfold CPf at this ⊢
            cases hf : π.2.2.2.2 i with
            | none =>
              rw [hf] at this
              show f2 (p + 5 + 3 * i) 2 = nI 0
              rw [b2 _ _ (by omega) (by omega) (by omega)]; exact this
            | some ops =>
              rw [hf] at this
              refine FmC.congr this (fun k => ?_) (fun k => ?_)
              · exact b2 _ _ (by omega) (by omega) (by omega)
              · exact b2 _ _ (by omega) (by omega) (by omega)
        · rw [b2 _ _ (by omega) (by omega) (by omega)]; exact hc1.2.1 k hk
        · rw [b2 _ _ (by omega) (by omega) (by omega)]; exact hc1.2.2 k hk hk2
    rw [h8, nI_eq (by omega) (by decide)]
    refine ⟨fun c => q1 0 _ f1 g _ hR (fun f2 b1 b2 => fin _ f2 ?_ b1 b2), fun c => q3 0 _ f1 g _ hR (fun f2 b1 b2 => fin _ f2 ?_ b1 b2)⟩
    · unfold frmD; rw [if_neg (by omega)]
    · unfold frmD; rw [if_pos (by omega)]
  · rw [if_pos z] at H
    have hse := tkS_le hT.2.2.1
    refine K_blame (k := 6) (pl := tkS tp e) h9 hT (by decide) (fun e' z => ⟨hT.2.2.2.2.2.1, by omega⟩) (fun f3 b1 b2 => ⟨_, _, _, rfl, rfl, h9.2.2.2, H q f3 h9.2.2.2 hq ⟨b2, trivial⟩ b1.fz⟩)
theorem T_stm {K : Nat → FI → FL → Prop} {k : Nat} (h9 : RP9 sh fR A p q) (hd : 56 ≤ d) (hq : A + 4 ≤ q ∧ q + 3 ≤ A + 38) (hS : SC f A p tp (.ok (e, π))) (hs : xOK π) (hk : 0 < k ∧ k ≤ 40) (H : ∀ q' f', StF sh fR q' → A + 4 ≤ q' ∧ q' + 3 ≤ A + 38 → SC f' A p tp (if k < 40 then stmD tp π e else .error (6, tkS tp e)) → Fz A p f f' → K q' f' g) : Cl l G (d + 12) 0 0 mX9_readStatement [.ref (A + 38), .int (nI k)] (sh, f, g, (up2 fR (A + 38) 7 (some q))) (qn sh fR (A + 38) K) := by
  have h9' := h9
  obtain ⟨h9, hp1, hp2⟩ := h9
  have hT : TS f A tp (.ok e) := hS.1
  have ho : f (A + 38) 9 = nI 0 := hS.2.1
  have hc : CPr f p π := hS.2.2
  have hl := hT.len
  have hst := h9.2.2.2
  have hse := tkS_le hT.2.2.1
  refine VX9_readStatement h9.1 h9.2.1 h9.2.2.1 hst ?_
  refine ⟨fun _ => ?_, fun z => absurd z (nI_ne0 hk.1 (by omega))⟩
  rw [nI_ltI (by omega) (by decide)]
  refine ⟨fun c40 => ?_, fun c40 => ?_⟩
  · rw [if_pos c40] at H
    unfold stmD at H
    refine K_isWord h9 hT (by decide) (bI_cs (fun z1 => ?_) (fun z1 => ?_))
    · have z1 : isW tp e 4 = false := z1
      rw [z1, if_neg Bool.false_ne_true] at H
      refine K_isWord h9 hT (by decide) (bI_cs (fun z2 => ?_) (fun z2 => ?_))
      · have z2 : isW tp e 6 = false := z2
        rw [z2, if_neg Bool.false_ne_true] at H
        refine K_isWord h9 hT (by decide) (bI_cs (fun z3 => ?_) (fun z3 => ?_))
        · have z3 : isW tp e 9 = false := z3
          rw [z3, if_neg Bool.false_ne_true] at H
          refine K_isWord h9 hT (by decide) (bI_cs (fun z4 => ?_) (fun z4 => ?_))
          · have z4 : isW tp e 10 = false := z4
            rw [z4, if_neg Bool.false_ne_true] at H
            refine K_isWord h9 hT (by decide) (bI_cs (fun z5 => ?_) (fun z5 => ?_))
            · have z5 : isW tp e 11 = false := z5
              rw [z5, if_neg Bool.false_ne_true] at H
              refine K_isWord h9 hT (by decide) (bI_cs (fun z6 => ?_) (fun z6 => ?_))
              · have z6 : isW tp e 12 = false := z6
                rw [z6, if_neg Bool.false_ne_true] at H
                refine K_isWord h9 hT (by decide) (bI_cs (fun z7 => ?_) (fun z7 => ?_))
                · have z7 : isW tp e 13 = false := z7
                  rw [z7, if_neg Bool.false_ne_true] at H
                  exact K_blameHere h9 hT (fun f3 b1 b2 => ⟨_, _, _, rfl, rfl, hst, H q f3 hst hq ⟨b2, trivial⟩ b1.fz⟩)
                · have z7 : isW tp e 13 = true := z7
                  rw [if_pos z7] at H
                  exact T_form (w := 3) h9' hd hS hs (by decide) z7 (fun q' f' a1 a2 a3 a4 => ⟨_, _, _, rfl, rfl, a1, H q' f' a1 a2 a3 a4⟩) hq
              · have z6 : isW tp e 12 = true := z6
                rw [if_pos z6] at H
                exact T_form (w := 2) h9' hd hS hs (by decide) z6 (fun q' f' a1 a2 a3 a4 => ⟨_, _, _, rfl, rfl, a1, H q' f' a1 a2 a3 a4⟩) hq
            · have z5 : isW tp e 11 = true := z5
              rw [if_pos z5] at H
              exact T_form (w := 1) h9' hd hS hs (by decide) z5 (fun q' f' a1 a2 a3 a4 => ⟨_, _, _, rfl, rfl, a1, H q' f' a1 a2 a3 a4⟩) hq
          · have z4 : isW tp e 10 = true := z4
            rw [if_pos z4] at H
            exact T_form (w := 0) h9' hd hS hs (by decide) z4 (fun q' f' a1 a2 a3 a4 => ⟨_, _, _, rfl, rfl, a1, H q' f' a1 a2 a3 a4⟩) hq
        · have z3 : isW tp e 9 = true := z3
          rw [if_pos z3] at H
          unfold losD at H
          have hK := (isW_K z3).1
          refine K_advR (d := d + 9) h9 hT (fun e' he => by cases he; omega) (fun f1 a1 t1 => ?_)
          have t1 : TS f1 A tp (.ok (tkE tp e)) := t1
          refine K_exNum (d := d + 8) h9 t1 (by decide) (by decide) (fun f2 a2 t2 => ⟨_, _, _, rfl, rfl, hst, H q _ hst hq ?_ ((a1.ft.tr a2).fz.up (by omega))⟩)
          have k2 : ∀ r i, r ≠ A + 38 → f2 r i = f r i := fun r i z => by rw [a2 _ _ (by omega), a1 _ _ (by omega)]
          have hc2 : CPr f2 p π := hc.kp (fun r k x y => k2 _ _ (by omega))
          have t3 := t2.kp (f' := up2 f2 p 5 (nI (vOf (bd (.ok (tkE tp e)) (numD tp 0 100))))) (fun r k z => up2_r (by omega))
          rw [bd_ok] at t3 ⊢
          cases hy : numD tp 0 100 (tkE tp e) with
          | error x => rw [hy] at t3; exact ⟨t3, trivial⟩
          | ok y =>
            rw [hy] at t3
            have k3 : ∀ r i, ¬ (r = p ∧ i = 5) → up2 f2 p 5 (nI (vOf (.ok y : Rr (Nat × Nat)))) r i = f2 r i := fun r i z => up2_ne z
            refine ⟨t3, ?_, ⟨fun i hi => ?_, fun i hi => ?_, fun i hi => ?_, fun i hi => ?_⟩, fun i hi => ?_, fun i hi hi2 => ?_⟩
            · rw [k3 _ _ (by omega), a2 _ _ (by omega), a1 _ _ (by omega)]; exact ho
            · show up2 f2 p 5 (nI y.2) p i = nI (fu π.1 5 y.2 i)
              by_cases zi : i = 5
              · rw [zi, fu_eq, up2_eq]
              · rw [fu_ne zi, up2_k zi]; exact hc2.1.1 i hi
            · rw [k3 _ _ (by omega)]; exact hc2.1.2.1 i hi
            · have := hc2.1.2.2.1 i hi
              show CPj _ p i (π.2.2.2.1 i)
              unfold CPj at this ⊢
              rw [k3 _ _ (by omega), k3 _ _ (by omega)]
              exact this
            · have := hc2.1.2.2.2 i hi
              show CPf _ (p + 5 + 3 * i) (π.2.2.2.2 i)
              unfold CPf at this ⊢
              cases hf : π.2.2.2.2 i with
              | none =>
                rw [hf] at this
                show up2 f2 p 5 _ (p + 5 + 3 * i) 2 = nI 0
                rw [k3 _ _ (by omega)]; exact this
              | some ops =>
                rw [hf] at this
                exact FmC.congr this (fun k => k3 _ _ (by omega)) (fun k => k3 _ _ (by omega))
            · rw [k3 _ _ (by omega)]; exact hc2.2.1 i hi
            · rw [k3 _ _ (by omega)]; exact hc2.2.2 i hi hi2
      · have z2 : isW tp e 6 = true := z2
        rw [if_pos z2] at H
        exact T_join (d := d + 7) h9' hS hs z2 (fun f' a1 a2 => ⟨_, _, _, rfl, rfl, hst, H q f' hst hq a1 a2⟩)
    · have z1 : isW tp e 4 = true := z1
      rw [if_pos z1] at H
      exact T_path (d := d + 7) h9' hS hs z1 (fun f' a1 a2 => ⟨_, _, _, rfl, rfl, hst, H q f' hst hq a1 a2⟩)
  · rw [if_neg c40] at H
    exact K_blame (k := 6) (pl := tkS tp e) h9 hT (by decide) (fun e' z => ⟨hT.2.2.2.2.2.1, by omega⟩) (fun f3 b1 b2 => ⟨_, _, _, rfl, rfl, hst, H q f3 hst hq ⟨b2, trivial⟩ b1.fz⟩)
/-- what is left of the reading -/
def TX (f : FI) (A p : Nat) (tp : List Nat) (r : Rr Pl) : Prop := CK f A tp ∧ match r with
  | .ok π => f (A + 38) 1 = 0 ∧ CPr f p π
  | .error x => f (A + 38) 1 = nI x.1 ∧ 0 < x.1 ∧ x.1 ≤ 6 ∧ f (A + 38) 2 = nI x.2 ∧ x.2 ≤ 1600
theorem TS.tx {x : Nat × Nat} (h : TS f A tp (.error x)) : TX f A p tp (.error x) := ⟨h.1, h.2.1, h.2.2.1, h.2.2.2.1, h.2.2.2.2.1, h.2.2.2.2.2.1⟩
theorem T_er {Q : Option Value → Hp → Prop} {x : Nat × Nat} {a : Int32} (h9 : RP9 sh fR A p q) (hT : TS f A tp (.error x)) (H : Q none (sh, f, g, (up2 fR (A + 38) 7 (some q)))) : LpX9_readText_48 l G d Q sh fR A p q f g a := by
  have e1 := hT.2.1
  have e2 := hT.2.2.1
  have e3 := hT.2.2.2.1
  exact VX9_readText_48 h9.1.1 h9.1.2.1 h9.1.2.2.1 h9.1.2.2.2 ⟨fun _ => H, fun _ => ⟨fun _ => H, fun z => absurd z (by rw [e1]; exact nI_ne0 e2 (by omega))⟩⟩
theorem T_lp {K : Nat → FI → FL → Prop} {f0 : FI} (hd : 56 ≤ d) : ∀ (n k q : Nat) (f : FI) (e : Nat) (π : Pl), RP9 sh fR A p q → A + 4 ≤ q ∧ q + 3 ≤ A + 38 → n + k = 40 → 0 < k → SC f A p tp (.ok (e, π)) → xOK π → Fz A p f0 f → (∀ q' f', StF sh fR q' → A + 4 ≤ q' ∧ q' + 3 ≤ A + 38 → TX f' A p tp (lpT tp n π e) → Fz A p f0 f' → K q' f' g) → LpX9_readText_48 l G d (qn sh fR (A + 38) K) sh fR A p q f g (nI k) := by
  intro n
  induction n with
  | zero =>
    intro k q f e π h9 hq hn hk hS hs hF H
    have hk40 : k = 40 := by omega
    subst hk40
    have hT : TS f A tp (.ok e) := hS.1
    have hst := h9.1.2.2.2
    have hkk := @tkK_le tp e
    refine VX9_readText_48 h9.1.1 h9.1.2.1 h9.1.2.2.1 hst ⟨fun z => absurd z (by decide), fun _ => ⟨fun z => absurd hT.2.1 z, fun _ => ?_⟩⟩
    rw [hT.2.2.2.2.1, nI_0' (by omega)]
    unfold lpT at H
    refine ⟨fun c => ?_, fun c => ⟨fun z => absurd z (by decide), fun _ => ⟨_, _, _, rfl, rfl, hst, H q f hst hq ?_ hF⟩⟩⟩
    · rw [if_neg c] at H
      refine VX9_readText_73 h9.1.1 h9.1.2.1 h9.1.2.2.1 hst ?_
      refine T_stm h9 hd hq hS hs (by omega) (fun q1 f1 a1 a2 a3 a4 => ?_)
      rw [if_neg (by omega)] at a3
      have h91 : RP9 sh fR A p q1 := ⟨⟨h9.1.1, h9.1.2.1, h9.1.2.2.1, a1⟩, h9.2⟩
      have t1 : TS f1 A tp (.error (6, tkS tp e)) := a3.1
      refine K_exSign (d := d + 9) h91.1 t1 (by decide) (fun f2 b1 b2 => ?_)
      have b2 : TS f2 A tp (.error (6, tkS tp e)) := b2
      have b3 := b2.kp (f' := up2 f2 p 0 (f2 p 0 + nI 1)) (fun r k z => up2_r (by have := h9.2; omega))
      exact T_er h91 b3 ⟨_, _, _, rfl, rfl, a1, H q1 _ a1 a2 b3.tx (((hF.tr a4).tr b1.fz).up (by omega))⟩
    · rw [if_pos c]
      exact ⟨hT.1, hT.2.1, hS.2.2⟩
  | succ n ih =>
    intro k q f e π h9 hq hn hk hS hs hF H
    have hT : TS f A tp (.ok e) := hS.1
    have hst := h9.1.2.2.2
    have hkk := @tkK_le tp e
    refine VX9_readText_48 h9.1.1 h9.1.2.1 h9.1.2.2.1 hst ⟨fun z => absurd z (nI_nlt (by omega) (by omega)), fun _ => ⟨fun z => absurd hT.2.1 z, fun _ => ?_⟩⟩
    rw [hT.2.2.2.2.1, nI_0' (by omega)]
    unfold lpT at H
    refine ⟨fun c => ?_, fun c => ⟨fun z => absurd z (nI_nle hk (by omega)), fun _ => ⟨_, _, _, rfl, rfl, hst, H q f hst hq ?_ hF⟩⟩⟩
    · rw [if_neg c] at H
      refine VX9_readText_73 h9.1.1 h9.1.2.1 h9.1.2.2.1 hst ?_
      refine T_stm h9 hd hq hS hs (by omega) (fun q1 f1 a1 a2 a3 a4 => ?_)
      rw [if_pos (by omega)] at a3
      have h91 : RP9 sh fR A p q1 := ⟨⟨h9.1.1, h9.1.2.1, h9.1.2.2.1, a1⟩, h9.2⟩
      refine K_exSign (d := d + 9) h91.1 a3.1 (by decide) (fun f2 b1 b2 => ?_)
      have b3 := b2.kp (f' := up2 f2 p 0 (f2 p 0 + nI 1)) (fun r k z => up2_r (by have := h9.2; omega))
      have hF2 : Fz A p f0 (up2 f2 p 0 (f2 p 0 + nI 1)) := ((hF.tr a4).tr b1.fz).up (by omega)
      cases hy : stmD tp π e with
      | error x =>
        rw [hy] at b3 H
        exact T_er h91 b3 ⟨_, _, _, rfl, rfl, a1, H q1 _ a1 a2 (TS.tx b3) hF2⟩
      | ok y =>
        rw [hy, bd_ok] at H
        rw [hy] at b3 a3
        have b3 : TS (up2 f2 p 0 (f2 p 0 + nI 1)) A tp (exS tp 59 y.1) := b3
        cases hz : exS tp 59 y.1 with
        | error x =>
          rw [hz] at b3 H
          exact T_er h91 b3 ⟨_, _, _, rfl, rfl, a1, H q1 _ a1 a2 (TS.tx b3) hF2⟩
        | ok e' =>
          rw [hz, bd_ok] at H
          rw [hz] at b3
          rw [nI_add]
          have hsy := (stmD_ok hT.2.2.1 hy hs).1
          obtain ⟨-, o3, c3⟩ := a3
          have c3 : CPr f1 p y.2 := c3
          have c4 : CPr f2 p y.2 := c3.kp (fun r k x y => b1 _ _ (by have := h9.2; omega))
          have hh := h9.2
          have k3 : ∀ r i, ¬ (r = p ∧ i = 0) → up2 f2 p 0 (f2 p 0 + nI 1) r i = f2 r i := fun r i z => up2_ne z
          refine ih (k + 1) q1 _ e' _ h91 a2 (by omega) (by omega) ⟨b3, ?_, ⟨fun i hi => ?_, fun i hi => ?_, fun i hi => ?_, fun i hi => ?_⟩, fun i hi => ?_, fun i hi hi2 => ?_⟩ hsy.num0 hF2 H
          · rw [k3 _ _ (by omega), b1 _ _ (by omega)]; exact o3
          · show up2 f2 p 0 (f2 p 0 + nI 1) p i = nI (fu y.2.1 0 (y.2.1 0 + 1) i)
            by_cases zi : i = 0
            · rw [zi, fu_eq, up2_eq, c4.1.1 0 (by decide), nI_add]
            · rw [fu_ne zi, up2_k zi]; exact c4.1.1 i hi
          · rw [k3 _ _ (by omega)]; exact c4.1.2.1 i hi
          · have := c4.1.2.2.1 i hi
            show CPj _ p i (y.2.2.2.2.1 i)
            unfold CPj at this ⊢
            rw [k3 _ _ (by omega), k3 _ _ (by omega)]
            exact this
          · have := c4.1.2.2.2 i hi
            show CPf _ (p + 5 + 3 * i) (y.2.2.2.2.2 i)
            unfold CPf at this ⊢
            cases hf : y.2.2.2.2.2 i with
            | none =>
              rw [hf] at this
              show up2 f2 p 0 _ (p + 5 + 3 * i) 2 = nI 0
              rw [k3 _ _ (by omega)]; exact this
            | some ops =>
              rw [hf] at this
              exact FmC.congr this (fun k => k3 _ _ (by omega)) (fun k => k3 _ _ (by omega))
          · rw [k3 _ _ (by omega)]; exact c4.2.1 i hi
          · rw [k3 _ _ (by omega)]; exact c4.2.2 i hi hi2
    · rw [if_pos c]
      exact ⟨hT.1, hT.2.1, hS.2.2⟩
end CTX
