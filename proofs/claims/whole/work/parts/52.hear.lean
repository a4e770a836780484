/-! the class' tick: joins, answers -/
theorem WI.qN {π : Pl} {k t h : Nat} {c : Nat → Nat} {w : Wd} (hW : WI π k t c h w) (hk : k ≤ 500000) : qN w := fun p => by
  obtain ⟨b0, b1, b2, b3, -, b4, b5, -⟩ := hW.2.1 p
  exact ⟨b0, b1, b2, by omega, by omega, b5⟩
theorem maxS_comm (a b : Nat) : maxS a b = maxS b a := by
  unfold maxS
  split <;> split <;> omega
/-- a world's cells and the stacks of the formulas may change, of the world the components in L -/
def FW (L : List Nat) (x u : Nat) (f f' : FI) : Prop := Sx L x f f' ∧ FrW x u f f'
theorem FW.rf {L : List Nat} {x u : Nat} {f : FI} : FW L x u f f := ⟨Sx.rf, FrW.rf⟩
theorem FW.tr {L : List Nat} {x u : Nat} {f f' f'' : FI} (h : FW L x u f f') (h' : FW L x u f' f'') : FW L x u f f'' := ⟨h.1.tr h'.1, h.2.tr h'.2⟩
theorem FW.mono {L L' : List Nat} {x u : Nat} {f f' : FI} (h : FW L x u f f') (hL : ∀ c ∈ L, c ∈ L') : FW L' x u f f' := ⟨h.1.mono hL, h.2⟩
theorem Oc.fw {L : List Nat} {x u : Nat} {f f' : FI} (h : Oc L x f f') : FW L x u f f' := ⟨h.1, fun r k a _ _ _ _ => h.2 r k a⟩
theorem FW.up {L : List Nat} {x u j k : Nat} {f f' : FI} {v : Int32} (h : FW L x u f f') (hj : j < 32) (hc : comp j k ∈ L) : FW L x u f (up2 f' (x + j) k v) := ⟨h.1.up hc, h.2.up hj⟩
theorem FW.up0 {L : List Nat} {x u k : Nat} {f f' : FI} {v : Int32} (h : FW L x u f f') (hc : comp 0 k ∈ L) : FW L x u f (up2 f' x k v) := h.up (j := 0) (by decide) hc
theorem Oc.up0 {L : List Nat} {x k : Nat} {f f' : FI} {v : Int32} (h : Oc L x f f') (hc : comp 0 k ∈ L) : Oc L x f (up2 f' x k v) := h.up (j0 := 0) (by decide) hc
theorem Oc.upr {L : List Nat} {x p k : Nat} {f f' : FI} {v : Int32} (h : Oc L x f f') (hp : p < 4) (hc : (if k = 0 then 4 else if k = 5 then 3 else 2) ∈ L) : Oc L x f (up2 f' (x + 28 + p) k v) := by
  rw [Nat.add_assoc]
  exact h.up (by omega) (by rw [comp_rt hp]; exact hc)
section HA
variable {l : Launch} {G : Gx} {d : Nat} {sh : Sh} {fR : FRt} {x u : Nat} {f : FI} {g : FL} {π : Pl} {win : Nat} {dl : Nat → Nat} {t : Int} {w : Wd} {m : List (Nat × Nat)} {la : List An}
theorem CP.oc {L : List Nat} {f' : FI} (h : CP f u π) (hux : u + 17 ≤ x) (e : Oc L x f f') : CP f' u π := h.fr hux e.fw.2
theorem D_tryToken {K : Int32 → FI → FL → Prop} {p tok : Nat} (hs : StW sh fR x) (hu : fR x 7 = some u) (hU : StPl sh fR u) (hC : CW f x π win dl t w m la) (hc : CP f u π) (hq : qN w) (hπ : πOK π) (hp : p < 4) (ht : tok < 2 ^ 31) (H : ∀ f' : FI, CW f' x π win dl t (joinS π w p tok).1 m la → Oc [1, 2] x f f' → K (bI (joinS π w p tok).2) f' g) : Cl l G (d + 1) 0 0 mX10_tryToken [.ref x, .int (nI p), .int (nI tok)] (sh, f, g, fR) (qi sh fR K) := by
  obtain ⟨b0, b1, -⟩ := hq p
  have hkey := hπ.2.2.2.1
  have f4 : f u 4 = nI (π.1 4) := hc.1 4 (by decide)
  have r0 : f (x + 4) 0 = nI (w.1 10) := hC.1 10 (by unfold nset; omega)
  obtain ⟨t1, t2, t3⟩ := rt_ok hs hp
  have refuse : (w.2.1 p 0 = 1 ∨ w.2.1 p 1 = 1 ∨ tok ≠ tokS π) → LpX10_tryToken_34 l G d (qi sh fR K) sh fR x u f g := by
    intro hz
    refine VX10_tryToken_34 hs hu hU ?_
    have e : joinS π w p tok = (refS w 0, false) := by
      unfold joinS
      rw [if_pos hz]
    rw [e] at H
    rw [r0, nI_add]
    refine ⟨_, _, _, rfl, rfl, H _ ?_ (Oc.rf.up (by decide) (by show (1 : Nat) ∈ _; decide))⟩
    exact hC.setn (i := 10) (by unfold nset; omega)
  refine VX10_tryToken hs hu hU ?_
  rw [clN (by omega)]
  refine ⟨inbN hp (by decide), x + 28 + p, t1, t2, t3, D_isNew hs hC hq hp ⟨fun c => refuse ?_, fun c => ⟨fun c2 => refuse ?_, fun c2 => ⟨inbN hp (by decide), x + 28 + p, t1, t2, t3, _, _, _, rfl, rfl, ?_⟩⟩⟩⟩
  · have z := bI_0.mp c
    rw [Bool.and_eq_false_iff] at z
    simp only [beq_eq_false_iff_ne] at z
    omega
  · refine Or.inr (Or.inr (fun e => c2 ?_))
    rw [f4, pk_mul, nI_add, pk_rem (by omega) (by decide) (by decide), e]
    rfl
  · have z := bI_ne0 c
    rw [Bool.and_eq_true, beq_iff_eq, beq_iff_eq] at z
    rw [f4, pk_mul, nI_add, pk_rem (by omega) (by decide) (by decide), nI_eq ht (by omega)] at c2
    have e : joinS π w p tok = (entS w p, true) := by
      unfold joinS
      rw [if_neg]
      intro y
      rcases y with y | y | y
      · omega
      · omega
      · exact y c2
    rw [e] at H
    refine H _ ?_ ((Oc.rf.upr hp (by decide)).upr hp (by decide))
    exact (hC.setp (i := 0) (v := 1) hp (by decide)).setp (i := 2) (v := 2000) hp (by decide)
theorem D_joinTold {K : FI → FL → Prop} {k t0 h0 : Nat} {c : Nat → Nat} (hs : StW sh fR x) (hu : fR x 7 = some u) (hU : StPl sh fR u) (hux : u + 17 ≤ x) (hC : CW f x π win dl t w m la) (hc : CP f u π) (hW : WI π k t0 c h0 w) (hk : k ≤ 499000) (hπ : πOK π) (H : ∀ f' : FI, CW f' x π win dl t (joinsS π w) m la → Oc [1, 2] x f f' → K f' g) : Cl l G (d + 2) 0 0 mX10_joinTold [.ref x] (sh, f, g, fR) (qv sh fR K) := by
  have h4 := hπ.2.2.2.2.2.1
  have loop : ∀ n p (f0 : FI) (wj : Wd), n + p = π.1 6 → wj = forN p (jn1 π) w → CW f0 x π win dl t wj m la → WI π k t0 c h0 wj → Oc [1, 2] x f f0 → LpX10_joinTold_2 l G d (qv sh fR K) sh fR x u f0 g (nI p) := by
    intro n
    induction n with
    | zero =>
      intro p f0 wj hp hwj hC0 hWj hO
      rw [Nat.zero_add] at hp
      subst hp
      have hc0 := hc.oc hux hO
      refine VX10_joinTold_2 hs hu hU ?_
      rw [hc0.1 6 (by decide)]
      refine ⟨fun _ => ⟨_, _, rfl, rfl, H f0 ?_ hO⟩, fun z => absurd (nI_le (Nat.le_refl _) (by omega)) z⟩
      rw [joinsS_eq, ← hwj]
      exact hC0
    | succ n ih =>
      intro p f0 wj hp hwj hC0 hWj hO
      have hc0 := hc.oc hux hO
      have hj := hc0.2.2.1 p (by omega)
      have t8 : f0 x 8 = nI (wj.1 0) := hC0.1 0 (by unfold nset; omega)
      have hw0 : wj.1 0 ≤ 1000 := hWj.1.1
      have nx : ∀ (f1 : FI), CW f1 x π win dl t (jn1 π p wj) m la → WI π k t0 c h0 (jn1 π p wj) → Oc [1, 2] x f f1 → LpX10_joinTold_44 l G d (qv sh fR K) sh fR x u f1 g (nI p) := by
        intro f1 q1 q2 q3
        refine VX10_joinTold_44 hs hu hU ?_
        rw [nI_add]
        refine ih (p + 1) f1 (jn1 π p wj) (by omega) ?_ q1 q2 q3
        show _ = jn1 π p (forN p (jn1 π) w)
        rw [← hwj]
      refine VX10_joinTold_2 hs hu hU ?_
      rw [hc0.1 6 (by decide), clN (by omega), t8]
      refine ⟨fun z => absurd z (nI_ge (by omega) (by omega)), fun _ => ⟨inbN (by omega) (by decide), fun c1 => ?_, fun c1 => ⟨inbN (by omega) (by decide), ?_⟩⟩⟩
      · have e : jn1 π p wj = wj := by
          unfold jn1
          unfold CPj at hj
          cases hq : π.2.2.2.1 p with
          | none => rfl
          | some q =>
            obtain ⟨t, tok⟩ := q
            rw [hq] at hj
            dsimp only at hj ⊢
            rw [if_neg]
            intro z
            exact c1 (by rw [hj.1, z])
        exact nx f0 (by rw [e]; exact hC0) (by rw [e]; exact hWj) hO
      · unfold CPj at hj
        cases hq : π.2.2.2.1 p with
        | none =>
          rw [hq] at hj
          dsimp only at hj
          rw [hj] at c1
          exact absurd c1.symm (nI_m1 (by omega))
        | some q =>
          obtain ⟨t, tok⟩ := q
          rw [hq] at hj
          dsimp only at hj
          have hb2 := hπ.2.2.2.2.2.2.2.1 p t tok hq
          rw [hj.1] at c1
          have zt : t = wj.1 0 := (nI_eq (by omega) (by omega)).mp c1
          rw [hj.2]
          have e : jn1 π p wj = (joinS π wj p tok).1 := by
            unfold jn1
            rw [hq]
            dsimp only
            rw [if_pos zt]
          refine D_tryToken hs hu hU hC0 hc0 (hWj.qN (by omega)) hπ (by omega) (by omega) (fun f1 q1 q2 => nx f1 (by rw [e]; exact q1) (by rw [e]; exact hWj.join) (hO.tr q2))
  refine VX10_joinTold hs hu hU ?_
  exact loop (π.1 6) 0 f w rfl rfl hC hW Oc.rf
/-- one flies no more -/
theorem cntF_set : ∀ {l : List Sg} {j : Nat} {s : Sg} {p : Nat}, l[j]? = some s → s.2.2.2.2.2.2.1 = true → cntF l p = cntF (l.set j (sgFl s false)) p + (if s.1 = p then 1 else 0)
  | [], j, s, p, h, _ => by simp at h
  | y :: l, 0, s, p, h, hf => by
    simp at h
    subst h
    unfold cntF
    rw [List.set_cons_zero, List.countP_cons, List.countP_cons]
    have z1 : ((sgFl y false).2.2.2.2.2.2.1 && (sgFl y false).1 == p) = false := rfl
    have z2 : (y.2.2.2.2.2.2.1 && y.1 == p) = (y.1 == p) := by rw [hf, Bool.true_and]
    rw [z1, z2]
    by_cases e : y.1 = p <;> simp [e]
  | y :: l, j + 1, s, p, h, hf => by
    simp at h
    have := cntF_set (p := p) h hf
    unfold cntF at this ⊢
    rw [List.set_cons_succ, List.countP_cons, List.countP_cons, this]
    omega
theorem CW.off {k : Nat} {s : Sg} (h : CW f x π win dl t w m la) (hk : w.2.2.1[k]? = some s) (hf : s.2.2.2.2.2.2.1 = true) (h4 : s.1 < 4) : CW (up2 (up2 f (x + 13) k (nI 0)) (x + 28 + s.1) 5 (f (x + 28 + s.1) 5 - nI 1)) x π win dl t (wsg w (w.2.2.1.set k (sgFl s false))) m la ∧ Oc [3, 5] x f (up2 (up2 f (x + 13) k (nI 0)) (x + 28 + s.1) 5 (f (x + 28 + s.1) 5 - nI 1)) := by
  have hO : Oc [3, 5] x f (up2 (up2 f (x + 13) k (nI 0)) (x + 28 + s.1) 5 (f (x + 28 + s.1) 5 - nI 1)) := (Oc.rf.up (by decide) (by show (5 : Nat) ∈ _; decide)).upr h4 (by decide)
  refine ⟨h.repg (hO.1.mono (by decide)) (fun p hp => ?_) ⟨?_, ?_, fun j z hz => ?_⟩, hO⟩
  · have e := cntF_set (p := p) hk hf
    have hl : cntF w.2.2.1 p ≤ 500 := Nat.le_trans List.countP_le_length h.2.2.2.2.1.2.1
    by_cases ep : p = s.1
    · subst ep
      rw [if_pos rfl] at e
      rw [up2_eq, h.2.2.1 s.1 h4, pk_sub (by omega)]
      congr 1
      omega
    · rw [if_neg (fun z => ep z.symm)] at e
      rw [up2_r (by omega), up2_r (by omega), h.2.2.1 p hp, e]
      rfl
  · rw [up2_r (by omega), up2_r (by omega), List.length_set]
    exact h.2.2.2.2.1.1
  · rw [List.length_set]
    exact h.2.2.2.2.1.2.1
  · by_cases ej : j = k
    · subst ej
      rw [List.getElem?_set_self (List.getElem?_eq_some_iff.mp hk).1] at hz
      cases hz
      obtain ⟨a1, a2, a3, a4, a5, a6, a7, a8⟩ := h.2.2.2.2.1.2.2 j s hk
      refine ⟨?_, ?_, ?_, ?_, ?_, ?_, ?_, ?_⟩
      · rw [up2_r (by omega), up2_r (by omega)]; exact a1
      · rw [up2_r (by omega), up2_r (by omega)]; exact a2
      · rw [up2_r (by omega), up2_r (by omega)]; exact a3
      · rw [up2_r (by omega), up2_r (by omega)]; exact a4
      · rw [up2_r (by omega), up2_r (by omega)]; exact a5
      · rw [up2_r (by omega), up2_r (by omega)]; exact a6
      · rw [up2_r (by omega), up2_r (by omega)]; exact a7
      · rw [up2_r (by omega), up2_eq]; rfl
    · rw [List.getElem?_set_ne (fun z => ej z.symm)] at hz
      refine (h.2.2.2.2.1.2.2 j z hz).cg (fun i _ _ => ?_)
      rw [up2_r (by omega), up2_ne (by omega)]
theorem wpt_self (w : Wd) (p i : Nat) : wpt w p i (w.2.1 p i) = w := by
  unfold wpt
  have : up2 w.2.1 p i (w.2.1 p i) = w.2.1 := by
    funext a b
    by_cases e : a = p ∧ b = i
    · rw [e.1, e.2, up2_eq]
    · exact up2_ne e
  rw [this]
theorem qN.pt {p i v : Nat} (hq : qN w) (hv : (i = 0 → v ≤ 1) ∧ (i = 1 → v ≤ 1) ∧ (i = 2 → v ≤ 99000) ∧ (i = 3 → v ≤ 500000) ∧ (i = 4 → v ≤ 500000) ∧ (i = 5 → v ≤ 1)) : qN (wpt w p i v) := by
  intro q
  have e : ∀ j, (wpt w p i v).2.1 q j = if q = p ∧ j = i then v else w.2.1 q j := fun j => rfl
  rw [e 0, e 1, e 2, e 3, e 4, e 5]
  obtain ⟨b0, b1, b2, b3, b4, b5⟩ := hq q
  obtain ⟨v0, v1, v2, v3, v4, v5⟩ := hv
  refine ⟨?_, ?_, ?_, ?_, ?_, ?_⟩ <;> (split; (next z => have := z.2; omega); assumption)
theorem qN.sg {lg : List Sg} (hq : qN w) : qN (wsg w lg) := hq
theorem D_settle {K : FI → FL → Prop} {k : Nat} {s : Sg} (hs : StW sh fR x) (hu : fR x 7 = some u) (hU : StPl sh fR u) (hux : u + 17 ≤ x) (hC : CW f x π win dl t w m la) (hc : CP f u π) (hq : qN w) (hπ : πOK π) (hk : w.2.2.1[k]? = some s) (hf : s.2.2.2.2.2.2.1 = true) (h4 : s.1 < 4) (H : ∀ f' : FI, CW f' x π win dl t (growS π (wpt (wsg w (w.2.2.1.set k (sgFl s false))) s.1 3 0) s.1) m la → Oc [2, 3, 5] x f f' → K f' g) : Cl l G (d + 2) 0 0 mX10_settle [.ref x, .int (nI k)] (sh, f, g, fR) (qv sh fR K) := by
  have hp4 := hπ.2.2.2.2.2.1
  have hlen := hC.2.2.2.2.1.2.1
  have hklt := (List.getElem?_eq_some_iff.mp hk).1
  obtain ⟨a1, -⟩ := hC.2.2.2.2.1.2.2 k s hk
  obtain ⟨t1, t2, t3⟩ := rt_ok hs h4
  obtain ⟨c1, o1⟩ := hC.off hk hf h4
  refine VX10_settle hs hu hU ?_
  rw [clN (by omega), a1, clN (by omega)]
  refine ⟨inbN (by omega) (by decide), inbN h4 (by decide), x + 28 + s.1, t1, t2, t3, inbN (by omega) (by decide), ?_⟩
  have c2 := c1.setp (p := s.1) (i := 3) (v := 0) h4 (by decide)
  have o2 : Oc [2, 3, 5] x f (up2 (up2 (up2 f (x + 13) k (nI 0)) (x + 28 + s.1) 5 (f (x + 28 + s.1) 5 - nI 1)) (x + 28 + s.1) 4 (nI 0)) := (o1.mono (by decide)).upr h4 (by decide)
  have hq2 : qN (wpt (wsg w (w.2.2.1.set k (sgFl s false))) s.1 3 0) := hq.sg.pt (by omega)
  show LpX10_settle_45 l G d (qv sh fR K) sh fR x u (up2 (up2 (up2 f (x + 13) k (nI 0)) (x + 28 + s.1) 5 (f (x + 28 + s.1) 5 - nI 1)) (x + 28 + s.1) 4 (nI 0)) g (x + 28 + s.1) (nI 0) (nI 0)
  generalize hf2 : up2 (up2 (up2 f (x + 13) k (nI 0)) (x + 28 + s.1) 5 (f (x + 28 + s.1) 5 - nI 1)) (x + 28 + s.1) 4 (nI 0) = f2 at o2
  replace c2 : CW f2 x π win dl t (wpt (wsg w (w.2.2.1.set k (sgFl s false))) s.1 3 0) m la := by rw [← hf2]; exact c2
  clear hf2
  generalize hw2 : wpt (wsg w (w.2.2.1.set k (sgFl s false))) s.1 3 0 = w2 at c2 hq2 H
  have hc2 := hc.oc hux o2
  have hbound : ∀ n, forN n (fun p n => if freS w2 p then n + w2.2.1 p 2 else n) 0 ≤ n * 99000 := fun n => forN_le (fun p y => by
    split
    · have := (hq2 p).2.2.1
      omega
    · omega)
  have loop : ∀ n p, n + p = π.1 6 → LpX10_settle_45 l G d (qv sh fR K) sh fR x u f2 g (x + 28 + s.1) (nI (forN p (fun p n => if freS w2 p then n + w2.2.1 p 2 else n) 0)) (nI p) := by
    intro n
    induction n with
    | zero =>
      intro p hp
      rw [Nat.zero_add] at hp
      subst hp
      refine VX10_settle_45 hs hu hU ⟨t2, t3⟩ ?_
      rw [hc2.1 6 (by decide)]
      have eal : forN (π.1 6) (fun p n => if freS w2 p then n + w2.2.1 p 2 else n) 0 = allS π w2 := rfl
      rw [eal]
      have hb : allS π w2 ≤ π.1 6 * 99000 := hbound (π.1 6)
      have hb2 : allS π w2 ≤ 396000 := by
        have : π.1 6 * 99000 ≤ 4 * 99000 := Nat.mul_le_mul_right _ hp4
        omega
      refine ⟨fun _ => ⟨fun z => ?_, fun z => ⟨fun z2 => z (by rw [z2]; exact Int32.le_refl _), ?_⟩⟩, fun z => absurd (nI_le (Nat.le_refl _) (by omega)) z⟩
      · have z0 : allS π w2 = 0 := by
          refine Nat.eq_zero_of_not_pos (fun y => ?_)
          exact nI_nle y (by omega) z
        refine ⟨_, _, rfl, rfl, H f2 ?_ o2⟩
        have e : growS π w2 s.1 = w2 := by
          unfold growS
          rw [z0, Nat.div_zero, Nat.add_zero, if_neg (by have := (hq2 s.1).2.2.1; omega)]
          exact wpt_self _ _ _
        rw [e]
        exact c2
      · have hpos : 0 < allS π w2 := by
          refine Nat.pos_of_ne_zero (fun y => z ?_)
          rw [y]
          exact Int32.le_refl _
        rw [pk_div (by decide) hpos (by omega)]
        have hdl : 1000000 / allS π w2 ≤ 1000000 := Nat.div_le_self _ _
        refine D_grow hs c2 hq2 h4 hdl (fun f3 q1 q2 => ⟨_, _, rfl, rfl, H f3 q1 (o2.tr (q2.mono (by decide)))⟩)
    | succ n ih =>
      intro p hp
      have hb := hbound p
      have hb1 : p * 99000 ≤ 3 * 99000 := Nat.mul_le_mul_right _ (by omega)
      obtain ⟨r1, r2, r3⟩ := rt_ok hs (show p < 4 by omega)
      refine VX10_settle_45 hs hu hU ⟨t2, t3⟩ ?_
      rw [hc2.1 6 (by decide), clN (by omega)]
      refine ⟨fun z => absurd z (nI_ge (by omega) (by omega)), fun _ => ⟨inbN (by omega) (by decide), x + 28 + p, r1, r2, r3, D_isAlive hs c2 hq2 (by omega) ⟨fun z => ?_, fun z => ⟨inbN (by omega) (by decide), x + 28 + p, r1, r2, r3, fun y ey => ?_⟩⟩⟩⟩
      · refine VX10_settle_83 hs hu hU ⟨t2, t3⟩ ?_
        rw [nI_add]
        have := ih (p + 1) (by omega)
        have e : forN (p + 1) (fun p n => if freS w2 p then n + w2.2.1 p 2 else n) 0 = forN p (fun p n => if freS w2 p then n + w2.2.1 p 2 else n) 0 := by
          show (if freS w2 p then _ else _) = _
          rw [bI_0.mp z]
          rfl
        rw [e] at this
        exact this
      · refine VX10_settle_83 hs hu hU ⟨t2, t3⟩ ?_
        have := ih (p + 1) (by omega)
        have e : forN (p + 1) (fun p n => if freS w2 p then n + w2.2.1 p 2 else n) 0 = forN p (fun p n => if freS w2 p then n + w2.2.1 p 2 else n) 0 + w2.2.1 p 2 := by
          show (if freS w2 p then _ else _) = _
          rw [bI_ne0 z]
          rfl
        rw [e] at this
        rw [ey, (c2.rt (show p < 4 by omega)).2.2.2.1, nI_add, nI_add]
        exact this
  exact loop (π.1 6) 0 rfl
theorem at_eq {p n : Nat} : (fun s : Sg => s.1 == p && some n == some s.2.1 && s.2.2.2.2.2.2.1) = (fun s : Sg => s.1 == p && s.2.1 == n && s.2.2.2.2.2.2.1) := by
  funext s
  by_cases e : s.2.1 = n
  · simp [e]
  · have e2 : ¬ n = s.2.1 := fun z => e z.symm
    have h1 : (some n == some s.2.1) = false := by simpa using e2
    have h2 : (s.2.1 == n) = false := by simpa using e
    rw [h1, h2]
theorem findIdx_none {α : Type} {P : α → Bool} (l : List α) (h : ∀ a, P a = false) : l.findIdx? P = none := by
  rw [List.findIdx?_eq_none_iff]
  exact fun a _ => h a
theorem D_hear {K : FI → FL → Prop} {k t0 h0 : Nat} {c : Nat → Nat} (hs : StW sh fR x) (hu : fR x 7 = some u) (hU : StPl sh fR u) (hux : u + 17 ≤ x) (hC : CW f x π win dl t w m w.2.2.2.2.1) (hc : CP f u π) (hW : WI π k t0 c h0 w) (hk : k ≤ 499000) (hπ : πOK π) (H : ∀ f' : FI, CW f' x π win dl t (hearS π w) m w.2.2.2.2.1 → Oc [1, 2, 3, 5] x f f' → K f' g) : Cl l G (d + 3) 0 0 mX10_hearAnswers [.ref x] (sh, f, g, fR) (qv sh fR K) := by
  have hp4 := hπ.2.2.2.2.2.1
  have hlen := hC.2.2.2.2.2.2.1.2.1
  have loop : ∀ (R D : List An) (f0 : FI) (w1 : Wd), w.2.2.2.2.1 = D ++ R → w1 = (D.filter (dueA (w.1 0))).foldl (hear1 π) w → CW f0 x π win dl t w1 m w.2.2.2.2.1 → HI π k t0 c h0 w w1 → Oc [1, 2, 3, 5] x f f0 → LpX10_hearAnswers_2 l G d (qv sh fR K) sh fR x u f0 g (nI D.length) := by
    intro R
    induction R with
    | nil =>
      intro D f0 w1 e hw1 hC0 hI hO
      rw [List.append_nil] at e
      refine VX10_hearAnswers_2 hs hu hU ?_
      rw [hC0.2.2.2.2.2.2.1.1, e]
      refine ⟨fun _ => ⟨_, _, rfl, rfl, H f0 ?_ hO⟩, fun z => absurd (nI_le (Nat.le_refl _) (by rw [← e]; omega)) z⟩
      have e2 : hearS π w = pcF (wan w1 (w.2.2.2.2.1.filter (fun a => !dueA (w.1 0) a))) := by
        show pcF ((w.2.2.2.2.1.filter (dueA (w.1 0))).foldl (hear1 π) (wan w (w.2.2.2.2.1.filter (fun a => !dueA (w.1 0) a)))) = _
        rw [foldl_hear1_an, hw1, e]
      rw [e2, e]
      rw [e] at hC0
      exact hC0
    | cons a R ih =>
      intro D f0 w1 e hw1 hC0 hI hO
      have hka : w.2.2.2.2.1[D.length]? = some a := by rw [e]; exact at_len
      have hlt : D.length < w.2.2.2.2.1.length := (List.getElem?_eq_some_iff.mp hka).1
      have ham : a ∈ w.2.2.2.2.1 := List.mem_of_getElem? hka
      obtain ⟨a1, a2, a3, a4, a5⟩ := hC0.2.2.2.2.2.2.1.2.2 D.length a hka
      obtain ⟨hN, h01, hall⟩ := hI.wn hW hπ hk
      have hq1 : qN w1 := hI.1.qN (by omega)
      have hok := hN.2.2.1
      have haok := (hW.wN hπ hk).2.2.2 a ham
      have ht8 : f0 x 8 = nI (w1.1 0) := hC0.1 0 (by unfold nset; omega)
      have hn2 : f0 x 10 = nI (w1.1 2) := hC0.1 2 (by unfold nset; omega)
      have hn3 : f0 x 11 = nI (w1.1 3) := hC0.1 3 (by unfold nset; omega)
      have b0 := hN.1 0 (by decide)
      have b2 := hN.1 2 (by decide)
      have b3 := hN.1 3 (by decide)
      obtain ⟨q0, q1, q2, q3, q4⟩ := haok
      have ih2 := ih (D ++ [a])
      rw [List.length_append, List.length_singleton] at ih2
      refine VX10_hearAnswers_2 hs hu hU ?_
      rw [hC0.2.2.2.2.2.2.1.1, clN (by omega), a5, a3, ht8, hn2, h01]
      refine ⟨fun z => absurd z (nI_ge hlt (by omega)), fun _ => ⟨inbN (by omega) (by decide), fun c1 => ?_, fun c1 => ⟨inbN (by omega) (by decide), ?_⟩⟩⟩
      · have z : dueA (w.1 0) a = false := by
          unfold dueA
          simp only [beq_eq_false_iff_ne]
          intro z
          exact c1 (by rw [z])
        refine VX10_hearAnswers_105 hs hu hU ?_
        rw [nI_add]
        refine ih2 f0 w1 (by rw [e]; simp) ?_ hC0 hI hO
        rw [hw1, List.filter_append]
        simp [z]
      · have zd : a.2.2.2.2.1 = w.1 0 := (nI_eq (by omega) (by rw [← h01]; omega)).mp c1
        have z : dueA (w.1 0) a = true := by
          unfold dueA
          simp [zd]
        have hI2 := hI.nx hW ham zd
        have fin : ∀ (f1 : FI), CW f1 x π win dl t (hear1 π w1 a) m w.2.2.2.2.1 → Oc [1, 2, 3, 5] x f0 f1 → LpX10_hearAnswers_105 l G d (qv sh fR K) sh fR x u f1 g (nI D.length) := by
          intro f1 r1 r2
          refine VX10_hearAnswers_105 hs hu hU ?_
          rw [nI_add]
          refine ih2 f1 (hear1 π w1 a) (by rw [e]; simp) ?_ r1 hI2 (hO.tr r2)
          rw [List.filter_append, List.foldl_append, ← hw1]
          simp [z]
        refine D_maxN (by omega) (by omega) ?_
        rw [maxS_comm (w1.1 2) a.2.2.1]
        have hCa := hC0.setn (i := 2) (v := maxS a.2.2.1 (w1.1 2)) (by unfold nset; omega)
        replace hCa : CW (up2 f0 x 10 (nI (maxS a.2.2.1 (w1.1 2)))) x π win dl t (wsc w1 2 (maxS a.2.2.1 (w1.1 2))) m w.2.2.2.2.1 := hCa
        have oA : Oc [1, 2, 3, 5] x f0 (up2 f0 x 10 (nI (maxS a.2.2.1 (w1.1 2)))) := Oc.rf.up0 (by decide)
        refine ⟨inbN (by omega) (by decide), ?_⟩
        rw [hn3, a4]
        refine D_maxN (by omega) (by omega) ?_
        rw [maxS_comm (w1.1 3) a.2.2.2.1]
        have hCb := hCa.setn (i := 3) (v := maxS a.2.2.2.1 (w1.1 3)) (by unfold nset; omega)
        replace hCb : CW (up2 (up2 f0 x 10 (nI (maxS a.2.2.1 (w1.1 2)))) x 11 (nI (maxS a.2.2.2.1 (w1.1 3)))) x π win dl t (wsc (wsc w1 2 (maxS a.2.2.1 (w1.1 2))) 3 (maxS a.2.2.2.1 (w1.1 3))) m w.2.2.2.2.1 := hCb
        have oB : Oc [1, 2, 3, 5] x f0 (up2 (up2 f0 x 10 (nI (maxS a.2.2.1 (w1.1 2)))) x 11 (nI (maxS a.2.2.2.1 (w1.1 3)))) := oA.up0 (by decide)
        refine ⟨inbN (by omega) (by decide), inbN (by omega) (by decide), ?_⟩
        have ea : (up2 f0 x 10 (nI (maxS a.2.2.1 (w1.1 2)))) (x + 15) D.length = nI a.1 := by rw [up2_r (by omega)]; exact a1
        have eb : (up2 f0 x 10 (nI (maxS a.2.2.1 (w1.1 2)))) (x + 16) D.length = oI a.2.1 := by rw [up2_r (by omega)]; exact a2
        rw [ea, eb]
        generalize hfB : up2 (up2 f0 x 10 (nI (maxS a.2.2.1 (w1.1 2)))) x 11 (nI (maxS a.2.2.2.1 (w1.1 3))) = fB at hCb oB
        refine D_rowOf hs hCb.2.2.2.2.1 (fun s hs => ⟨(hok s hs).1, (hok s hs).2.1⟩) q0 q1 ?_
        have hcB := (hc.oc hux hO).oc hux oB
        cases hno : a.2.1 with
        | none =>
          have e0 : ((wsc (wsc w1 2 (maxS a.2.2.1 (w1.1 2))) 3 (maxS a.2.2.2.1 (w1.1 3))).2.2.1.findIdx? (fun s => s.1 == a.1 && (none : Option Nat) == some s.2.1 && s.2.2.2.2.2.2.1)) = none := findIdx_none _ (fun s => by
            have : ((none : Option Nat) == some s.2.1) = false := rfl
            rw [this]
            simp)
          have eh : hear1 π w1 a = wsc (wsc w1 2 (maxS a.2.2.1 (w1.1 2))) 3 (maxS a.2.2.2.1 (w1.1 3)) := by
            unfold hear1
            rw [hno]
          rw [e0]
          refine ⟨fun _ => fin fB (by rw [eh]; exact hCb) oB, fun y => absurd rfl y⟩
        | some n =>
          have e0 : ((wsc (wsc w1 2 (maxS a.2.2.1 (w1.1 2))) 3 (maxS a.2.2.2.1 (w1.1 3))).2.2.1.findIdx? (fun s => s.1 == a.1 && some n == some s.2.1 && s.2.2.2.2.2.2.1)) = atS (wsc (wsc w1 2 (maxS a.2.2.1 (w1.1 2))) 3 (maxS a.2.2.2.1 (w1.1 3))) a.1 n := by
            rw [at_eq]
            rfl
          rw [e0]
          have eh : hear1 π w1 a = match atS (wsc (wsc w1 2 (maxS a.2.2.1 (w1.1 2))) 3 (maxS a.2.2.2.1 (w1.1 3))) a.1 n with
            | none => wsc (wsc w1 2 (maxS a.2.2.1 (w1.1 2))) 3 (maxS a.2.2.2.1 (w1.1 3))
            | some k => growS π (wpt (wsg (wsc (wsc w1 2 (maxS a.2.2.1 (w1.1 2))) 3 (maxS a.2.2.2.1 (w1.1 3))) ((wsc (wsc w1 2 (maxS a.2.2.1 (w1.1 2))) 3 (maxS a.2.2.2.1 (w1.1 3))).2.2.1.modify k (fun s => sgFl s false))) a.1 3 0) a.1 := by
            unfold hear1
            rw [hno]
            rfl
          cases hat : atS (wsc (wsc w1 2 (maxS a.2.2.1 (w1.1 2))) 3 (maxS a.2.2.2.1 (w1.1 3))) a.1 n with
          | none =>
            rw [hat] at eh
            refine ⟨fun _ => fin fB (by rw [eh]; exact hCb) oB, fun y => absurd rfl y⟩
          | some j =>
            rw [hat] at eh
            unfold atS at hat
            obtain ⟨hjlt, hjp, -⟩ := List.findIdx?_eq_some_iff_getElem.mp hat
            have hj : w1.2.2.1[j]? = some w1.2.2.1[j] := List.getElem?_eq_getElem hjlt
            replace hjp : (w1.2.2.1[j].1 == a.1 && w1.2.2.1[j].2.1 == n && w1.2.2.1[j].2.2.2.2.2.2.1) = true := hjp
            have hjlt2 : j < w1.2.2.1.length := hjlt
            generalize w1.2.2.1[j] = s at hj hjp
            simp only [Bool.and_eq_true, beq_iff_eq] at hjp
            have hl5 := hC0.2.2.2.2.1.2.1
            refine ⟨fun y => absurd y (nI_m1 (by omega)), fun _ => ?_⟩
            refine D_settle hs hu hU hux hCb hcB hq1 hπ hj hjp.2 (by rw [hjp.1.1]; exact q0) (fun f2 r1 r2 => ?_)
            refine fin f2 ?_ (oB.tr (r2.mono (by decide)))
            rw [eh]
            have hmod : (wsc (wsc w1 2 (maxS a.2.2.1 (w1.1 2))) 3 (maxS a.2.2.2.1 (w1.1 3))).2.2.1.modify j (fun s => sgFl s false) = w1.2.2.1.set j (sgFl s false) := modify_set _ hj
            rw [hjp.1.1] at r1
            show CW f2 x π win dl t (growS π (wpt (wsg (wsc (wsc w1 2 (maxS a.2.2.1 (w1.1 2))) 3 (maxS a.2.2.2.1 (w1.1 3))) ((wsc (wsc w1 2 (maxS a.2.2.1 (w1.1 2))) 3 (maxS a.2.2.2.1 (w1.1 3))).2.2.1.modify j (fun s => sgFl s false))) a.1 3 0) a.1) m w.2.2.2.2.1
            rw [hmod]
            exact r1
  refine VX10_hearAnswers hs hu hU ?_
  exact loop w.2.2.2.2.1 [] f w rfl rfl hC (HI.st hW) Oc.rf
end HA
