/-! the class' tick: a path is picked, segments are sent -/
theorem PWn.set {f : FI} {x i v : Nat} {s : Nat → Nat} (h : PWn f x s) (hi : nset i) : PWn (up2 f (x + cnr i) (cnk i) (nI v)) x (fu s i v) := fun j hj => by
  unfold fu
  by_cases ej : j = i
  · subst ej
    rw [up2_eq, if_pos rfl]
  · rw [if_neg ej, up2_ne (fun z => ej (cn_inj hj hi ⟨by omega, z.2⟩))]
    exact h j hj
theorem PWq.set {f : FI} {x p i v : Nat} {pt : Nat → Nat → Nat} (h : PWq f x pt) (hp : p < 4) (hi : i < 6) : PWq (up2 f (x + 28 + p) (qk i) (nI v)) x (up2 pt p i v) := fun q j hq hj => by
  by_cases ej : q = p ∧ j = i
  · rw [ej.1, ej.2, up2_eq, up2_eq]
  · rw [up2_ne (r' := q) (k' := j) ej, up2_ne (fun z => ej ⟨by omega, by have := z.2; unfold qk at this; split at this <;> split at this <;> omega⟩)]
    exact h q j hq hj
/-- what may change in a tick: as FrW, and the seed if there are draws -/
def FrV (x u wd : Nat) (dr : Bool) (f f' : FI) : Prop := ∀ r k, (r < x ∨ x + 32 ≤ r) → r ≠ u + 7 → r ≠ u + 10 → r ≠ u + 13 → r ≠ u + 16 → (dr = true → r ≠ wd) → f' r k = f r k
def FV (L : List Nat) (x u wd : Nat) (dr : Bool) (f f' : FI) : Prop := Sx L x f f' ∧ FrV x u wd dr f f'
theorem FV.rf {L : List Nat} {x u wd : Nat} {dr : Bool} {f : FI} : FV L x u wd dr f f := ⟨Sx.rf, fun _ _ _ _ _ _ _ _ => rfl⟩
theorem FV.tr {L : List Nat} {x u wd : Nat} {dr : Bool} {f f' f'' : FI} (h : FV L x u wd dr f f') (h' : FV L x u wd dr f' f'') : FV L x u wd dr f f'' := ⟨h.1.tr h'.1, fun r k a b c d e g => (h'.2 r k a b c d e g).trans (h.2 r k a b c d e g)⟩
theorem FV.mono {L L' : List Nat} {x u wd : Nat} {dr : Bool} {f f' : FI} (h : FV L x u wd dr f f') (hL : ∀ c ∈ L, c ∈ L') : FV L' x u wd dr f f' := ⟨h.1.mono hL, h.2⟩
theorem FW.fv {L : List Nat} {x u wd : Nat} {dr : Bool} {f f' : FI} (h : FW L x u f f') : FV L x u wd dr f f' := ⟨h.1, fun r k a b c d e _ => h.2 r k a b c d e⟩
theorem FV.up {L : List Nat} {x u wd j k : Nat} {dr : Bool} {f f' : FI} {v : Int32} (h : FV L x u wd dr f f') (hj : j < 32) (hc : comp j k ∈ L) : FV L x u wd dr f (up2 f' (x + j) k v) := ⟨h.1.up hc, fun r i a b c d e g => by rw [up2_r (by omega)]; exact h.2 r i a b c d e g⟩
theorem FV.up0 {L : List Nat} {x u wd k : Nat} {dr : Bool} {f f' : FI} {v : Int32} (h : FV L x u wd dr f f') (hc : comp 0 k ∈ L) : FV L x u wd dr f (up2 f' x k v) := h.up (j := 0) (by decide) hc
theorem FV.upr {L : List Nat} {x u wd p k : Nat} {dr : Bool} {f f' : FI} {v : Int32} (h : FV L x u wd dr f f') (hp : p < 4) (hc : (if k = 0 then 4 else if k = 5 then 3 else 2) ∈ L) : FV L x u wd dr f (up2 f' (x + 28 + p) k v) := by
  rw [Nat.add_assoc]
  exact h.up (by omega) (by rw [comp_rt hp]; exact hc)
theorem CP.fv {L : List Nat} {x u wd : Nat} {dr : Bool} {f f' : FI} {π : Pl} (h : CP f u π) (hux : u + 17 ≤ x) (hw : wd < u) (e : FV L x u wd dr f f') : CP f' u π := by
  obtain ⟨h1, h2, h3, h4⟩ := h
  have e' : ∀ j k, j < 17 → j ≠ 7 → j ≠ 10 → j ≠ 13 → j ≠ 16 → f' (u + j) k = f (u + j) k := fun j k a b c d g => e.2 _ _ (by omega) (by omega) (by omega) (by omega) (by omega) (by omega)
  refine ⟨fun i hi => by rw [← Nat.add_zero u, e' 0 i (by decide) (by decide) (by decide) (by decide) (by decide)]; exact h1 i hi, fun k hk => by rw [e' 2 k (by decide) (by decide) (by decide) (by decide) (by decide)]; exact h2 k hk, fun k hk => ?_, fun i hi => ?_⟩
  · have := h3 k hk
    unfold CPj at this ⊢
    split at this
    · rw [e' 3 k (by decide) (by decide) (by decide) (by decide) (by decide)]; exact this
    · rw [e' 3 k (by decide) (by decide) (by decide) (by decide) (by decide), e' 4 k (by decide) (by decide) (by decide) (by decide) (by decide)]; exact this
  · have := h4 i hi
    unfold CPf at this ⊢
    split at this
    · rw [Nat.add_assoc, e' (5 + 3 * i) 2 (by omega) (by omega) (by omega) (by omega) (by omega), ← Nat.add_assoc]; exact this
    · refine this.congr (fun k => ?_) (fun k => ?_)
      · rw [Nat.add_assoc, e' (5 + 3 * i) k (by omega) (by omega) (by omega) (by omega) (by omega)]
      · rw [Nat.add_assoc, Nat.add_assoc, e' (5 + (3 * i + 1)) k (by omega) (by omega) (by omega) (by omega) (by omega)]
/-- a tick's own numbers, as the class holds them -/
def TkC (f : FI) (x wd : Nat) (dr : Bool) (T : Tk) : Prop := f x 13 = nI T.2.1 ∧ f x 14 = nI T.2.2.1 ∧ f x 15 = bI T.2.2.2.1 ∧ (dr = true → f wd 0 = nI T.2.2.2.2) ∧ T.2.2.2.2 < 2147483648 ∧ T.2.1 ≤ 1000
theorem TkC.fw {L : List Nat} {x u wd : Nat} {dr : Bool} {T : Tk} {f f' : FI} (h : TkC f x wd dr T) (hux : u + 17 ≤ x) (hw : wd < u) (e : FW L x u f f') (hL : 12 ∉ L) : TkC f' x wd dr T := by
  obtain ⟨k1, k2, k3, k4, k5, k6⟩ := h
  have e0 := e.1 12 hL
  refine ⟨?_, ?_, ?_, fun z => ?_, k5, k6⟩
  · have := e0 0 13 (by decide) rfl
    rw [Nat.add_zero] at this
    rw [this]; exact k1
  · have := e0 0 14 (by decide) rfl
    rw [Nat.add_zero] at this
    rw [this]; exact k2
  · have := e0 0 15 (by decide) rfl
    rw [Nat.add_zero] at this
    rw [this]; exact k3
  · rw [e.2 _ _ (by omega) (by omega) (by omega) (by omega) (by omega)]; exact k4 z
section SD
variable {l : Launch} {G : Gx} {d : Nat} {sh : Sh} {fR : FRt} {x u wd : Nat} {f : FI} {g : FL} {π : Pl} {win : Nat} {dl : Nat → Nat} {t : Int} {w : Wd} {m : List (Nat × Nat)} {la : List An}
theorem D_pick {K : Int32 → FI → FL → Prop} {but : Option Nat} (hs : StW sh fR x) (hu : fR x 7 = some u) (hU : StPl sh fR u) (hux : u + 17 ≤ x) (hC : CW f x π win dl t w m la) (hc : CP f u π) (hq : qN w) (h0 : w.1 0 ≤ 1000) (hdl : ∀ p, dl p ≤ 9999) (hπ : πOK π) (hbut : ∀ p, but = some p → p < 4) (H : ∀ f' : FI, FW [11] x u f f' → K (oI ((pickS π dl w but).map (fun x => x.1))) f' g) : Cl l G (d + 3) 0 0 mX10_pick [.ref x, .int (oI but)] (sh, f, g, fR) (qi sh fR K) := by
  have h4 := hπ.2.2.2.2.2.1
  have loop : ∀ n k (f0 : FI) (y : Int32) (best : Option (Nat × Int)), n + k = π.1 6 → best = forN k (pick1 π dl w but) none → (∀ p x, best = some (p, x) → p < 4 ∧ y.toInt = x) → f0 (x + 27) 0 = nI (w.1 0) → FW [11] x u f f0 → LpX10_pick_17 l G d (qi sh fR K) sh fR x u f0 g (oI but) (oI (best.map (fun x => x.1))) y (nI k) := by
    intro n
    induction n with
    | zero =>
      intro k f0 y best hk hb hx e0 hF
      rw [Nat.zero_add] at hk
      have hc0 := hc.fr hux hF.2
      refine VX10_pick_17 hs hu hU ?_
      rw [hc0.1 6 (by decide)]
      refine ⟨fun _ => ⟨_, _, _, rfl, rfl, ?_⟩, fun z => absurd (nI_le (by omega) (by omega)) z⟩
      rw [hk] at hb
      have := H f0 hF
      rw [pickS_eq, ← hb] at this
      exact this
    | succ n ih =>
      intro k f0 y best hk hb hx e0 hF
      have hc0 := hc.fr hux hF.2
      have hC0 : CW f0 x π win dl t w m la := hC.sm (hF.1.mono (by decide))
      obtain ⟨t1, t2, t3⟩ := rt_ok hs (show k < 4 by omega)
      obtain ⟨r0, -, -, r3, -, r5, -⟩ := hC0.rt (show k < 4 by omega)
      replace r0 := r0 (by omega)
      obtain ⟨-, -, b2, -⟩ := hq k
      have hfl : flyS w k ≤ 500 := Nat.le_trans List.countP_le_length hC.2.2.2.2.1.2.1
      have hd9 := hdl k
      have stay : pick1 π dl w but k best = best → ∀ f1 : FI, f1 (x + 27) 0 = nI (w.1 0) → FW [11] x u f f1 → LpX10_pick_148 l G d (qi sh fR K) sh fR x u f1 g (oI but) (oI (best.map (fun x => x.1))) y (nI k) := by
        intro e f1 e3 e4
        refine VX10_pick_148 hs hu hU ?_
        rw [nI_add]
        refine ih (k + 1) f1 y best (by omega) ?_ hx e3 e4
        show best = pick1 π dl w but k (forN k (pick1 π dl w but) none)
        rw [← hb, e]
      have st : ∀ (f1 : FI) (z : Int32) (vv : Int), z.toInt = vv → (pick1 π dl w but k best = (match best with
        | some (_, least) => if vv < least then some (k, vv) else best
        | none => some (k, vv))) → f1 (x + 27) 0 = nI (w.1 0) → FW [11] x u f f1 → ((oI (best.map (fun x => x.1)) = (-1) → LpX10_pick_142 l G d (qi sh fR K) sh fR x u f1 g (oI but) (nI k) z) ∧ (¬ oI (best.map (fun x => x.1)) = (-1) → ((y ≤ z → LpX10_pick_148 l G d (qi sh fR K) sh fR x u f1 g (oI but) (oI (best.map (fun x => x.1))) y (nI k)) ∧ (¬ y ≤ z → LpX10_pick_142 l G d (qi sh fR K) sh fR x u f1 g (oI but) (nI k) z)))) := by
        intro f1 z vv hz hp e3 e4
        have take : pick1 π dl w but k best = some (k, vv) → LpX10_pick_142 l G d (qi sh fR K) sh fR x u f1 g (oI but) (nI k) z := by
          intro e
          refine VX10_pick_142 hs hu hU ?_
          refine VX10_pick_148 hs hu hU ?_
          rw [nI_add]
          refine ih (k + 1) f1 z (some (k, vv)) (by omega) ?_ (fun p x hpx => ?_) e3 e4
          · show _ = pick1 π dl w but k (forN k (pick1 π dl w but) none)
            rw [← hb, e]
          · cases hpx
            exact ⟨by omega, hz⟩
        cases hbest : best with
        | none =>
          rw [hbest] at hp
          rw [hbest] at take
          exact ⟨fun _ => take hp, fun q => absurd rfl q⟩
        | some q =>
          obtain ⟨q1, q2⟩ := q
          obtain ⟨x1, x2⟩ := hx q1 q2 hbest
          rw [hbest] at hp
          rw [hbest] at take stay
          dsimp only at hp
          refine ⟨fun q => absurd q (nI_m1 (n := q1) (by omega)), fun _ => ⟨fun c => ?_, fun c => ?_⟩⟩
          · have c' : ¬ vv < q2 := by
              have := Int32.le_iff_toInt_le.mp c
              omega
            rw [if_neg c'] at hp
            exact stay hp f1 e3 e4
          · have c' : vv < q2 := Int.not_le.mp (fun q => c (Int32.le_iff_toInt_le.mpr (by rw [x2, hz]; exact q)))
            rw [if_pos c'] at hp
            exact take hp
      refine VX10_pick_17 hs hu hU ?_
      rw [hc0.1 6 (by decide), clN (by omega)]
      refine ⟨fun z => absurd z (nI_ge (by omega) (by omega)), fun _ => ⟨inbN (by omega) (by decide), x + 28 + k, t1, t2, t3, fun c1 => ?_, fun c1 => ?_⟩⟩
      · have z1 : but = some k := (oI_some (fun q hq => by have := hbut q hq; omega) (by omega)).mp c1.symm
        refine stay ?_ f0 e0 hF
        unfold pick1
        rw [if_pos (Or.inl z1)]
      · have z1 : ¬ but = some k := fun z => c1 (by rw [z]; rfl)
        refine D_hasRoom hs hC0 hq (by omega) ⟨fun c2 => ?_, fun c2 => ?_⟩
        · refine stay ?_ f0 e0 hF
          unfold pick1
          rw [if_pos]
          have z := bI_0.mp c2
          rw [Bool.and_eq_false_iff] at z
          rcases z with z | z
          · exact Or.inr (Or.inl z)
          · exact Or.inr (Or.inr (Nat.not_lt.mp (of_decide_eq_false z)))
        · have z := bI_ne0 c2
          rw [Bool.and_eq_true] at z
          have z2 : ¬ freS w k = false := by rw [z.1]; exact fun y => by cases y
          have z3 : ¬ w.2.1 k 2 ≤ 1000 * flyS w k := Nat.not_le.mpr (of_decide_eq_true z.2)
          have hp1 : pick1 π dl w but k best = (match best with
              | some (_, least) => if (match π.2.2.2.2 1 with
                | none => (dl k : Int)
                | some ops => ev ops (faW w dl k)) < least then some (k, (match π.2.2.2.2 1 with
                | none => (dl k : Int)
                | some ops => ev ops (faW w dl k))) else best
              | none => some (k, (match π.2.2.2.2 1 with
                | none => (dl k : Int)
                | some ops => ev ops (faW w dl k)))) := by
            unfold pick1
            rw [if_neg (fun q => by rcases q with q | q | q; exact z1 q; exact z2 q; exact z3 q)]
            rfl
          rw [r0, r3, r5]
          have hFx : FW [11] x u f0 (up2 (up2 (up2 (up2 f0 (x + 27) 1 (nI k)) (x + 27) 4 (nI (dl k))) (x + 27) 5 (nI (w.2.1 k 2))) (x + 27) 6 (nI (flyS w k))) := (((FW.rf.up (by decide) (by decide)).up (by decide) (by decide)).up (by decide) (by decide)).up (by decide) (by decide)
          have hcx := hc0.fr hux hFx.2
          have e27 : (up2 (up2 (up2 (up2 f0 (x + 27) 1 (nI k)) (x + 27) 4 (nI (dl k))) (x + 27) 5 (nI (w.2.1 k 2))) (x + 27) 6 (nI (flyS w k))) (x + 27) 0 = nI (w.1 0) := by
            rw [up2_k (by decide), up2_k (by decide), up2_k (by decide), up2_k (by decide)]; exact e0
          have er0 : (up2 (up2 (up2 (up2 f0 (x + 27) 1 (nI k)) (x + 27) 4 (nI (dl k))) (x + 27) 5 (nI (w.2.1 k 2))) (x + 27) 6 (nI (flyS w k))) (x + 28 + k) 0 = nI (dl k) := by
            rw [up2_r (by omega), up2_r (by omega), up2_r (by omega), up2_r (by omega)]; exact r0
          have e1 : (up2 (up2 (up2 (up2 f0 (x + 27) 1 (nI k)) (x + 27) 4 (nI (dl k))) (x + 27) 5 (nI (w.2.1 k 2))) (x + 27) 6 (nI (flyS w k))) (x + 27) 1 = nI k := by
            rw [up2_k (by decide), up2_k (by decide), up2_k (by decide), up2_eq]
          have e4 : (up2 (up2 (up2 (up2 f0 (x + 27) 1 (nI k)) (x + 27) 4 (nI (dl k))) (x + 27) 5 (nI (w.2.1 k 2))) (x + 27) 6 (nI (flyS w k))) (x + 27) 4 = nI (dl k) := by
            rw [up2_k (by decide), up2_k (by decide), up2_eq]
          have e5 : (up2 (up2 (up2 (up2 f0 (x + 27) 1 (nI k)) (x + 27) 4 (nI (dl k))) (x + 27) 5 (nI (w.2.1 k 2))) (x + 27) 6 (nI (flyS w k))) (x + 27) 5 = nI (w.2.1 k 2) := by
            rw [up2_k (by decide), up2_eq]
          have e6 : (up2 (up2 (up2 (up2 f0 (x + 27) 1 (nI k)) (x + 27) 4 (nI (dl k))) (x + 27) 5 (nI (w.2.1 k 2))) (x + 27) 6 (nI (flyS w k))) (x + 27) 6 = nI (flyS w k) := up2_eq
          generalize up2 (up2 (up2 (up2 f0 (x + 27) 1 (nI k)) (x + 27) 4 (nI (dl k))) (x + 27) 5 (nI (w.2.1 k 2))) (x + 27) 6 (nI (flyS w k)) = fx at hFx hcx e27 er0 e1 e4 e5 e6
          have hF8 := hcx.2.2.2 1 (by decide)
          replace hF8 : CPf fx (u + 8) (π.2.2.2.2 1) := hF8
          have hok := hπ.2.2.2.2.2.2.2.2.2.1
          refine D_isTold (stF8 hU) hF8 hok ⟨fun c4 => ?_, fun c4 => ?_⟩
          · have hn := told0 c4
            rw [hn] at hp1
            intro z16 ez
            refine st fx z16 _ ?_ hp1 e27 (hF.tr hFx)
            rw [ez, er0, nI_toInt (by omega)]
          · obtain ⟨ops, ho⟩ := told1 c4
            rw [ho] at hp1 hF8
            refine D_valueBy (stF8 hU) (sW_27 hs) hF8 (hok ops ho) (fa := faW w dl k) (fun j hj0 hj hal => ?_) (fun y2 f2 hy _ hf2 => st f2 y2 _ hy hp1 (by rw [hf2 _ _ (by omega)]; exact e27) ((hF.tr hFx).tr ⟨fun c' hc' j i hj ec => ?_, fun r i a b1 b2 b3 b4 => ?_⟩))
            · unfold alP at hal
              simp only [Bool.or_eq_true, beq_iff_eq] at hal
              rcases hal with (((rfl | rfl) | rfl) | rfl) | rfl
              · rw [show fx (x + 27) (1 - 1) = nI (w.1 0) from e27]; exact nI_r (by omega)
              · rw [show fx (x + 27) (2 - 1) = nI k from e1]; exact nI_r (by omega)
              · rw [show fx (x + 27) (5 - 1) = nI (dl k) from e4]; exact nI_r (by omega)
              · rw [show fx (x + 27) (6 - 1) = nI (w.2.1 k 2) from e5]; exact nI_r (by omega)
              · rw [show fx (x + 27) (7 - 1) = nI (flyS w k) from e6]; exact nI_r (by omega)
            · exact hf2 _ _ (by omega)
            · exact hf2 _ _ (by omega)
  refine VX10_pick hs hu hU ?_
  rw [hC.t8]
  exact loop (π.1 6) 0 _ (nI 0) none rfl rfl (fun p x h => by cases h) up2_eq (FW.rf.up (by decide) (by decide))
theorem D_draw {K : Int32 → FI → FL → Prop} {y : Nat} (hw : sh[wd]? = some (1, 1) ∧ 0 < wd) (hf : f wd 0 = nI y) (hy : y < 2147483648) (H : K (nI (drawS y / 64 % 100)) (up2 f wd 0 (nI (drawS y))) g) : Cl l G d 0 0 mX1_drawOf [.ref wd, .int (nI 100)] (sh, f, g, fR) (qi sh fR K) := by
  have h1 : 1103515245 * y + 12345 < 2 ^ 63 := by omega
  have h2 : drawS y < 2147483648 := Nat.mod_lt _ (by decide)
  have e : (((lN 1103515245 * (nI y).toInt64) + lN 12345) &&& lN 2147483647).toInt32 = nI (drawS y) := by
    rw [nI_l (by omega), lN_mul, lN_add]
    have : lN (1103515245 * y + 12345) &&& lN 2147483647 = lN (drawS y) := by
      apply Int64.toBitVec_inj.1
      show BitVec.ofNat 64 (1103515245 * y + 12345) &&& BitVec.ofNat 64 2147483647 = BitVec.ofNat 64 (drawS y)
      apply BitVec.eq_of_toNat_eq
      rw [BitVec.toNat_and, BitVec.toNat_ofNat, BitVec.toNat_ofNat, BitVec.toNat_ofNat, Nat.mod_eq_of_lt (show 1103515245 * y + 12345 < 2 ^ 64 by omega), Nat.mod_eq_of_lt (show 2147483647 < 2 ^ 64 by decide), Nat.mod_eq_of_lt (show drawS y < 2 ^ 64 by omega), show (2147483647 : Nat) = 2 ^ 31 - 1 from rfl, Nat.and_two_pow_sub_one_eq_mod]
      rfl
    rw [this, lN_i]
  refine VX1_drawOf hw ?_
  rw [hf, e, pk_div (by omega) (by decide) (by decide), pk_rem (by omega) (by decide) (by decide)]
  exact ⟨fun z => absurd z (by decide), fun _ => ⟨by decide, _, _, _, rfl, rfl, H⟩⟩
theorem nI_m1_lt {t : Int} (h : 0 ≤ t) : arC t none (-1) := by
  show (-1 : Int32).toInt < t
  have : (-1 : Int32).toInt = -1 := by decide
  omega
/-- behind a send -/
theorem CW.sent {f19 : FI} {p a c : Nat} {s : Sg} {y13 : Int32} (h : CW f x π win dl t w m la) (hp : p < 4) (hs1 : s.1 = p) (hfl : s.2.2.2.2.2.2.1 = true) (hg : PWg f19 x t (w.2.2.1 ++ [s])) (hO : Oc [5, 13] x f f19) : CW (up2 (up2 (up2 (up2 (up2 f19 (x + 28 + p) 7 (nI 0)) (x + 28 + p) 6 (nI a)) (x + 28 + p) 5 (nI (flyS w p + 1))) x 12 (nI c)) x 13 y13) x π win dl t (wsc (wpt (wpt (wsg w (w.2.2.1 ++ [s])) p 5 0) p 4 a) 5 c) m la ∧ Oc [1, 2, 3, 5, 12, 13] x f (up2 (up2 (up2 (up2 (up2 f19 (x + 28 + p) 7 (nI 0)) (x + 28 + p) 6 (nI a)) (x + 28 + p) 5 (nI (flyS w p + 1))) x 12 (nI c)) x 13 y13) := by
  obtain ⟨h1, h2, h3, h4, h5, h6, h7, h8, h9, h10⟩ := h
  have o0 : Oc [1, 2, 3, 5, 12, 13] x f f19 := hO.mono (by decide)
  have oF : Oc [1, 2, 3, 5, 12, 13] x f (up2 (up2 (up2 (up2 (up2 f19 (x + 28 + p) 7 (nI 0)) (x + 28 + p) 6 (nI a)) (x + 28 + p) 5 (nI (flyS w p + 1))) x 12 (nI c)) x 13 y13) := ((((o0.upr hp (by decide)).upr hp (by decide)).upr hp (by decide)).up0 (by decide)).up0 (by decide)
  have q0 : PWq f19 x w.2.1 := h2.sm (hO.1 2 (by decide))
  have q1 := (q0.set (p := p) (i := 5) (v := 0) hp (by decide)).set (p := p) (i := 4) (v := a) hp (by decide)
  replace q1 : PWq (up2 (up2 f19 (x + 28 + p) 7 (nI 0)) (x + 28 + p) 6 (nI a)) x (up2 (up2 w.2.1 p 5 0) p 4 a) := q1
  have oq : Oc [1, 3, 12] x (up2 (up2 f19 (x + 28 + p) 7 (nI 0)) (x + 28 + p) 6 (nI a)) (up2 (up2 (up2 (up2 (up2 f19 (x + 28 + p) 7 (nI 0)) (x + 28 + p) 6 (nI a)) (x + 28 + p) 5 (nI (flyS w p + 1))) x 12 (nI c)) x 13 y13) := ((Oc.rf.upr hp (by decide)).up0 (by decide)).up0 (by decide)
  have n0 : PWn (up2 (up2 (up2 f19 (x + 28 + p) 7 (nI 0)) (x + 28 + p) 6 (nI a)) (x + 28 + p) 5 (nI (flyS w p + 1))) x w.1 := h1.sm ((hO.1 1 (by decide)).tr ((((Oc.rf (L := [2, 3])).upr hp (by decide)).upr hp (by decide)).upr hp (by decide) |>.1 1 (by decide)))
  have n1 := n0.set (i := 5) (v := c) (by unfold nset; omega)
  replace n1 : PWn (up2 (up2 (up2 (up2 f19 (x + 28 + p) 7 (nI 0)) (x + 28 + p) 6 (nI a)) (x + 28 + p) 5 (nI (flyS w p + 1))) x 12 (nI c)) x (fu w.1 5 c) := n1
  refine ⟨⟨n1.sm (((Oc.rf (L := [12])).up0 (by decide)).1 1 (by decide)), q1.sm (oq.1 2 (by decide)), fun q hq => ?_, h4.sm (oF.1 4 (by decide)), hg.sm ?_ ?_, h6.sm (oF.1 6 (by decide)), h7.sm (oF.1 7 (by decide)), h8.sm (oF.1 8 (by decide)), h9.sm (oF.1 9 (by decide)), h10.sm (oF.1 10 (by decide))⟩, oF⟩
  · show _ = nI (cntF (w.2.2.1 ++ [s]) q)
    have e : cntF (w.2.2.1 ++ [s]) q = cntF w.2.2.1 q + (if q = p then 1 else 0) := by
      unfold cntF
      rw [List.countP_append, List.countP_singleton, hfl, hs1]
      by_cases e : q = p
      · subst e; simp
      · have e2 : ¬ p = q := fun z => e z.symm
        simp [e, e2]
    rw [up2_r (by omega), up2_r (by omega), e]
    by_cases eq : q = p
    · subst eq
      rw [up2_eq, if_pos rfl]
      rfl
    · rw [if_neg eq, up2_r (by omega), up2_r (by omega), up2_r (by omega), Nat.add_zero]
      have h3' := h3.sm (hO.1 3 (by decide))
      exact h3' q hq
  · exact ((((((Oc.rf (L := [1, 2, 3, 12])).upr hp (by decide)).upr hp (by decide)).upr hp (by decide)).up0 (by decide)).up0 (by decide)).1 13 (by decide)
  · exact ((((((Oc.rf (L := [1, 2, 3, 12])).upr hp (by decide)).upr hp (by decide)).upr hp (by decide)).up0 (by decide)).up0 (by decide)).1 5 (by decide)
theorem D_sendN {K : FI → FL → Prop} {p frm many : Nat} {T : Tk} (hs : StW sh fR x) (hu : fR x 7 = some u) (hU : StPl sh fR u) (hux : u + 17 ≤ x) (hwd : wd < u) (hC : CW f x π win dl t T.1 m la) (ht : 0 ≤ t) (hc : CP f u π) (hk : TkC f x wd false T) (hq : qN T.1) (h0 : T.1.1 0 ≤ 1000) (hdl : ∀ p, dl p ≤ 9999) (hπ : πOK π) (hp : p < 4) (hp6 : p < π.1 6) (hf : frm ≤ 1000) (hl : T.1.2.2.1.length < 500) (hc1 : T.2.1 < 1000) (H : ∀ f' : FI, CW f' x π win dl t (sendS π dl false T p frm many).1 m la → TkC f' x wd false (sendS π dl false T p frm many) → FV [1, 2, 3, 5, 11, 12, 13] x u wd false f f' → K f' g) : Cl l G (d + 3) 0 0 mX10_send [.ref x, .int (nI p), .int (nI frm), .int (nI many), .null] (sh, f, g, fR) (qv sh fR K) := by
  obtain ⟨k1, k2, k3, k4, k5, k6⟩ := hk
  obtain ⟨t1, t2, t3⟩ := rt_ok hs hp
  obtain ⟨r0, -, -, r3, -, r5, r6, r7⟩ := hC.rt hp
  replace r0 := r0 hp6
  obtain ⟨-, -, -, -, b4, b5⟩ := hq p
  have hd9 := hdl p
  have hloss := hπ.2.2.2.2.1
  have hfl5 : flyS T.1 p ≤ 500 := Nat.le_trans List.countP_le_length hC.2.2.2.2.1.2.1
  generalize hl0 : lostS π dl T.1 p frm = l0
  have hS : sendS π dl false T p frm many = (wsc (wpt (wpt (wsg T.1 (T.1.2.2.1 ++ [(p, T.1.2.1 p 4, frm, many, T.1.1 0, (if l0 || (false && decide ((if false then drawS T.2.2.2.2 else T.2.2.2.2) / 64 % 100 < π.1 5)) then none else some (T.1.1 0 + dl p)), true, T.1.2.1 p 5 == 1)])) p 5 0) p 4 (T.1.2.1 p 4 + 1)) 5 (T.1.1 5 + many), T.2.1 + 1, (if false && decide ((if false then drawS T.2.2.2.2 else T.2.2.2.2) / 64 % 100 < π.1 5) then T.2.2.1 + 1 else T.2.2.1), (if T.2.1 = 0 then l0 else T.2.2.2.1), (if false then drawS T.2.2.2.2 else T.2.2.2.2)) := by
    rw [← hl0]
    rfl
  have fin : ∀ (f3 : FI) (hit : Bool), hit = (false && decide ((if false then drawS T.2.2.2.2 else T.2.2.2.2) / 64 % 100 < π.1 5)) → FV [11, 12] x u wd false f f3 → f3 x 13 = nI T.2.1 → f3 x 14 = nI (if hit then T.2.2.1 + 1 else T.2.2.1) → f3 x 15 = bI (if T.2.1 = 0 then l0 else T.2.2.2.1) → (false = true → f3 wd 0 = nI (if false then drawS T.2.2.2.2 else T.2.2.2.2)) → LpX10_sendN_128 l G d (qv sh fR K) sh fR x u f3 g (nI p) (nI frm) (nI many) (x + 28 + p) (bI (l0 || hit)) := by
    intro f3 hit hh hF3 e13 e14 e15 ew
    have hC3 : CW f3 x π win dl t T.1 m la := hC.sm (hF3.1.mono (by decide))
    obtain ⟨r0', -, -, -, -, r5', r6', r7'⟩ := hC3.rt hp
    replace r0' := r0' hp6
    have r7b : f3 (x + 28 + p) 7 = bI (T.1.2.1 p 5 == 1) := by rw [r7']; exact bI_of1 b5
    have n12 : f3 x 12 = nI (T.1.1 5) := hC3.1 5 (by unfold nset; omega)
    rw [← hh] at hS
    have last : ∀ (f19 : FI) (a6 : Option Nat), a6 = (if l0 || hit then none else some (T.1.1 0 + dl p)) → PWg f19 x t (T.1.2.2.1 ++ [(p, T.1.2.1 p 4, frm, many, T.1.1 0, a6, true, T.1.2.1 p 5 == 1)]) → Oc [5, 13] x f3 f19 → qv sh fR K none (sh, (up2 (up2 (up2 (up2 (up2 f19 (x + 28 + p) 7 (nI 0)) (x + 28 + p) 6 ((f19 (x + 28 + p) 6) + (nI 1))) (x + 28 + p) 5 ((f19 (x + 28 + p) 5) + (nI 1))) x 12 ((f19 x 12) + nI many)) x 13 ((f19 x 13) + (nI 1))), g, fR) := by
      intro f19 a6 ha6 hg hO
      have g6 : f19 (x + 28 + p) 6 = nI (T.1.2.1 p 4) := by
        have := (hC3.2.1.sm (hO.1 2 (by decide))) p 4 hp (by decide)
        exact this
      have g5 : f19 (x + 28 + p) 5 = nI (flyS T.1 p) := (hC3.2.2.1.sm (hO.1 3 (by decide))) p hp
      have g12 : f19 x 12 = nI (T.1.1 5) := (hC3.1.sm (hO.1 1 (by decide))) 5 (by unfold nset; omega)
      have g0 := hO.1 12 (by decide)
      have g13 : f19 x 13 = nI T.2.1 := by
        have := g0 0 13 (by decide) rfl
        rw [Nat.add_zero] at this
        rw [this]; exact e13
      have g14 : f19 x 14 = nI (if hit then T.2.2.1 + 1 else T.2.2.1) := by
        have := g0 0 14 (by decide) rfl
        rw [Nat.add_zero] at this
        rw [this]; exact e14
      have g15 : f19 x 15 = bI (if T.2.1 = 0 then l0 else T.2.2.2.1) := by
        have := g0 0 15 (by decide) rfl
        rw [Nat.add_zero] at this
        rw [this]; exact e15
      rw [g6, g5, g12, g13, nI_add, nI_add, nI_add, nI_add]
      obtain ⟨hC4, o4⟩ := hC3.sent (a := T.1.2.1 p 4 + 1) (c := T.1.1 5 + many) (y13 := nI (T.2.1 + 1)) hp rfl rfl hg hO
      refine ⟨_, _, rfl, rfl, H _ ?_ ?_ ((hF3.mono (by decide)).tr ((o4.mono (by decide)).fw (u := u)).fv)⟩
      · rw [hS, ← ha6]
        exact hC4
      · rw [hS]
        refine ⟨up2_eq, ?_, ?_, fun z => ?_, ?_, ?_⟩
        · rw [up2_k (by decide), up2_k (by decide), up2_r (by omega), up2_r (by omega), up2_r (by omega)]; exact g14
        · rw [up2_k (by decide), up2_k (by decide), up2_r (by omega), up2_r (by omega), up2_r (by omega)]; exact g15
        · rw [up2_r (by omega), up2_r (by omega), up2_r (by omega), up2_r (by omega), up2_r (by omega), hO.2 _ _ (by omega)]; exact ew z
        · show (if false then drawS T.2.2.2.2 else T.2.2.2.2) < 2147483648
          split
          · exact Nat.mod_lt _ (by decide)
          · exact k5
        · show T.2.1 + 1 ≤ 1000
          omega
    refine VX10_sendN_128 hs hu hU ⟨t2, t3⟩ ?_
    rw [hC3.t8, r0', r6', r7b, nI_add]
    refine ⟨fun c => ?_, fun c => ?_⟩
    · have z : (l0 || hit) = false := bI_0.mp c
      intro y ey
      subst ey
      exact D_fAdd (s := (p, T.1.2.1 p 4, frm, many, T.1.1 0, some (T.1.1 0 + dl p), true, T.1.2.1 p 5 == 1)) hs hC3.2.2.2.2.1 hl rfl rfl (fun f19 q1 q2 => last f19 _ (by rw [z]; rfl) q1 q2)
    · have z : (l0 || hit) = true := bI_ne0 c
      exact D_fAdd (s := (p, T.1.2.1 p 4, frm, many, T.1.1 0, none, true, T.1.2.1 p 5 == 1)) hs hC3.2.2.2.2.1 hl (nI_m1_lt ht) rfl (fun f19 q1 q2 => last f19 _ (by rw [z]; rfl) q1 q2)
  have st93 : ∀ f2 : FI, FV [11, 12] x u wd false f f2 → f2 x 13 = nI T.2.1 → f2 x 14 = nI T.2.2.1 → f2 x 15 = bI (if T.2.1 = 0 then l0 else T.2.2.2.1) → (false = true → f2 wd 0 = nI T.2.2.2.2) → LpX10_sendN_93 l G d (qv sh fR K) sh fR x u f2 g (nI p) (nI frm) (nI many) (x + 28 + p) (bI l0) := by
    intro f2 hF2 e13 e14 e15 ew
    refine VX10_sendN_93 hs hu hU ⟨t2, t3⟩ ?_
    have := fin f2 false rfl hF2 e13 e14 e15 ew
    rw [Bool.or_false] at this
    exact this
  have st77 : ∀ f1 : FI, FW [11] x u f f1 → l0 = false → LpX10_sendN_77 l G d (qv sh fR K) sh fR x u f1 g (nI p) (nI frm) (nI many) (x + 28 + p) := by
    intro f1 hF1 hz
    have h12 := hF1.1 12 (by decide)
    have e13 : f1 x 13 = nI T.2.1 := by
      have := h12 0 13 (by decide) rfl
      rw [Nat.add_zero] at this
      rw [this]; exact k1
    have e14 : f1 x 14 = nI T.2.2.1 := by
      have := h12 0 14 (by decide) rfl
      rw [Nat.add_zero] at this
      rw [this]; exact k2
    have e15 : f1 x 15 = bI T.2.2.2.1 := by
      have := h12 0 15 (by decide) rfl
      rw [Nat.add_zero] at this
      rw [this]; exact k3
    have ew : false = true → f1 wd 0 = nI T.2.2.2.2 := fun z => by rw [hF1.2 _ _ (by omega) (by omega) (by omega) (by omega) (by omega)]; exact k4 z
    refine VX10_sendN_77 hs hu hU ⟨t2, t3⟩ ?_
    rw [e13, nI_0' (by omega)]
    have st := st93
    rw [hz] at st
    refine ⟨fun c => st f1 ((hF1.mono (by decide)).fv) e13 e14 (by rw [if_neg c]; exact e15) ew, fun c => st (up2 f1 x 15 (nI 0)) (((hF1.mono (by decide)).fv).up0 (by decide)) (by rw [up2_k (by decide)]; exact e13) (by rw [up2_k (by decide)]; exact e14) (by rw [if_pos c]; exact up2_eq) (fun z => by rw [up2_r (by omega)]; exact ew z)⟩
  refine VX10_sendN hs hu hU ?_
  rw [clN (by omega), hC.t8]
  refine ⟨inbN hp (by decide), x + 28 + p, t1, t2, t3, ?_⟩
  rw [r6]
  have hFx : FW [11] x u f (up2 (up2 (up2 (up2 f (x + 27) 0 (nI (T.1.1 0))) (x + 27) 1 (nI p)) (x + 27) 2 (nI (T.1.2.1 p 4))) (x + 27) 3 (nI frm)) := (((FW.rf.up (by decide) (by decide)).up (by decide) (by decide)).up (by decide) (by decide)).up (by decide) (by decide)
  have hcx := hc.fr hux hFx.2
  have e0 : (up2 (up2 (up2 (up2 f (x + 27) 0 (nI (T.1.1 0))) (x + 27) 1 (nI p)) (x + 27) 2 (nI (T.1.2.1 p 4))) (x + 27) 3 (nI frm)) (x + 27) 0 = nI (T.1.1 0) := by rw [up2_k (by decide), up2_k (by decide), up2_k (by decide), up2_eq]
  have e1 : (up2 (up2 (up2 (up2 f (x + 27) 0 (nI (T.1.1 0))) (x + 27) 1 (nI p)) (x + 27) 2 (nI (T.1.2.1 p 4))) (x + 27) 3 (nI frm)) (x + 27) 1 = nI p := by rw [up2_k (by decide), up2_k (by decide), up2_eq]
  have e2 : (up2 (up2 (up2 (up2 f (x + 27) 0 (nI (T.1.1 0))) (x + 27) 1 (nI p)) (x + 27) 2 (nI (T.1.2.1 p 4))) (x + 27) 3 (nI frm)) (x + 27) 2 = nI (T.1.2.1 p 4) := by rw [up2_k (by decide), up2_eq]
  have e3 : (up2 (up2 (up2 (up2 f (x + 27) 0 (nI (T.1.1 0))) (x + 27) 1 (nI p)) (x + 27) 2 (nI (T.1.2.1 p 4))) (x + 27) 3 (nI frm)) (x + 27) 3 = nI frm := up2_eq
  generalize up2 (up2 (up2 (up2 f (x + 27) 0 (nI (T.1.1 0))) (x + 27) 1 (nI p)) (x + 27) 2 (nI (T.1.2.1 p 4))) (x + 27) 3 (nI frm) = fx at hFx hcx e0 e1 e2 e3
  have hF5 := hcx.2.2.2 0 (by decide)
  replace hF5 : CPf fx (u + 5) (π.2.2.2.2 0) := hF5
  have hok := hπ.2.2.2.2.2.2.2.2.1
  refine D_isTold (stF5 hU) hF5 hok ⟨fun c => ?_, fun c => ?_⟩
  · have hn := told0 c
    refine st77 fx hFx ?_
    rw [← hl0]
    unfold lostS
    rw [hn]
  · obtain ⟨ops, ho⟩ := told1 c
    rw [ho] at hF5
    refine D_valueBy (stF5 hU) (sW_27 hs) hF5 (hok ops ho) (fa := faD T.1 dl p frm) (fun j hj0 hj hal => ?_) (fun y f1 hy hok1 hf1 => ?_)
    · unfold alD at hal
      simp only [Bool.or_eq_true, beq_iff_eq] at hal
      rcases hal with ((rfl | rfl) | rfl) | rfl
      · rw [show fx (x + 27) (1 - 1) = nI (T.1.1 0) from e0]; exact nI_r (by omega)
      · rw [show fx (x + 27) (2 - 1) = nI p from e1]; exact nI_r (by omega)
      · rw [show fx (x + 27) (3 - 1) = nI (T.1.2.1 p 4) from e2]; exact nI_r (by omega)
      · rw [show fx (x + 27) (4 - 1) = nI frm from e3]; exact nI_r (by omega)
    · have hF1 : FW [11] x u f f1 := hFx.tr ⟨fun c' hc' j i hj ec => hf1 _ _ (by omega), fun r i a b1 b2 b3 b4 => hf1 _ _ (by omega)⟩
      have hl1 : l0 = (ev ops (faD T.1 dl p frm) == 1) := by
        rw [← hl0]
        unfold lostS
        rw [ho]
      refine ⟨fun c2 => st77 f1 hF1 ?_, fun c2 => ?_⟩
      · rw [hl1, beq_eq_false_iff_ne, ← hy, c2]
        decide
      · have z : l0 = true := by
          rw [hl1, beq_iff_eq]
          rcases hok1.2 rfl with z | z
          · exact absurd (Int32.toInt_inj.mp (by rw [hy, z]; rfl)) c2
          · exact z
        have h12 := hF1.1 12 (by decide)
        have e13 : f1 x 13 = nI T.2.1 := by
          have := h12 0 13 (by decide) rfl
          rw [Nat.add_zero] at this
          rw [this]; exact k1
        have e14 : f1 x 14 = nI T.2.2.1 := by
          have := h12 0 14 (by decide) rfl
          rw [Nat.add_zero] at this
          rw [this]; exact k2
        have e15 : f1 x 15 = bI T.2.2.2.1 := by
          have := h12 0 15 (by decide) rfl
          rw [Nat.add_zero] at this
          rw [this]; exact k3
        have ew : false = true → f1 wd 0 = nI T.2.2.2.2 := fun z => by rw [hF1.2 _ _ (by omega) (by omega) (by omega) (by omega) (by omega)]; exact k4 z
        have st := st93
        rw [z] at st
        rw [e13, nI_0' (by omega)]
        exact ⟨fun c => st f1 ((hF1.mono (by decide)).fv) e13 e14 (by rw [if_neg c]; exact e15) ew, fun c => st (up2 f1 x 15 (nI 1)) (((hF1.mono (by decide)).fv).up0 (by decide)) (by rw [up2_k (by decide)]; exact e13) (by rw [up2_k (by decide)]; exact e14) (by rw [if_pos c]; exact up2_eq) (fun z => by rw [up2_r (by omega)]; exact ew z)⟩
theorem D_sendD {K : FI → FL → Prop} {p frm many : Nat} {T : Tk} (hs : StW sh fR x) (hu : fR x 7 = some u) (hU : StPl sh fR u) (hux : u + 17 ≤ x) (hwd : wd < u) (hw : sh[wd]? = some (1, 1) ∧ 0 < wd) (hC : CW f x π win dl t T.1 m la) (ht : 0 ≤ t) (hc : CP f u π) (hk : TkC f x wd true T) (hq : qN T.1) (h0 : T.1.1 0 ≤ 1000) (hdl : ∀ p, dl p ≤ 9999) (hπ : πOK π) (hp : p < 4) (hp6 : p < π.1 6) (hf : frm ≤ 1000) (hl : T.1.2.2.1.length < 500) (hc1 : T.2.1 < 1000) (H : ∀ f' : FI, CW f' x π win dl t (sendS π dl true T p frm many).1 m la → TkC f' x wd true (sendS π dl true T p frm many) → FV [1, 2, 3, 5, 11, 12, 13] x u wd true f f' → K f' g) : Cl l G (d + 3) 0 0 mX10_send [.ref x, .int (nI p), .int (nI frm), .int (nI many), .ref wd] (sh, f, g, fR) (qv sh fR K) := by
  obtain ⟨k1, k2, k3, k4, k5, k6⟩ := hk
  obtain ⟨t1, t2, t3⟩ := rt_ok hs hp
  obtain ⟨r0, -, -, r3, -, r5, r6, r7⟩ := hC.rt hp
  replace r0 := r0 hp6
  obtain ⟨-, -, -, -, b4, b5⟩ := hq p
  have hd9 := hdl p
  have hloss := hπ.2.2.2.2.1
  have hfl5 : flyS T.1 p ≤ 500 := Nat.le_trans List.countP_le_length hC.2.2.2.2.1.2.1
  generalize hl0 : lostS π dl T.1 p frm = l0
  have hS : sendS π dl true T p frm many = (wsc (wpt (wpt (wsg T.1 (T.1.2.2.1 ++ [(p, T.1.2.1 p 4, frm, many, T.1.1 0, (if l0 || (true && decide ((if true then drawS T.2.2.2.2 else T.2.2.2.2) / 64 % 100 < π.1 5)) then none else some (T.1.1 0 + dl p)), true, T.1.2.1 p 5 == 1)])) p 5 0) p 4 (T.1.2.1 p 4 + 1)) 5 (T.1.1 5 + many), T.2.1 + 1, (if true && decide ((if true then drawS T.2.2.2.2 else T.2.2.2.2) / 64 % 100 < π.1 5) then T.2.2.1 + 1 else T.2.2.1), (if T.2.1 = 0 then l0 else T.2.2.2.1), (if true then drawS T.2.2.2.2 else T.2.2.2.2)) := by
    rw [← hl0]
    rfl
  have fin : ∀ (f3 : FI) (hit : Bool), hit = (true && decide ((if true then drawS T.2.2.2.2 else T.2.2.2.2) / 64 % 100 < π.1 5)) → FV [11, 12] x u wd true f f3 → f3 x 13 = nI T.2.1 → f3 x 14 = nI (if hit then T.2.2.1 + 1 else T.2.2.1) → f3 x 15 = bI (if T.2.1 = 0 then l0 else T.2.2.2.1) → (true = true → f3 wd 0 = nI (if true then drawS T.2.2.2.2 else T.2.2.2.2)) → LpX10_sendD_128 l G d (qv sh fR K) sh fR x u wd f3 g (nI p) (nI frm) (nI many) (x + 28 + p) (bI (l0 || hit)) := by
    intro f3 hit hh hF3 e13 e14 e15 ew
    have hC3 : CW f3 x π win dl t T.1 m la := hC.sm (hF3.1.mono (by decide))
    obtain ⟨r0', -, -, -, -, r5', r6', r7'⟩ := hC3.rt hp
    replace r0' := r0' hp6
    have r7b : f3 (x + 28 + p) 7 = bI (T.1.2.1 p 5 == 1) := by rw [r7']; exact bI_of1 b5
    have n12 : f3 x 12 = nI (T.1.1 5) := hC3.1 5 (by unfold nset; omega)
    rw [← hh] at hS
    have last : ∀ (f19 : FI) (a6 : Option Nat), a6 = (if l0 || hit then none else some (T.1.1 0 + dl p)) → PWg f19 x t (T.1.2.2.1 ++ [(p, T.1.2.1 p 4, frm, many, T.1.1 0, a6, true, T.1.2.1 p 5 == 1)]) → Oc [5, 13] x f3 f19 → qv sh fR K none (sh, (up2 (up2 (up2 (up2 (up2 f19 (x + 28 + p) 7 (nI 0)) (x + 28 + p) 6 ((f19 (x + 28 + p) 6) + (nI 1))) (x + 28 + p) 5 ((f19 (x + 28 + p) 5) + (nI 1))) x 12 ((f19 x 12) + nI many)) x 13 ((f19 x 13) + (nI 1))), g, fR) := by
      intro f19 a6 ha6 hg hO
      have g6 : f19 (x + 28 + p) 6 = nI (T.1.2.1 p 4) := by
        have := (hC3.2.1.sm (hO.1 2 (by decide))) p 4 hp (by decide)
        exact this
      have g5 : f19 (x + 28 + p) 5 = nI (flyS T.1 p) := (hC3.2.2.1.sm (hO.1 3 (by decide))) p hp
      have g12 : f19 x 12 = nI (T.1.1 5) := (hC3.1.sm (hO.1 1 (by decide))) 5 (by unfold nset; omega)
      have g0 := hO.1 12 (by decide)
      have g13 : f19 x 13 = nI T.2.1 := by
        have := g0 0 13 (by decide) rfl
        rw [Nat.add_zero] at this
        rw [this]; exact e13
      have g14 : f19 x 14 = nI (if hit then T.2.2.1 + 1 else T.2.2.1) := by
        have := g0 0 14 (by decide) rfl
        rw [Nat.add_zero] at this
        rw [this]; exact e14
      have g15 : f19 x 15 = bI (if T.2.1 = 0 then l0 else T.2.2.2.1) := by
        have := g0 0 15 (by decide) rfl
        rw [Nat.add_zero] at this
        rw [this]; exact e15
      rw [g6, g5, g12, g13, nI_add, nI_add, nI_add, nI_add]
      obtain ⟨hC4, o4⟩ := hC3.sent (a := T.1.2.1 p 4 + 1) (c := T.1.1 5 + many) (y13 := nI (T.2.1 + 1)) hp rfl rfl hg hO
      refine ⟨_, _, rfl, rfl, H _ ?_ ?_ ((hF3.mono (by decide)).tr ((o4.mono (by decide)).fw (u := u)).fv)⟩
      · rw [hS, ← ha6]
        exact hC4
      · rw [hS]
        refine ⟨up2_eq, ?_, ?_, fun z => ?_, ?_, ?_⟩
        · rw [up2_k (by decide), up2_k (by decide), up2_r (by omega), up2_r (by omega), up2_r (by omega)]; exact g14
        · rw [up2_k (by decide), up2_k (by decide), up2_r (by omega), up2_r (by omega), up2_r (by omega)]; exact g15
        · rw [up2_r (by omega), up2_r (by omega), up2_r (by omega), up2_r (by omega), up2_r (by omega), hO.2 _ _ (by omega)]; exact ew z
        · show (if true then drawS T.2.2.2.2 else T.2.2.2.2) < 2147483648
          split
          · exact Nat.mod_lt _ (by decide)
          · exact k5
        · show T.2.1 + 1 ≤ 1000
          omega
    refine VX10_sendD_128 hs hu hU hw ⟨t2, t3⟩ ?_
    rw [hC3.t8, r0', r6', r7b, nI_add]
    refine ⟨fun c => ?_, fun c => ?_⟩
    · have z : (l0 || hit) = false := bI_0.mp c
      intro y ey
      subst ey
      exact D_fAdd (s := (p, T.1.2.1 p 4, frm, many, T.1.1 0, some (T.1.1 0 + dl p), true, T.1.2.1 p 5 == 1)) hs hC3.2.2.2.2.1 hl rfl rfl (fun f19 q1 q2 => last f19 _ (by rw [z]; rfl) q1 q2)
    · have z : (l0 || hit) = true := bI_ne0 c
      exact D_fAdd (s := (p, T.1.2.1 p 4, frm, many, T.1.1 0, none, true, T.1.2.1 p 5 == 1)) hs hC3.2.2.2.2.1 hl (nI_m1_lt ht) rfl (fun f19 q1 q2 => last f19 _ (by rw [z]; rfl) q1 q2)
  have st93 : ∀ f2 : FI, FV [11, 12] x u wd true f f2 → f2 x 13 = nI T.2.1 → f2 x 14 = nI T.2.2.1 → f2 x 15 = bI (if T.2.1 = 0 then l0 else T.2.2.2.1) → (true = true → f2 wd 0 = nI T.2.2.2.2) → LpX10_sendD_93 l G d (qv sh fR K) sh fR x u wd f2 g (nI p) (nI frm) (nI many) (x + 28 + p) (bI l0) := by
    intro f2 hF2 e13 e14 e15 ew
    refine VX10_sendD_93 hs hu hU hw ⟨t2, t3⟩ ?_
    have hc2 := hc.fv hux hwd hF2
    have hd : drawS T.2.2.2.2 / 64 % 100 < 100 := Nat.mod_lt _ (by decide)
    refine D_draw hw (ew rfl) k5 ?_
    have hF3 : FV [11, 12] x u wd true f (up2 f2 wd 0 (nI (drawS T.2.2.2.2))) := hF2.tr ⟨fun c _ j i hj e => up2_r (by omega), fun r i a b1 b2 b3 b4 b5 => up2_r (b5 rfl)⟩
    have e5 : (up2 f2 wd 0 (nI (drawS T.2.2.2.2))) u 5 = nI (π.1 5) := by rw [up2_r (by omega)]; exact hc2.1 5 (by decide)
    have e14' : (up2 f2 wd 0 (nI (drawS T.2.2.2.2))) x 14 = nI T.2.2.1 := by rw [up2_r (by omega)]; exact e14
    rw [e5, e14', nI_add]
    refine ⟨fun c2 => ?_, fun c2 => ?_⟩
    · have z2 : ¬ drawS T.2.2.2.2 / 64 % 100 < π.1 5 := by
        have := (nI_leI (by omega) (by omega)).mp c2
        omega
      have := fin (up2 f2 wd 0 (nI (drawS T.2.2.2.2))) false (by simp [z2]) hF3 (by rw [up2_r (by omega)]; exact e13) e14' (by rw [up2_r (by omega)]; exact e15) (fun _ => up2_eq)
      rw [Bool.or_false] at this
      exact this
    · have z2 : drawS T.2.2.2.2 / 64 % 100 < π.1 5 := Nat.not_le.mp (fun q => c2 ((nI_leI (by omega) (by omega)).mpr q))
      have := fin (up2 (up2 f2 wd 0 (nI (drawS T.2.2.2.2))) x 14 (nI (T.2.2.1 + 1))) true (by simp [z2]) (hF3.up0 (by decide)) (by rw [up2_k (by decide), up2_r (by omega)]; exact e13) up2_eq (by rw [up2_k (by decide), up2_r (by omega)]; exact e15) (fun _ => by rw [up2_r (by omega)]; exact up2_eq)
      rw [Bool.or_true] at this
      exact this
  have st77 : ∀ f1 : FI, FW [11] x u f f1 → l0 = false → LpX10_sendD_77 l G d (qv sh fR K) sh fR x u wd f1 g (nI p) (nI frm) (nI many) (x + 28 + p) := by
    intro f1 hF1 hz
    have h12 := hF1.1 12 (by decide)
    have e13 : f1 x 13 = nI T.2.1 := by
      have := h12 0 13 (by decide) rfl
      rw [Nat.add_zero] at this
      rw [this]; exact k1
    have e14 : f1 x 14 = nI T.2.2.1 := by
      have := h12 0 14 (by decide) rfl
      rw [Nat.add_zero] at this
      rw [this]; exact k2
    have e15 : f1 x 15 = bI T.2.2.2.1 := by
      have := h12 0 15 (by decide) rfl
      rw [Nat.add_zero] at this
      rw [this]; exact k3
    have ew : true = true → f1 wd 0 = nI T.2.2.2.2 := fun z => by rw [hF1.2 _ _ (by omega) (by omega) (by omega) (by omega) (by omega)]; exact k4 z
    refine VX10_sendD_77 hs hu hU hw ⟨t2, t3⟩ ?_
    rw [e13, nI_0' (by omega)]
    have st := st93
    rw [hz] at st
    refine ⟨fun c => st f1 ((hF1.mono (by decide)).fv) e13 e14 (by rw [if_neg c]; exact e15) ew, fun c => st (up2 f1 x 15 (nI 0)) (((hF1.mono (by decide)).fv).up0 (by decide)) (by rw [up2_k (by decide)]; exact e13) (by rw [up2_k (by decide)]; exact e14) (by rw [if_pos c]; exact up2_eq) (fun z => by rw [up2_r (by omega)]; exact ew z)⟩
  refine VX10_sendD hs hu hU hw ?_
  rw [clN (by omega), hC.t8]
  refine ⟨inbN hp (by decide), x + 28 + p, t1, t2, t3, ?_⟩
  rw [r6]
  have hFx : FW [11] x u f (up2 (up2 (up2 (up2 f (x + 27) 0 (nI (T.1.1 0))) (x + 27) 1 (nI p)) (x + 27) 2 (nI (T.1.2.1 p 4))) (x + 27) 3 (nI frm)) := (((FW.rf.up (by decide) (by decide)).up (by decide) (by decide)).up (by decide) (by decide)).up (by decide) (by decide)
  have hcx := hc.fr hux hFx.2
  have e0 : (up2 (up2 (up2 (up2 f (x + 27) 0 (nI (T.1.1 0))) (x + 27) 1 (nI p)) (x + 27) 2 (nI (T.1.2.1 p 4))) (x + 27) 3 (nI frm)) (x + 27) 0 = nI (T.1.1 0) := by rw [up2_k (by decide), up2_k (by decide), up2_k (by decide), up2_eq]
  have e1 : (up2 (up2 (up2 (up2 f (x + 27) 0 (nI (T.1.1 0))) (x + 27) 1 (nI p)) (x + 27) 2 (nI (T.1.2.1 p 4))) (x + 27) 3 (nI frm)) (x + 27) 1 = nI p := by rw [up2_k (by decide), up2_k (by decide), up2_eq]
  have e2 : (up2 (up2 (up2 (up2 f (x + 27) 0 (nI (T.1.1 0))) (x + 27) 1 (nI p)) (x + 27) 2 (nI (T.1.2.1 p 4))) (x + 27) 3 (nI frm)) (x + 27) 2 = nI (T.1.2.1 p 4) := by rw [up2_k (by decide), up2_eq]
  have e3 : (up2 (up2 (up2 (up2 f (x + 27) 0 (nI (T.1.1 0))) (x + 27) 1 (nI p)) (x + 27) 2 (nI (T.1.2.1 p 4))) (x + 27) 3 (nI frm)) (x + 27) 3 = nI frm := up2_eq
  generalize up2 (up2 (up2 (up2 f (x + 27) 0 (nI (T.1.1 0))) (x + 27) 1 (nI p)) (x + 27) 2 (nI (T.1.2.1 p 4))) (x + 27) 3 (nI frm) = fx at hFx hcx e0 e1 e2 e3
  have hF5 := hcx.2.2.2 0 (by decide)
  replace hF5 : CPf fx (u + 5) (π.2.2.2.2 0) := hF5
  have hok := hπ.2.2.2.2.2.2.2.2.1
  refine D_isTold (stF5 hU) hF5 hok ⟨fun c => ?_, fun c => ?_⟩
  · have hn := told0 c
    refine st77 fx hFx ?_
    rw [← hl0]
    unfold lostS
    rw [hn]
  · obtain ⟨ops, ho⟩ := told1 c
    rw [ho] at hF5
    refine D_valueBy (stF5 hU) (sW_27 hs) hF5 (hok ops ho) (fa := faD T.1 dl p frm) (fun j hj0 hj hal => ?_) (fun y f1 hy hok1 hf1 => ?_)
    · unfold alD at hal
      simp only [Bool.or_eq_true, beq_iff_eq] at hal
      rcases hal with ((rfl | rfl) | rfl) | rfl
      · rw [show fx (x + 27) (1 - 1) = nI (T.1.1 0) from e0]; exact nI_r (by omega)
      · rw [show fx (x + 27) (2 - 1) = nI p from e1]; exact nI_r (by omega)
      · rw [show fx (x + 27) (3 - 1) = nI (T.1.2.1 p 4) from e2]; exact nI_r (by omega)
      · rw [show fx (x + 27) (4 - 1) = nI frm from e3]; exact nI_r (by omega)
    · have hF1 : FW [11] x u f f1 := hFx.tr ⟨fun c' hc' j i hj ec => hf1 _ _ (by omega), fun r i a b1 b2 b3 b4 => hf1 _ _ (by omega)⟩
      have hl1 : l0 = (ev ops (faD T.1 dl p frm) == 1) := by
        rw [← hl0]
        unfold lostS
        rw [ho]
      refine ⟨fun c2 => st77 f1 hF1 ?_, fun c2 => ?_⟩
      · rw [hl1, beq_eq_false_iff_ne, ← hy, c2]
        decide
      · have z : l0 = true := by
          rw [hl1, beq_iff_eq]
          rcases hok1.2 rfl with z | z
          · exact absurd (Int32.toInt_inj.mp (by rw [hy, z]; rfl)) c2
          · exact z
        have h12 := hF1.1 12 (by decide)
        have e13 : f1 x 13 = nI T.2.1 := by
          have := h12 0 13 (by decide) rfl
          rw [Nat.add_zero] at this
          rw [this]; exact k1
        have e14 : f1 x 14 = nI T.2.2.1 := by
          have := h12 0 14 (by decide) rfl
          rw [Nat.add_zero] at this
          rw [this]; exact k2
        have e15 : f1 x 15 = bI T.2.2.2.1 := by
          have := h12 0 15 (by decide) rfl
          rw [Nat.add_zero] at this
          rw [this]; exact k3
        have ew : true = true → f1 wd 0 = nI T.2.2.2.2 := fun z => by rw [hF1.2 _ _ (by omega) (by omega) (by omega) (by omega) (by omega)]; exact k4 z
        have st := st93
        rw [z] at st
        rw [e13, nI_0' (by omega)]
        exact ⟨fun c => st f1 ((hF1.mono (by decide)).fv) e13 e14 (by rw [if_neg c]; exact e15) ew, fun c => st (up2 f1 x 15 (nI 1)) (((hF1.mono (by decide)).fv).up0 (by decide)) (by rw [up2_k (by decide)]; exact e13) (by rw [up2_k (by decide)]; exact e14) (by rw [if_pos c]; exact up2_eq) (fun z => by rw [up2_r (by omega)]; exact ew z)⟩
end SD
