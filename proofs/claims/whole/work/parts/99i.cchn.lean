/-! the class' reader: chains, levels -/
section CHS
variable {l : Launch} {G : Gx} {d : Nat} {sh : Sh} {fR : FRt} {A p q : Nat} {f : FI} {g : FL} {tp : List Nat} {w o : Nat}
theorem L_prod {D : Nat → Rf} {K : FI → FL → Prop} (h9 : RQ9 sh fR A p q) (hD : CN l G sh fR A q tp w (d + 5) mX9_readPart o D) : ∀ (n i j : Nat) (r : Rf) (f : FI), n + i = 1600 → RS f A q tp w o j r → (∀ f', RS f' A q tp w o j (ap r (lpD tp (opM tp) D n)) → Fx A q f f' → K f' g) → LpX9_readProduct_6 l G d (qv sh (up2 fR (A + 38) 7 (some q)) K) sh fR A p q f g (nI i) := by
  intro n
  induction n with
  | zero =>
    intro i j r f hn hR H
    have hi : i = 1600 := by omega
    subst hi
    refine VX9_readProduct_6 h9.1.1 h9.1.2.1 h9.1.2.2.1 h9.1.2.2.2 ⟨fun _ => ⟨_, _, rfl, rfl, H f ?_ Fx.rf⟩, fun c => absurd (nI_le (Nat.le_refl _) (by decide)) c⟩
    cases r with
    | error x => exact hR
    | ok x =>
      show RS f A q tp w o j (.ok (x.1, x.2 ++ []))
      rw [List.append_nil]; exact hR
  | succ n ih =>
    intro i j r f hn hR H
    have stop : (∀ x, r = .ok x → opM tp x.1 = none) → qv sh (up2 fR (A + 38) 7 (some q)) K none (sh, f, g, (up2 fR (A + 38) 7 (some q))) := by
      intro hs
      refine ⟨_, _, rfl, rfl, H f ?_ Fx.rf⟩
      cases r with
      | error x => exact hR
      | ok x =>
        have e : ap (.ok x) (lpD tp (opM tp) D (n + 1)) = .ok (x.1, x.2 ++ []) := by
          show bd (lpD tp (opM tp) D (n + 1) x.1) _ = _
          rw [lpD, hs x rfl]; rfl
        rw [e, List.append_nil]; exact hR
    have go : ∀ (o2 : Nat) (x : Nat × List Op), r = .ok x → opM tp x.1 = some o2 → cS (o2, 0) = o2 - 27 ∧ cV (o2, 0) = 0 ∧ o2 < 64 → Cl l G (d + 5) 0 0 mX9_advance [.ref (A + 38)] (sh, f, g, (up2 fR (A + 38) 7 (some q))) (qv sh (up2 fR (A + 38) 7 (some q)) fun f8 g9 => Cl l G (d + 5) 0 0 mX9_readPart [.ref (A + 38)] (sh, f8, g9, (up2 fR (A + 38) 7 (some q))) (qv sh (up2 fR (A + 38) 7 (some q)) fun f10 g11 => Cl l G (d + 5) 0 0 mX3_put [.ref q, .int (nI (o2 - 27)), .int (nI 0)] (sh, f10, g11, (up2 fR (A + 38) 7 (some q))) (qv sh (up2 fR (A + 38) 7 (some q)) fun f12 g13 => LpX9_readProduct_6 l G d (qv sh (up2 fR (A + 38) 7 (some q)) K) sh fR A p q f12 g13 (nI i + nI 1)))) := by
      intro o2 x hx ho2 hc
      subst hx
      have hK := opM_K ho2
      refine RS_adv (d := d + 3) h9 hR (fun y hy => by cases hy; omega) (fun f1 a1 a2 => ?_)
      refine hD _ _ f1 g _ a1 (fun f2 b1 b2 => ?_)
      refine RS_put (op := (o2, 0)) h9 b1 ⟨by rw [hc.1]; omega, by rw [hc.2.1]; decide⟩ (fun y hy => by rw [hc.1, hc.2.1]; exact ⟨rfl, rfl⟩) (fun f3 c1 c2 => ?_)
      rw [nI_add]
      refine ih (i + 1) j _ f3 (by omega) c1 (fun f4 d1 d2 => H f4 ?_ (((a2.tr b2).tr c2).tr d2))
      have e : ap (.ok x) (lpD tp (opM tp) D (n + 1)) = ap (bd (ap (bd (.ok x : Rf) (fun x => .ok (tkE tp x.1, x.2))) D) (fun x => .ok (x.1, x.2 ++ [((o2, 0) : Op)]))) (lpD tp (opM tp) D n) := by
        unfold ap
        rw [bd_ok, lpD, ho2]
        simp only [bd_ok, bd_as, List.append_assoc, List.singleton_append]
      rw [e]; exact d1
    refine VX9_readProduct_6 h9.1.1 h9.1.2.1 h9.1.2.2.1 h9.1.2.2.2 ⟨fun c => absurd c (nI_ge (by omega) (by decide)), fun _ => ?_⟩
    have L40 : (∃ x, r = .ok x ∧ (isSg tp x.1 42 = true ∨ isSg tp x.1 47 = true ∨ isSg tp x.1 37 = true)) → LpX9_readProduct_40 l G d (qv sh (up2 fR (A + 38) 7 (some q)) K) sh fR A p q f g (nI i) := by
      intro hx
      obtain ⟨x, rfl, hx⟩ := hx
      refine VX9_readProduct_40 h9.1.1 h9.1.2.1 h9.1.2.2.1 h9.1.2.2.2 ?_
      refine K_isSign h9.1 hR.1 (by decide) (bI_cs (fun z => ?_) (fun z => ?_))
      · have z1 : isSg tp x.1 42 = false := z
        refine K_isSign h9.1 hR.1 (by decide) (bI_cs (fun z => ?_) (fun z => ?_))
        · have z2 : isSg tp x.1 47 = false := z
          have z3 : isSg tp x.1 37 = true := by rcases hx with y | y | y <;> first | exact y | (rw [z1] at y; cases y) | (rw [z2] at y; cases y)
          exact go 35 x rfl (by unfold opM; rw [z1, z2, z3]; rfl) (by decide)
        · have z2 : isSg tp x.1 47 = true := z
          exact go 34 x rfl (by unfold opM; rw [z1, z2]; rfl) (by decide)
      · have z1 : isSg tp x.1 42 = true := z
        exact go 33 x rfl (by unfold opM; rw [z1]; rfl) (by decide)
    refine K_isSign h9.1 hR.1 (by decide) (bI_cs' (fun z1 => ?_) (fun z => ?_))
    · refine K_isSign h9.1 hR.1 (by decide) (bI_cs' (fun z2 => ?_) (fun z => ?_))
      · refine K_isSign h9.1 hR.1 (by decide) (bI_cs (fun z3 => stop (fun x hx => ?_)) (fun z => ?_))
        · subst hx
          unfold opM
          rw [show isSg tp x.1 42 = false from z1, show isSg tp x.1 47 = false from z2, show isSg tp x.1 37 = false from z3]; rfl
        · cases r with
          | error x => cases z
          | ok x => exact L40 ⟨x, rfl, Or.inr (Or.inr z)⟩
      · cases r with
        | error x => cases z
        | ok x => exact L40 ⟨x, rfl, Or.inr (Or.inl z)⟩
    · cases r with
      | error x => cases z
      | ok x => exact L40 ⟨x, rfl, Or.inl z⟩
theorem P_prod {D : Nat → Rf} (h9 : RQ9 sh fR A p q) (hD : CN l G sh fR A q tp w (d + 5) mX9_readPart o D) : CN l G sh fR A q tp w (d + 6) mX9_readProduct o (chD tp (opM tp) D) := by
  intro j r f g K hR H
  refine VX9_readProduct (d := d) h9.1.1 h9.1.2.1 h9.1.2.2.1 h9.1.2.2.2 ?_
  refine hD _ _ f g _ hR (fun f1 a1 a2 => ?_)
  refine L_prod h9 hD 1600 0 j _ f1 rfl a1 (fun f2 b1 b2 => H f2 ?_ (a2.tr b2))
  have e : ap r (chD tp (opM tp) D) = ap (ap r D) (lpD tp (opM tp) D 1600) := by
    unfold ap chD
    simp only [bd_ok, bd_as, List.append_assoc]
  rw [e]; exact b1
theorem L_sum {D : Nat → Rf} {K : FI → FL → Prop} (h9 : RQ9 sh fR A p q) (hD : CN l G sh fR A q tp w (d + 6) mX9_readProduct o D) : ∀ (n i j : Nat) (r : Rf) (f : FI), n + i = 1600 → RS f A q tp w o j r → (∀ f', RS f' A q tp w o j (ap r (lpD tp (opA tp) D n)) → Fx A q f f' → K f' g) → LpX9_readSum_6 l G d (qv sh (up2 fR (A + 38) 7 (some q)) K) sh fR A p q f g (nI i) := by
  intro n
  induction n with
  | zero =>
    intro i j r f hn hR H
    have hi : i = 1600 := by omega
    subst hi
    refine VX9_readSum_6 h9.1.1 h9.1.2.1 h9.1.2.2.1 h9.1.2.2.2 ⟨fun _ => ⟨_, _, rfl, rfl, H f ?_ Fx.rf⟩, fun c => absurd (nI_le (Nat.le_refl _) (by decide)) c⟩
    cases r with
    | error x => exact hR
    | ok x =>
      show RS f A q tp w o j (.ok (x.1, x.2 ++ []))
      rw [List.append_nil]; exact hR
  | succ n ih =>
    intro i j r f hn hR H
    have stop : (∀ x, r = .ok x → opA tp x.1 = none) → qv sh (up2 fR (A + 38) 7 (some q)) K none (sh, f, g, (up2 fR (A + 38) 7 (some q))) := by
      intro hs
      refine ⟨_, _, rfl, rfl, H f ?_ Fx.rf⟩
      cases r with
      | error x => exact hR
      | ok x =>
        have e : ap (.ok x) (lpD tp (opA tp) D (n + 1)) = .ok (x.1, x.2 ++ []) := by
          show bd (lpD tp (opA tp) D (n + 1) x.1) _ = _
          rw [lpD, hs x rfl]; rfl
        rw [e, List.append_nil]; exact hR
    have go : ∀ (o2 : Nat) (x : Nat × List Op), r = .ok x → opA tp x.1 = some o2 → cS (o2, 0) = o2 - 27 ∧ cV (o2, 0) = 0 ∧ o2 < 64 → Cl l G (d + 6) 0 0 mX9_advance [.ref (A + 38)] (sh, f, g, (up2 fR (A + 38) 7 (some q))) (qv sh (up2 fR (A + 38) 7 (some q)) fun f8 g9 => Cl l G (d + 6) 0 0 mX9_readProduct [.ref (A + 38)] (sh, f8, g9, (up2 fR (A + 38) 7 (some q))) (qv sh (up2 fR (A + 38) 7 (some q)) fun f10 g11 => Cl l G (d + 6) 0 0 mX3_put [.ref q, .int (nI (o2 - 27)), .int (nI 0)] (sh, f10, g11, (up2 fR (A + 38) 7 (some q))) (qv sh (up2 fR (A + 38) 7 (some q)) fun f12 g13 => LpX9_readSum_6 l G d (qv sh (up2 fR (A + 38) 7 (some q)) K) sh fR A p q f12 g13 (nI i + nI 1)))) := by
      intro o2 x hx ho2 hc
      subst hx
      have hK := opA_K ho2
      refine RS_adv (d := d + 4) h9 hR (fun y hy => by cases hy; omega) (fun f1 a1 a2 => ?_)
      refine hD _ _ f1 g _ a1 (fun f2 b1 b2 => ?_)
      refine RS_put (op := (o2, 0)) h9 b1 ⟨by rw [hc.1]; omega, by rw [hc.2.1]; decide⟩ (fun y hy => by rw [hc.1, hc.2.1]; exact ⟨rfl, rfl⟩) (fun f3 c1 c2 => ?_)
      rw [nI_add]
      refine ih (i + 1) j _ f3 (by omega) c1 (fun f4 d1 d2 => H f4 ?_ (((a2.tr b2).tr c2).tr d2))
      have e : ap (.ok x) (lpD tp (opA tp) D (n + 1)) = ap (bd (ap (bd (.ok x : Rf) (fun x => .ok (tkE tp x.1, x.2))) D) (fun x => .ok (x.1, x.2 ++ [((o2, 0) : Op)]))) (lpD tp (opA tp) D n) := by
        unfold ap
        rw [bd_ok, lpD, ho2]
        simp only [bd_ok, bd_as, List.append_assoc, List.singleton_append]
      rw [e]; exact d1
    refine VX9_readSum_6 h9.1.1 h9.1.2.1 h9.1.2.2.1 h9.1.2.2.2 ⟨fun c => absurd c (nI_ge (by omega) (by decide)), fun _ => ?_⟩
    have L31 : (∃ x, r = .ok x ∧ (isSg tp x.1 43 = true ∨ isSg tp x.1 45 = true)) → LpX9_readSum_31 l G d (qv sh (up2 fR (A + 38) 7 (some q)) K) sh fR A p q f g (nI i) := by
      intro hx
      obtain ⟨x, rfl, hx⟩ := hx
      refine VX9_readSum_31 h9.1.1 h9.1.2.1 h9.1.2.2.1 h9.1.2.2.2 ?_
      refine K_isSign h9.1 hR.1 (by decide) (bI_cs (fun z => ?_) (fun z => ?_))
      · have z1 : isSg tp x.1 43 = false := z
        have z2 : isSg tp x.1 45 = true := by rcases hx with y | y <;> first | exact y | (rw [z1] at y; cases y)
        exact go 32 x rfl (by unfold opA; rw [z1, z2]; rfl) (by decide)
      · have z1 : isSg tp x.1 43 = true := z
        exact go 31 x rfl (by unfold opA; rw [z1]; rfl) (by decide)
    refine K_isSign h9.1 hR.1 (by decide) (bI_cs' (fun z1 => ?_) (fun z => ?_))
    · refine K_isSign h9.1 hR.1 (by decide) (bI_cs (fun z2 => stop (fun x hx => ?_)) (fun z => ?_))
      · subst hx
        unfold opA
        rw [show isSg tp x.1 43 = false from z1, show isSg tp x.1 45 = false from z2]; rfl
      · cases r with
        | error x => cases z
        | ok x => exact L31 ⟨x, rfl, Or.inr z⟩
    · cases r with
      | error x => cases z
      | ok x => exact L31 ⟨x, rfl, Or.inl z⟩
theorem P_sum {D : Nat → Rf} (h9 : RQ9 sh fR A p q) (hD : CN l G sh fR A q tp w (d + 6) mX9_readProduct o D) : CN l G sh fR A q tp w (d + 7) mX9_readSum o (chD tp (opA tp) D) := by
  intro j r f g K hR H
  refine VX9_readSum (d := d) h9.1.1 h9.1.2.1 h9.1.2.2.1 h9.1.2.2.2 ?_
  refine hD _ _ f g _ hR (fun f1 a1 a2 => ?_)
  refine L_sum h9 hD 1600 0 j _ f1 rfl a1 (fun f2 b1 b2 => H f2 ?_ (a2.tr b2))
  have e : ap r (chD tp (opA tp) D) = ap (ap r D) (lpD tp (opA tp) D 1600) := by
    unfold ap chD
    simp only [bd_ok, bd_as, List.append_assoc]
  rw [e]; exact b1
theorem L_both {D : Nat → Rf} {K : FI → FL → Prop} (h9 : RQ9 sh fR A p q) (hD : CN l G sh fR A q tp w (d + 8) mX9_readFact o D) : ∀ (n i j : Nat) (r : Rf) (f : FI), n + i = 1600 → RS f A q tp w o j r → (∀ f', RS f' A q tp w o j (ap r (lpD tp (opN tp) D n)) → Fx A q f f' → K f' g) → LpX9_readBoth_6 l G d (qv sh (up2 fR (A + 38) 7 (some q)) K) sh fR A p q f g (nI i) := by
  intro n
  induction n with
  | zero =>
    intro i j r f hn hR H
    have hi : i = 1600 := by omega
    subst hi
    refine VX9_readBoth_6 h9.1.1 h9.1.2.1 h9.1.2.2.1 h9.1.2.2.2 ⟨fun _ => ⟨_, _, rfl, rfl, H f ?_ Fx.rf⟩, fun c => absurd (nI_le (Nat.le_refl _) (by decide)) c⟩
    cases r with
    | error x => exact hR
    | ok x =>
      show RS f A q tp w o j (.ok (x.1, x.2 ++ []))
      rw [List.append_nil]; exact hR
  | succ n ih =>
    intro i j r f hn hR H
    have stop : (∀ x, r = .ok x → opN tp x.1 = none) → qv sh (up2 fR (A + 38) 7 (some q)) K none (sh, f, g, (up2 fR (A + 38) 7 (some q))) := by
      intro hs
      refine ⟨_, _, rfl, rfl, H f ?_ Fx.rf⟩
      cases r with
      | error x => exact hR
      | ok x =>
        have e : ap (.ok x) (lpD tp (opN tp) D (n + 1)) = .ok (x.1, x.2 ++ []) := by
          show bd (lpD tp (opN tp) D (n + 1) x.1) _ = _
          rw [lpD, hs x rfl]; rfl
        rw [e, List.append_nil]; exact hR
    have go : ∀ (o2 : Nat) (x : Nat × List Op), r = .ok x → opN tp x.1 = some o2 → cS (o2, 0) = o2 - 27 ∧ cV (o2, 0) = 0 ∧ o2 < 64 → Cl l G (d + 8) 0 0 mX9_advance [.ref (A + 38)] (sh, f, g, (up2 fR (A + 38) 7 (some q))) (qv sh (up2 fR (A + 38) 7 (some q)) fun f8 g9 => Cl l G (d + 8) 0 0 mX9_readFact [.ref (A + 38)] (sh, f8, g9, (up2 fR (A + 38) 7 (some q))) (qv sh (up2 fR (A + 38) 7 (some q)) fun f10 g11 => Cl l G (d + 8) 0 0 mX3_put [.ref q, .int (nI (o2 - 27)), .int (nI 0)] (sh, f10, g11, (up2 fR (A + 38) 7 (some q))) (qv sh (up2 fR (A + 38) 7 (some q)) fun f12 g13 => LpX9_readBoth_6 l G d (qv sh (up2 fR (A + 38) 7 (some q)) K) sh fR A p q f12 g13 (nI i + nI 1)))) := by
      intro o2 x hx ho2 hc
      subst hx
      have hK := opN_K ho2
      refine RS_adv (d := d + 6) h9 hR (fun y hy => by cases hy; omega) (fun f1 a1 a2 => ?_)
      refine hD _ _ f1 g _ a1 (fun f2 b1 b2 => ?_)
      refine RS_put (op := (o2, 0)) h9 b1 ⟨by rw [hc.1]; omega, by rw [hc.2.1]; decide⟩ (fun y hy => by rw [hc.1, hc.2.1]; exact ⟨rfl, rfl⟩) (fun f3 c1 c2 => ?_)
      rw [nI_add]
      refine ih (i + 1) j _ f3 (by omega) c1 (fun f4 d1 d2 => H f4 ?_ (((a2.tr b2).tr c2).tr d2))
      have e : ap (.ok x) (lpD tp (opN tp) D (n + 1)) = ap (bd (ap (bd (.ok x : Rf) (fun x => .ok (tkE tp x.1, x.2))) D) (fun x => .ok (x.1, x.2 ++ [((o2, 0) : Op)]))) (lpD tp (opN tp) D n) := by
        unfold ap
        rw [bd_ok, lpD, ho2]
        simp only [bd_ok, bd_as, List.append_assoc, List.singleton_append]
      rw [e]; exact d1
    refine VX9_readBoth_6 h9.1.1 h9.1.2.1 h9.1.2.2.1 h9.1.2.2.2 ⟨fun c => absurd c (nI_ge (by omega) (by decide)), fun _ => ?_⟩
    refine K_isWord h9.1 hR.1 (by decide) (bI_cs (fun z => stop (fun x hx => ?_)) (fun z => ?_))
    · subst hx
      unfold opN
      rw [show isW tp x.1 24 = false from z]; rfl
    · cases r with
      | error x => cases z
      | ok x => exact go 41 x rfl (by unfold opN; rw [if_pos (show isW tp x.1 24 = true from z)]) (by decide)
theorem P_both {D : Nat → Rf} (h9 : RQ9 sh fR A p q) (hD : CN l G sh fR A q tp w (d + 8) mX9_readFact o D) : CN l G sh fR A q tp w (d + 9) mX9_readBoth o (chD tp (opN tp) D) := by
  intro j r f g K hR H
  refine VX9_readBoth (d := d) h9.1.1 h9.1.2.1 h9.1.2.2.1 h9.1.2.2.2 ?_
  refine hD _ _ f g _ hR (fun f1 a1 a2 => ?_)
  refine L_both h9 hD 1600 0 j _ f1 rfl a1 (fun f2 b1 b2 => H f2 ?_ (a2.tr b2))
  have e : ap r (chD tp (opN tp) D) = ap (ap r D) (lpD tp (opN tp) D 1600) := by
    unfold ap chD
    simp only [bd_ok, bd_as, List.append_assoc]
  rw [e]; exact b1
theorem L_test {D : Nat → Rf} {K : FI → FL → Prop} (h9 : RQ9 sh fR A p q) (hD : CN l G sh fR A q tp w (d + 9) mX9_readBoth o D) : ∀ (n i j : Nat) (r : Rf) (f : FI), n + i = 1600 → RS f A q tp w o j r → (∀ f', RS f' A q tp w o j (ap r (lpD tp (opO tp) D n)) → Fx A q f f' → K f' g) → LpX9_readTest_6 l G d (qv sh (up2 fR (A + 38) 7 (some q)) K) sh fR A p q f g (nI i) := by
  intro n
  induction n with
  | zero =>
    intro i j r f hn hR H
    have hi : i = 1600 := by omega
    subst hi
    refine VX9_readTest_6 h9.1.1 h9.1.2.1 h9.1.2.2.1 h9.1.2.2.2 ⟨fun _ => ⟨_, _, rfl, rfl, H f ?_ Fx.rf⟩, fun c => absurd (nI_le (Nat.le_refl _) (by decide)) c⟩
    cases r with
    | error x => exact hR
    | ok x =>
      show RS f A q tp w o j (.ok (x.1, x.2 ++ []))
      rw [List.append_nil]; exact hR
  | succ n ih =>
    intro i j r f hn hR H
    have stop : (∀ x, r = .ok x → opO tp x.1 = none) → qv sh (up2 fR (A + 38) 7 (some q)) K none (sh, f, g, (up2 fR (A + 38) 7 (some q))) := by
      intro hs
      refine ⟨_, _, rfl, rfl, H f ?_ Fx.rf⟩
      cases r with
      | error x => exact hR
      | ok x =>
        have e : ap (.ok x) (lpD tp (opO tp) D (n + 1)) = .ok (x.1, x.2 ++ []) := by
          show bd (lpD tp (opO tp) D (n + 1) x.1) _ = _
          rw [lpD, hs x rfl]; rfl
        rw [e, List.append_nil]; exact hR
    have go : ∀ (o2 : Nat) (x : Nat × List Op), r = .ok x → opO tp x.1 = some o2 → cS (o2, 0) = o2 - 27 ∧ cV (o2, 0) = 0 ∧ o2 < 64 → Cl l G (d + 9) 0 0 mX9_advance [.ref (A + 38)] (sh, f, g, (up2 fR (A + 38) 7 (some q))) (qv sh (up2 fR (A + 38) 7 (some q)) fun f8 g9 => Cl l G (d + 9) 0 0 mX9_readBoth [.ref (A + 38)] (sh, f8, g9, (up2 fR (A + 38) 7 (some q))) (qv sh (up2 fR (A + 38) 7 (some q)) fun f10 g11 => Cl l G (d + 9) 0 0 mX3_put [.ref q, .int (nI (o2 - 27)), .int (nI 0)] (sh, f10, g11, (up2 fR (A + 38) 7 (some q))) (qv sh (up2 fR (A + 38) 7 (some q)) fun f12 g13 => LpX9_readTest_6 l G d (qv sh (up2 fR (A + 38) 7 (some q)) K) sh fR A p q f12 g13 (nI i + nI 1)))) := by
      intro o2 x hx ho2 hc
      subst hx
      have hK := opO_K ho2
      refine RS_adv (d := d + 7) h9 hR (fun y hy => by cases hy; omega) (fun f1 a1 a2 => ?_)
      refine hD _ _ f1 g _ a1 (fun f2 b1 b2 => ?_)
      refine RS_put (op := (o2, 0)) h9 b1 ⟨by rw [hc.1]; omega, by rw [hc.2.1]; decide⟩ (fun y hy => by rw [hc.1, hc.2.1]; exact ⟨rfl, rfl⟩) (fun f3 c1 c2 => ?_)
      rw [nI_add]
      refine ih (i + 1) j _ f3 (by omega) c1 (fun f4 d1 d2 => H f4 ?_ (((a2.tr b2).tr c2).tr d2))
      have e : ap (.ok x) (lpD tp (opO tp) D (n + 1)) = ap (bd (ap (bd (.ok x : Rf) (fun x => .ok (tkE tp x.1, x.2))) D) (fun x => .ok (x.1, x.2 ++ [((o2, 0) : Op)]))) (lpD tp (opO tp) D n) := by
        unfold ap
        rw [bd_ok, lpD, ho2]
        simp only [bd_ok, bd_as, List.append_assoc, List.singleton_append]
      rw [e]; exact d1
    refine VX9_readTest_6 h9.1.1 h9.1.2.1 h9.1.2.2.1 h9.1.2.2.2 ⟨fun c => absurd c (nI_ge (by omega) (by decide)), fun _ => ?_⟩
    refine K_isWord h9.1 hR.1 (by decide) (bI_cs (fun z => stop (fun x hx => ?_)) (fun z => ?_))
    · subst hx
      unfold opO
      rw [show isW tp x.1 23 = false from z]; rfl
    · cases r with
      | error x => cases z
      | ok x => exact go 42 x rfl (by unfold opO; rw [if_pos (show isW tp x.1 23 = true from z)]) (by decide)
theorem P_test {D : Nat → Rf} (h9 : RQ9 sh fR A p q) (hD : CN l G sh fR A q tp w (d + 9) mX9_readBoth o D) : CN l G sh fR A q tp w (d + 10) mX9_readTest o (chD tp (opO tp) D) := by
  intro j r f g K hR H
  refine VX9_readTest (d := d) h9.1.1 h9.1.2.1 h9.1.2.2.1 h9.1.2.2.2 ?_
  refine hD _ _ f g _ hR (fun f1 a1 a2 => ?_)
  refine L_test h9 hD 1600 0 j _ f1 rfl a1 (fun f2 b1 b2 => H f2 ?_ (a2.tr b2))
  have e : ap r (chD tp (opO tp) D) = ap (ap r D) (lpD tp (opO tp) D 1600) := by
    unfold ap chD
    simp only [bd_ok, bd_as, List.append_assoc]
  rw [e]; exact b1
theorem X_prod (h9 : RQ9 sh fR A p q) : CX l G sh fR A q tp w (d + 6) mX9_readProduct := by
  intro x f g K hR H
  refine VX9_readProduct (d := d) h9.1.1 h9.1.2.1 h9.1.2.2.1 h9.1.2.2.2 ?_
  refine X_part (d := d) h9 x f g _ hR (fun f1 a1 a2 => ?_)
  refine VX9_readProduct_6 h9.1.1 h9.1.2.1 h9.1.2.2.1 h9.1.2.2.2 ⟨fun c => absurd c (by decide), fun _ => ?_⟩
  refine K_isSign h9.1 a1.1 (by decide) (bI_cs' (fun _ => K_isSign h9.1 a1.1 (by decide) (bI_cs' (fun _ => K_isSign h9.1 a1.1 (by decide) (bI_cs (fun _ => ⟨_, _, rfl, rfl, H f1 a1 a2⟩) (fun z => by cases z))) (fun z => by cases z))) (fun z => by cases z))
theorem X_sum (h9 : RQ9 sh fR A p q) : CX l G sh fR A q tp w (d + 7) mX9_readSum := by
  intro x f g K hR H
  refine VX9_readSum (d := d) h9.1.1 h9.1.2.1 h9.1.2.2.1 h9.1.2.2.2 ?_
  refine X_prod (d := d) h9 x f g _ hR (fun f1 a1 a2 => ?_)
  refine VX9_readSum_6 h9.1.1 h9.1.2.1 h9.1.2.2.1 h9.1.2.2.2 ⟨fun c => absurd c (by decide), fun _ => ?_⟩
  refine K_isSign h9.1 a1.1 (by decide) (bI_cs' (fun _ => K_isSign h9.1 a1.1 (by decide) (bI_cs (fun _ => ⟨_, _, rfl, rfl, H f1 a1 a2⟩) (fun z => by cases z))) (fun z => by cases z))
theorem X_fact (h9 : RQ9 sh fR A p q) : CX l G sh fR A q tp w (d + 8) mX9_readFact := by
  intro x f g K hR H
  refine VX9_readFact (d := d) h9.1.1 h9.1.2.1 h9.1.2.2.1 h9.1.2.2.2 ?_
  refine K_isWord h9.1 hR.1 (by decide) (bI_cs (fun _ => ?_) (fun z => by cases z))
  refine K_isSign h9.1 hR.1 (by decide) (bI_cs (fun _ => ?_) (fun z => by cases z))
  refine K_isWord h9.1 hR.1 (by decide) (bI_cs (fun _ => ?_) (fun z => by cases z))
  refine X_sum (d := d) h9 x f g _ hR (fun f1 a1 a2 => ?_)
  refine K_isSign h9.1 a1.1 (by decide) (bI_cs (fun _ => ?_) (fun z => by cases z))
  refine K_isSign h9.1 a1.1 (by decide) (bI_cs (fun _ => ?_) (fun z => by cases z))
  refine RS_exS (d := d + 4) h9 a1 (by decide) (fun f2 b1 b2 => ?_)
  refine X_sum (d := d) h9 x f2 g _ b1 (fun f3 c1 c2 => ?_)
  exact RS_put (op := (40, 0)) (j := 0) h9 (RS.er (j' := 1) c1) (by decide) (fun y hy => by cases hy) (fun f4 d1 d2 => ⟨_, _, rfl, rfl, H f4 d1 (((a2.tr b2).tr c2).tr d2)⟩)
theorem X_both (h9 : RQ9 sh fR A p q) : CX l G sh fR A q tp w (d + 9) mX9_readBoth := by
  intro x f g K hR H
  refine VX9_readBoth (d := d) h9.1.1 h9.1.2.1 h9.1.2.2.1 h9.1.2.2.2 ?_
  refine X_fact (d := d) h9 x f g _ hR (fun f1 a1 a2 => ?_)
  refine VX9_readBoth_6 h9.1.1 h9.1.2.1 h9.1.2.2.1 h9.1.2.2.2 ⟨fun c => absurd c (by decide), fun _ => ?_⟩
  refine K_isWord h9.1 a1.1 (by decide) (bI_cs (fun _ => ⟨_, _, rfl, rfl, H f1 a1 a2⟩) (fun z => by cases z))
theorem X_test (h9 : RQ9 sh fR A p q) : CX l G sh fR A q tp w (d + 10) mX9_readTest := by
  intro x f g K hR H
  refine VX9_readTest (d := d) h9.1.1 h9.1.2.1 h9.1.2.2.1 h9.1.2.2.2 ?_
  refine X_both (d := d) h9 x f g _ hR (fun f1 a1 a2 => ?_)
  refine VX9_readTest_6 h9.1.1 h9.1.2.1 h9.1.2.2.1 h9.1.2.2.2 ⟨fun c => absurd c (by decide), fun _ => ?_⟩
  refine K_isWord h9.1 a1.1 (by decide) (bI_cs (fun _ => ⟨_, _, rfl, rfl, H f1 a1 a2⟩) (fun z => by cases z))
theorem P_fact {S sF sT : Nat → Rf} (h9 : RQ9 sh fR A p q) (ho : o ≤ 7) (hS : CN l G sh fR A q tp w (d + 7) mX9_readSum o S) (hF : SB l G sh fR A q tp w (d + 7) mX9_readFact o sF) (hT : SB l G sh fR A q tp w (d + 7) mX9_readTest o sT) : CN l G sh fR A q tp w (d + 8) mX9_readFact o (facD tp (7 - o) S sF sT) := by
  intro j r f g K hR H
  cases r with
  | error x => exact X_fact (d := d) h9 x f g K hR H
  | ok x =>
    refine VX9_readFact (d := d) h9.1.1 h9.1.2.1 h9.1.2.2.1 h9.1.2.2.2 ?_
    have hD : ap (.ok x) (facD tp (7 - o) S sF sT) = bd (facD tp (7 - o) S sF sT x.1) (fun y => .ok (y.1, x.2 ++ y.2)) := rfl
    rw [hD] at H
    unfold facD at H
    have e7 : o = 7 → ∃ y, (bd (.ok x : Rf) (fun x => bd (opn tp (7 - o) x.1) (fun e => .ok (e, x.2))) : Rf) = .error y := fun z => by subst z; exact ⟨_, rfl⟩
    refine K_isWord h9.1 hR.1 (by decide) (bI_cs (fun z25 => ?_) (fun z => ?_))
    · rw [show isW tp x.1 25 = false from z25, if_neg Bool.false_ne_true] at H
      refine K_isSign h9.1 hR.1 (by decide) (bI_cs (fun z91 => ?_) (fun z => ?_))
      · rw [show isSg tp x.1 91 = false from z91, if_neg Bool.false_ne_true] at H
        refine K_isWord h9.1 hR.1 (by decide) (bI_cs (fun z26 => ?_) (fun z => ?_))
        · rw [show isW tp x.1 26 = false from z26, if_neg Bool.false_ne_true] at H
          refine hS _ _ f g _ hR (fun f1 a1 a2 => ?_)
          have fin : ∀ (f1 : FI) (op : Nat) (r1 : Rf), (op = 38 ∨ op = 39 ∨ op = 40) → RS f1 A q tp w o (j + 1) r1 → Fx A q f f1 → (bd (bd (S x.1) (fun q => bd (cmpD tp q.1) (fun c => bd (S c.1) (fun q2 => .ok (q2.1, q.2 ++ q2.2 ++ [(c.2, 0)]))))) (fun y => .ok (y.1, x.2 ++ y.2)) : Rf) = bd (ap r1 S) (fun y => .ok (y.1, y.2 ++ [((op, 0) : Op)])) → Cl l G (d + 7) 0 0 mX9_readSum [.ref (A + 38)] (sh, f1, g, (up2 fR (A + 38) 7 (some q))) (qv sh (up2 fR (A + 38) 7 (some q)) fun f2 g2 => Cl l G (d + 7) 0 0 mX3_put [.ref q, .int (nI (op - 27)), .int (nI 0)] (sh, f2, g2, (up2 fR (A + 38) 7 (some q))) (qv sh (up2 fR (A + 38) 7 (some q)) fun f3 g3 => (qv sh (up2 fR (A + 38) 7 (some q)) K) none (sh, f3, g3, (up2 fR (A + 38) 7 (some q))))) := by
            intro f1 op r1 hop b1 b2 he
            have hop2 : cS (op, 0) = op - 27 ∧ cV (op, 0) = 0 := by rcases hop with rfl | rfl | rfl <;> decide
            refine hS _ _ f1 g _ b1 (fun f2 c1 c2 => ?_)
            refine RS_put (op := (op, 0)) h9 c1 ⟨by rw [hop2.1]; omega, by rw [hop2.2]; decide⟩ (fun y hy => by rw [hop2.1, hop2.2]; exact ⟨rfl, rfl⟩) (fun f3 d1 d2 => ⟨_, _, rfl, rfl, H f3 ?_ ((b2.tr c2).tr d2)⟩)
            rw [he]; exact d1
          have hok : ∀ y, ap (.ok x) S = .ok y → ∃ q1, S x.1 = .ok q1 ∧ y = (q1.1, x.2 ++ q1.2) := fun y hy => by
            obtain ⟨q1, h1, h2⟩ := bd_in (show bd (S x.1) (fun y => .ok (y.1, x.2 ++ y.2)) = .ok y from hy)
            cases h2
            exact ⟨q1, h1, rfl⟩
          refine K_isSign h9.1 a1.1 (by decide) (bI_cs (fun z60 => ?_) (fun z => ?_))
          · refine K_isSign h9.1 a1.1 (by decide) (bI_cs (fun z62 => ?_) (fun z => ?_))
            · refine RS_exS (d := d + 4) h9 a1 (by decide) (fun f2 b1 b2 => ?_)
              refine fin f2 40 _ (by decide) b1 (a2.tr b2) ?_
              cases hs : S x.1 with
              | error y => unfold ap; rw [bd_ok, hs]; rfl
              | ok q1 =>
                have ea : ap (.ok x) S = .ok (q1.1, x.2 ++ q1.2) := by unfold ap; rw [bd_ok, hs]; rfl
                rw [ea] at z60 z62
                have z60' : isSg tp q1.1 60 = false := z60
                have z62' : isSg tp q1.1 62 = false := z62
                rw [ea]
                unfold cmpD exS ap
                simp only [bd_ok, z60', z62', if_false, Bool.false_eq_true]
                by_cases c : isSg tp q1.1 61 = true
                · simp only [c, if_true, bd_ok, bd_as, List.append_assoc]
                · simp only [c, if_false, bd_er, Bool.false_eq_true]
            · cases hs : ap (.ok x) S with
              | error y => rw [hs] at z; cases z
              | ok y =>
                obtain ⟨q1, h1, rfl⟩ := hok y hs
                rw [hs] at z z60 a1
                have z' : isSg tp q1.1 62 = true := z
                have z60' : isSg tp q1.1 60 = false := z60
                refine RS_adv (d := d + 5) h9 a1 (fun y hy => by cases hy; have := (isSg_K z').1; dsimp only; omega) (fun f2 b1 b2 => ?_)
                refine fin f2 39 _ (by decide) b1 (a2.tr b2) ?_
                rw [h1]
                unfold cmpD ap
                simp only [bd_ok, z60', z', if_false, if_true, bd_as, List.append_assoc, Bool.false_eq_true]
          · cases hs : ap (.ok x) S with
            | error y => rw [hs] at z; cases z
            | ok y =>
              obtain ⟨q1, h1, rfl⟩ := hok y hs
              rw [hs] at z a1
              have z' : isSg tp q1.1 60 = true := z
              refine RS_adv (d := d + 5) h9 a1 (fun y hy => by cases hy; have := (isSg_K z').1; dsimp only; omega) (fun f2 b1 b2 => ?_)
              refine fin f2 38 _ (by decide) b1 (a2.tr b2) ?_
              rw [h1]
              unfold cmpD ap
              simp only [bd_ok, z', if_true, bd_as, List.append_assoc]
        · have z' : isW tp x.1 26 = true := z
          rw [if_pos z'] at H
          refine RS_adv (d := d + 5) h9 hR (fun y hy => by cases hy; have := (isW_K z').1; omega) (fun f1 a1 a2 => ?_)
          exact RS_put (op := (30, 0)) h9 a1 (by decide) (fun y hy => ⟨rfl, rfl⟩) (fun f2 b1 b2 => ⟨_, _, rfl, rfl, H f2 b1 (a2.tr b2)⟩)
      · have z' : isSg tp x.1 91 = true := z
        rw [if_pos z'] at H
        refine RS_opn (d := d + 4) h9 hR ho (fun y hy => by cases hy; have := (isSg_K z').1; omega) (fun f1 a1 a2 => ?_)
        refine hT _ _ f1 g _ e7 a1 (fun f2 b1 b2 => ?_)
        refine RS_exS (d := d + 4) h9 b1 (by decide) (fun f3 c1 c2 => ⟨_, _, rfl, rfl, H _ ?_ (((a2.tr b2).tr c2).tr Fx.o9)⟩)
        refine RS.wk (j := j + 1 + 1) ?_ (by omega)
        have e : (bd (bd (opn tp (7 - o) x.1) (fun e1 => bd (sT e1) (fun q => bd (exS tp 93 q.1) (fun e3 => .ok (e3, q.2))))) (fun y => .ok (y.1, x.2 ++ y.2)) : Rf) = bd (ap (bd (.ok x : Rf) (fun x => bd (opn tp (7 - o) x.1) (fun e => .ok (e, x.2)))) sT) (fun x => bd (exS tp 93 x.1) (fun e => .ok (e, x.2))) := by
          unfold ap
          simp only [bd_ok, bd_as]
        rw [e]; exact c1.cls h9.2
    · have z' : isW tp x.1 25 = true := z
      rw [if_pos z'] at H
      refine RS_opn (d := d + 4) h9 hR ho (fun y hy => by cases hy; have := (isW_K z').1; omega) (fun f1 a1 a2 => ?_)
      refine hF _ _ f1 g _ e7 a1 (fun f2 b1 b2 => ?_)
      refine RS_put (op := (43, 0)) h9 (b1.cls h9.2) (by decide) (fun y hy => ⟨rfl, rfl⟩) (fun f3 c1 c2 => ⟨_, _, rfl, rfl, H f3 ?_ (((a2.tr b2).tr Fx.o9).tr c2)⟩)
      have e : (bd (bd (opn tp (7 - o) x.1) (fun e1 => bd (sF e1) (fun q => .ok (q.1, q.2 ++ [(43, 0)])))) (fun y => .ok (y.1, x.2 ++ y.2)) : Rf) = bd (ap (bd (.ok x : Rf) (fun x => bd (opn tp (7 - o) x.1) (fun e => .ok (e, x.2)))) sF) (fun x => .ok (x.1, x.2 ++ [((43, 0) : Op)])) := by
        unfold ap
        simp only [bd_ok, bd_as, List.append_assoc]
      rw [e]; exact c1
theorem SB.of {dep : Nat} {md : Md} {D : Nat → Rf} (hX : CX l G sh fR A q tp w dep md) (hN : o < 7 → CN l G sh fR A q tp w dep md (o + 1) D) (ho : o ≤ 7) : SB l G sh fR A q tp w dep md o D := by
  intro j r f g K he hR H
  by_cases c : o = 7
  · obtain ⟨x, rfl⟩ := he c
    exact hX x f g K hR H
  · exact hN (by omega) j r f g K hR H
/-- all levels -/
theorem P_lvl (h9 : RQ9 sh fR A p q) (hw : w < 4) : ∀ (m : Nat), m ≤ 7 → ∀ d, 7 * m + 7 ≤ d → CN l G sh fR A q tp w (d + 10) mX9_readSum (7 - m) (lvF tp w m).1 ∧ CN l G sh fR A q tp w (d + 10) mX9_readFact (7 - m) (lvF tp w m).2.1 ∧ CN l G sh fR A q tp w (d + 10) mX9_readTest (7 - m) (lvF tp w m).2.2
  | 0, _, d, hd => by
    obtain ⟨d, rfl⟩ : ∃ e, d = e + 7 := ⟨d - 7, by omega⟩
    have sS : ∀ {dd : Nat} {D : Nat → Rf}, SB l G sh fR A q tp w (dd + 7) mX9_readSum 7 D := fun {dd D} => SB.of (X_sum h9) (fun z => by omega) (by decide)
    have sF : ∀ {dd : Nat} {D : Nat → Rf}, SB l G sh fR A q tp w (dd + 8) mX9_readFact 7 D := fun {dd D} => SB.of (X_fact h9) (fun z => by omega) (by decide)
    have sT : ∀ {dd : Nat} {D : Nat → Rf}, SB l G sh fR A q tp w (dd + 10) mX9_readTest 7 D := fun {dd D} => SB.of (X_test h9) (fun z => by omega) (by decide)
    have hS : ∀ dd, CN l G sh fR A q tp w (dd + 14) mX9_readSum 7 (lvF tp w 0).1 := fun dd => P_sum (d := dd + 7) h9 (P_prod (d := dd + 7) h9 (P_part (d := dd) h9 hw (by decide) (sS (dd := dd + 3)) (sS (dd := dd + 4)) (sT (dd := dd))))
    have hF : ∀ dd, CN l G sh fR A q tp w (dd + 15) mX9_readFact 7 (lvF tp w 0).2.1 := fun dd => P_fact (d := dd + 7) h9 (by decide) (hS dd) (sF (dd := dd + 6)) (sT (dd := dd + 4))
    exact ⟨hS (d + 3), hF (d + 2), P_test (d := d + 7) h9 (P_both (d := d + 7) h9 (hF d))⟩
  | m + 1, hm, d, hd => by
    obtain ⟨d, rfl⟩ : ∃ e, d = e + 7 := ⟨d - 7, by omega⟩
    have ih := P_lvl h9 hw m (by omega)
    have eo : 7 - (m + 1) + 1 = 7 - m := by omega
    have sS : ∀ dd, 7 * m + 7 ≤ dd → SB l G sh fR A q tp w (dd + 10) mX9_readSum (7 - (m + 1)) (lvF tp w m).1 := fun dd hdd => SB.of (X_sum (d := dd + 3) h9) (fun z => by rw [eo]; exact (ih dd hdd).1) (by omega)
    have sF : ∀ dd, 7 * m + 7 ≤ dd → SB l G sh fR A q tp w (dd + 10) mX9_readFact (7 - (m + 1)) (lvF tp w m).2.1 := fun dd hdd => SB.of (X_fact (d := dd + 2) h9) (fun z => by rw [eo]; exact (ih dd hdd).2.1) (by omega)
    have sT : ∀ dd, 7 * m + 7 ≤ dd → SB l G sh fR A q tp w (dd + 10) mX9_readTest (7 - (m + 1)) (lvF tp w m).2.2 := fun dd hdd => SB.of (X_test (d := dd) h9) (fun z => by rw [eo]; exact (ih dd hdd).2.2) (by omega)
    have em : 7 - (7 - (m + 1)) = m + 1 := by omega
    have hS : ∀ dd, 7 * m + 7 ≤ dd → CN l G sh fR A q tp w (dd + 14) mX9_readSum (7 - (m + 1)) (lvF tp w (m + 1)).1 := fun dd hdd => P_sum (d := dd + 7) h9 (P_prod (d := dd + 7) h9 (by
      have := P_part (d := dd) h9 hw (by omega) (sS dd hdd) (sS (dd + 1) (by omega)) (sT dd hdd)
      rw [em] at this
      exact this))
    have hF : ∀ dd, 7 * m + 7 ≤ dd → CN l G sh fR A q tp w (dd + 15) mX9_readFact (7 - (m + 1)) (lvF tp w (m + 1)).2.1 := fun dd hdd => by
      have := P_fact (d := dd + 7) h9 (by omega) (hS dd hdd) (sF (dd + 4) (by omega)) (sT (dd + 4) (by omega))
      rw [em] at this
      exact this
    exact ⟨hS (d + 3) (by omega), hF (d + 2) (by omega), P_test (d := d + 7) h9 (P_both (d := d + 7) h9 (hF d (by omega)))⟩
end CHS
