/-! the class' reader: parts of a formula -/
def CN (l : Launch) (G : Gx) (sh : Sh) (fR : FRt) (A q : Nat) (tp : List Nat) (w dep : Nat) (md : Md) (o : Nat) (D : Nat → Rf) : Prop := ∀ (j : Nat) (r : Rf) (f : FI) (g : FL) (K : FI → FL → Prop), RS f A q tp w o j r → (∀ f', RS f' A q tp w o j (ap r D) → Fx A q f f' → K f' g) → Cl l G dep 0 0 md [.ref (A + 38)] (sh, f, g, (up2 fR (A + 38) 7 (some q))) (qv sh (up2 fR (A + 38) 7 (some q)) K)
def CX (l : Launch) (G : Gx) (sh : Sh) (fR : FRt) (A q : Nat) (tp : List Nat) (w dep : Nat) (md : Md) : Prop := ∀ (x : Nat × Nat) (f : FI) (g : FL) (K : FI → FL → Prop), RS f A q tp w 0 0 (.error x) → (∀ f', RS f' A q tp w 0 0 (.error x) → Fx A q f f' → K f' g) → Cl l G dep 0 0 md [.ref (A + 38)] (sh, f, g, (up2 fR (A + 38) 7 (some q))) (qv sh (up2 fR (A + 38) 7 (some q)) K)
/-- one level deeper; where none is left, a fault stands already -/
def SB (l : Launch) (G : Gx) (sh : Sh) (fR : FRt) (A q : Nat) (tp : List Nat) (w dep : Nat) (md : Md) (o : Nat) (D : Nat → Rf) : Prop := ∀ (j : Nat) (r : Rf) (f : FI) (g : FL) (K : FI → FL → Prop), (o = 7 → ∃ x, r = .error x) → RS f A q tp w (o + 1) j r → (∀ f', RS f' A q tp w (o + 1) j (ap r D) → Fx A q f f' → K f' g) → Cl l G dep 0 0 md [.ref (A + 38)] (sh, f, g, (up2 fR (A + 38) 7 (some q))) (qv sh (up2 fR (A + 38) 7 (some q)) K)
def fcT (w k : Nat) : Option Nat := (fcL.find? (fun q => decide (q.2 = k) && al w q.1)).map (fun q => q.1)
theorem ie_bd {α β : Type} {r : Rr α} {k : α → Rr β} (h : ∃ x, r = .error x) : ∃ x, bd r k = .error x := by
  obtain ⟨x, rfl⟩ := h
  exact ⟨x, rfl⟩
theorem factS_own {tp : List Nat} {w e k : Nat} (h1 : tkK tp e = 1) (h : ownI (tkW tp e) = some k) : factS tp w e = fcT w k := by
  unfold factS fcT
  congr 1
  apply congrArg (fun P => List.find? P fcL) ; funext a
  congr 1
  have hk := (ownF_in h).1
  have hk2 := (ownF_in h).2
  unfold isW
  rw [h1, ← hk]
  by_cases c : a.2 < 29
  · have : (ow k = ow a.2) ↔ a.2 = k := ⟨fun z => by have h2 := (ownI_i (w := ow k) c).mpr z; have h3 := (ownI_i (w := ow k) hk2).mpr rfl; rw [h3] at h2; cases h2; rfl, fun z => by rw [z]⟩
    by_cases c2 : a.2 = k
    · simp [c2]
    · simp [c2, this]
  · have e1 : ow a.2 = [] := by
      unfold ow
      rw [List.getD_eq_getElem?_getD, List.getElem?_eq_none (by show 29 ≤ a.2; omega)]; rfl
    have e2 : ow k ≠ [] := by
      have : ∀ k, k < 29 → ow k ≠ [] := by decide +kernel
      exact this k hk2
    rw [e1]
    have : ¬ a.2 = k := by omega
    simp [this, e2]
theorem factS_non {tp : List Nat} {w e : Nat} (h : ownI (tkW tp e) = none ∨ tkK tp e ≠ 1) : factS tp w e = none := by
  unfold factS
  rw [Option.map_eq_none_iff, List.find?_eq_none]
  intro a ha
  have : isW tp e a.2 = false := by
    rcases h with h | h
    · cases q : isW tp e a.2 with
      | false => rfl
      | true =>
        have h2 := (isW_K q).2
        have h3 : a.2 < 29 := by
          revert ha; unfold fcL; intro h2; simp at h2; rcases h2 with rfl | rfl | rfl | rfl | rfl | rfl | rfl | rfl | rfl | rfl <;> decide
        rw [(ownI_i h3).mpr h2] at h
        cases h
    · exact isW_of h
  rw [this]; simp
section PT
variable {l : Launch} {G : Gx} {d : Nat} {sh : Sh} {fR : FRt} {A p q : Nat} {f : FI} {g : FL} {tp : List Nat} {w o : Nat}
theorem K_factA {K : Int32 → FI → FL → Prop} {a1 : Int32} (h9 : R9 sh fR A p q) (H : ∀ y, (y = -1 ∨ ∃ n, n < 10 ∧ y = nI n) → K y f g) : Cl l G d 0 0 mX9_factOf [.ref (A + 38), .int a1] (sh, f, g, (up2 fR (A + 38) 7 (some q))) (qi sh (up2 fR (A + 38) 7 (some q)) K) := by
  refine VX9_factOf h9.1 h9.2.1 h9.2.2.1 h9.2.2.2 ?_
  have H1 := H _ (Or.inl rfl)
  have H2 : ∀ n, n < 10 → K (nI n) f g := fun n hn => H _ (Or.inr ⟨n, hn, rfl⟩)
  repeat' first | exact ⟨_, _, _, rfl, rfl, H1⟩ | exact ⟨_, _, _, rfl, rfl, H2 _ (by decide)⟩ | refine ⟨?_, ?_⟩ | intro _
theorem K_fact {K : Int32 → FI → FL → Prop} {k : Option Nat} (h9 : R9 sh fR A p q) (h8 : f (A + 38) 8 = nI (10 + w)) (hw : w < 4) (hk : ∀ i, k = some i → i < 29) (H : K (oI ((k.bind (fcT w)).map (fun s => s - 1))) f g) : Cl l G d 0 0 mX9_factOf [.ref (A + 38), .int (oI k)] (sh, f, g, (up2 fR (A + 38) 7 (some q))) (qi sh (up2 fR (A + 38) 7 (some q)) K) := by
  refine VX9_factOf h9.1 h9.2.1 h9.2.2.1 h9.2.2.2 ?_
  rw [h8]
  have hi : ∀ n, n < 2 ^ 31 → oI k = nI n → k = some n := fun n hn h => (oI_some (fun i hi => by have := hk i hi; omega) hn).mp h
  refine ⟨fun c => ?_, fun c => ?_, fun c => ?_, fun c => ?_, fun c => ?_, fun c => ?_, fun c => ?_, fun c => ?_, fun c => ?_, fun c => ?_, fun c => ?_⟩
  all_goals first
    | (rw [hi _ (by decide) c] at H
       clear c hk hi h8
       rcases (show w = 0 ∨ w = 1 ∨ w = 2 ∨ w = 3 by omega) with rfl | rfl | rfl | rfl
       all_goals repeat' first | exact ⟨_, _, _, rfl, rfl, H⟩ | refine ⟨?_, ?_⟩ | (intro c; first | exact absurd c (by decide) | exact absurd rfl c | skip))
    | (refine ⟨_, _, _, rfl, rfl, ?_⟩
       cases k with
       | none => exact H
       | some i =>
         have hi29 := hk i rfl
         have hn : ∀ n, ¬ oI (some i) = nI n → i ≠ n := fun n z z2 => z (by rw [z2]; rfl)
         obtain ⟨c1, c2, c3, c4, c5, c6, c7, c8, c9, c10⟩ := c
         have d1 := hn _ c1
         have d2 := hn _ c2
         have d3 := hn _ c3
         have d4 := hn _ c4
         have d5 := hn _ c5
         have d6 := hn _ c6
         have d7 := hn _ c7
         have d8 := hn _ c8
         have d9 := hn _ c9
         have d10 := hn _ c10
         have e : fcT w i = none := by
           unfold fcT fcL
           rw [Option.map_eq_none_iff, List.find?_eq_none]
           intro a ha
           simp at ha
           rcases ha with rfl | rfl | rfl | rfl | rfl | rfl | rfl | rfl | rfl | rfl <;> simp <;> intro z <;> omega
         rw [Option.bind_some, e] at H
         exact H)
theorem RS_num {K : Int32 → FI → FL → Prop} {j : Nat} {r : Rf} {lo hi : Nat} (h9 : RQ9 sh fR A p q) (hR : RS f A q tp w o j r) (hlo : lo < 2 ^ 31) (hhi : hi < 2 ^ 31) (H : ∀ f', RS f' A q tp w o (j + 1) (bd r (fun x => bd (rF (numD tp lo hi x.1)) (fun e => .ok (e, x.2)))) → Fx A q f f' → K (nI (vOf (bd (rF r) (numD tp lo hi)))) f' g) : Cl l G (d + 3) 0 0 mX9_expectNumber [.ref (A + 38), .int (nI lo), .int (nI hi)] (sh, f, g, (up2 fR (A + 38) 7 (some q))) (qi sh (up2 fR (A + 38) 7 (some q)) K) :=
  K_exNum h9.1 hR.1 hlo hhi (fun f' a1 a2 => H f' (hR.tok (k := fun e => rF (numD tp lo hi e)) h9.2 a1 (by unfold rF at a2 ⊢; rw [bd_as] at a2; exact a2) (fun x e' hx hy hl => by
    unfold numD at hy
    split at hy
    · rename_i c0
      split at hy
      · cases hy
        have := tkE_gte (tp := tp) (e := x.1) (by rw [c0]; decide)
        omega
      · cases hy
    · cases hy)) a1.fx)
theorem vOf_num {tp : List Nat} {r : Rr Nat} {lo hi : Nat} : vOf (bd r (numD tp lo hi)) ≤ hi := by
  cases r with
  | error x => exact Nat.zero_le _
  | ok e =>
    rw [bd_ok]
    unfold numD
    split
    · split
      · rename_i h; exact h.2
      · exact Nat.zero_le _
    · exact Nat.zero_le _
/-- a number in a formula -/
theorem RS_numP {K : FI → FL → Prop} {j : Nat} {r : Rf} (h9 : RQ9 sh fR A p q) (hR : RS f A q tp w o j r) (H : ∀ f', RS f' A q tp w o j (ap r (fun e => if tkK tp e = 2 then .ok (tkE tp e, [(0, tkV tp e)]) else .error (bad tp e))) → Fx A q f f' → K f' g) : Cl l G (d + 3) 0 0 mX9_expectNumber [.ref (A + 38), .int (nI 0), .int (nI 9999)] (sh, f, g, (up2 fR (A + 38) 7 (some q))) (qi sh (up2 fR (A + 38) 7 (some q)) fun x f g => Cl l G (d + 3) 0 0 mX3_put [.ref q, .int (nI 0), .int x] (sh, f, g, (up2 fR (A + 38) 7 (some q))) (qv sh (up2 fR (A + 38) 7 (some q)) K)) := by
  refine RS_num h9 hR (by decide) (by decide) (fun f1 a1 a2 => ?_)
  have hv := @vOf_num tp (rF r) 0 9999
  refine RS_put (op := (0, vOf (bd (rF r) (numD tp 0 9999)))) h9 a1 ⟨by show 0 < 64; decide, by show vOf _ < 65536; omega⟩ (fun x hx => ⟨rfl, rfl⟩) (fun f2 b1 b2 => H f2 ?_ (a2.tr b2))
  cases r with
  | error x => exact b1
  | ok x =>
    have e : (bd (bd (.ok x : Rf) (fun x => bd (rF (numD tp 0 9999 x.1)) (fun e => .ok (e, x.2)))) (fun y => .ok (y.1, y.2 ++ [((0, vOf (bd (rF (.ok x : Rf)) (numD tp 0 9999))) : Op)])) : Rf) = ap (.ok x) (fun e => if tkK tp e = 2 then .ok (tkE tp e, [(0, tkV tp e)]) else .error (bad tp e)) := by
      show bd (bd (rF (numD tp 0 9999 x.1)) (fun e => .ok (e, x.2))) (fun y => .ok (y.1, y.2 ++ [((0, vOf (numD tp 0 9999 x.1)) : Op)])) = bd (if tkK tp x.1 = 2 then (.ok (tkE tp x.1, [(0, tkV tp x.1)]) : Rf) else .error (bad tp x.1)) (fun y => .ok (y.1, x.2 ++ y.2))
      unfold numD
      by_cases c : tkK tp x.1 = 2
      · rw [if_pos c, if_pos c, if_pos ⟨Nat.zero_le _, tkV_num c⟩]; rfl
      · rw [if_neg c, if_neg c]; rfl
    rw [e] at b1
    exact b1
theorem X_part (h9 : RQ9 sh fR A p q) : CX l G sh fR A q tp w (d + 5) mX9_readPart := by
  intro x f g K hR H
  refine VX9_readPart h9.1.1 h9.1.2.1 h9.1.2.2.1 h9.1.2.2.2 ?_
  have num : ∀ f1, RS f1 A q tp w 0 0 (.error x) → Fx A q f f1 → Cl l G (d + 4) 0 0 mX9_expectNumber [.ref (A + 38), .int (nI 0), .int (nI 9999)] (sh, f1, g, (up2 fR (A + 38) 7 (some q))) (qi sh (up2 fR (A + 38) 7 (some q)) fun x f g => Cl l G (d + 4) 0 0 mX3_put [.ref q, .int (nI 0), .int x] (sh, f, g, (up2 fR (A + 38) 7 (some q))) (qv sh (up2 fR (A + 38) 7 (some q)) fun f g => (qv sh (up2 fR (A + 38) 7 (some q)) K) none (sh, f, g, (up2 fR (A + 38) 7 (some q))))) := fun f1 a1 a2 => RS_numP (d := d + 1) h9 a1 (fun f2 b1 b2 => ⟨_, _, rfl, rfl, H f2 b1 (a2.tr b2)⟩)
  refine K_isSign h9.1 hR.1 (by decide) (bI_cs (fun _ => ?_) (fun z => by cases z))
  refine K_isWord h9.1 hR.1 (by decide) (bI_cs (fun _ => ?_) (fun z => by cases z))
  refine K_isWord h9.1 hR.1 (by decide) (bI_cs' (fun _ => ?_) (fun z => by cases z))
  refine K_isWord h9.1 hR.1 (by decide) (bI_cs (fun _ => ?_) (fun z => by cases z))
  refine ⟨fun _ => num f hR Fx.rf, fun _ => K_factA h9.1 (fun y hy => ⟨fun _ => num f hR Fx.rf, fun hy2 => K_factA h9.1 (fun y2 hy3 => ?_)⟩)⟩
  refine RS_put0 (op := (1, 0)) h9 hR (fun x hx => by cases hx) (by decide) (fun x hx => by cases hx) (fun f1 a1 a2 a3 a4 _ => ?_)
  exact RS_adv (d := d + 2) (o := 0) (j := 0) h9 ⟨a1, a2, a3⟩ (fun x hx => by cases hx) (fun f2 b1 b2 => ⟨_, _, rfl, rfl, H f2 b1 (a4.tr b2)⟩)
theorem P_pair {sS : Nat → Rf} {op j : Nat} {r : Rf} {K : FI → FL → Prop} (h9 : RQ9 sh fR A p q) (ho : o ≤ 7) (hS : SB l G sh fR A q tp w (d + 3) mX9_readSum o sS) (hop : op = 36 ∨ op = 37) (hR : RS f A q tp w o j r) (H : ∀ f', RS f' A q tp w o j (ap r (paiD tp (7 - o) sS op)) → Fx A q f f' → K f' g) : Cl l G (d + 4) 0 0 mX9_readPair [.ref (A + 38), .int (nI (op - 27))] (sh, f, g, (up2 fR (A + 38) 7 (some q))) (qv sh (up2 fR (A + 38) 7 (some q)) K) := by
  refine VX9_readPair h9.1.1 h9.1.2.1 h9.1.2.2.1 h9.1.2.2.2 ?_
  refine K_isSign h9.1 hR.1 (by decide) (bI_cs' (fun z => ?_) (fun z => ?_))
  · refine RS_bad h9 hR (j' := j) (fun f1 a1 a2 => ⟨_, _, rfl, rfl, H f1 ?_ a2⟩)
    cases r with
    | error x => exact a1
    | ok x =>
      have e : ap (.ok x) (paiD tp (7 - o) sS op) = .error (bad tp x.1) := by
        show bd (paiD tp (7 - o) sS op x.1) _ = _
        unfold paiD
        rw [show isSg tp x.1 40 = false from z]; rfl
      rw [e]; exact a1
  · cases r with
    | error x => cases z
    | ok x =>
      have z' : isSg tp x.1 40 = true := z
      have hop2 : cS (op, 0) = op - 27 ∧ cV (op, 0) = 0 := by rcases hop with rfl | rfl <;> decide
      have e7 : o = 7 → ∃ y, (bd (.ok x : Rf) (fun x => bd (opn tp (7 - o) x.1) (fun e => .ok (e, x.2))) : Rf) = .error y := fun z => by subst z; exact ⟨_, rfl⟩
      refine RS_opn (d := d) h9 hR ho (fun y hy => by cases hy; have := (isSg_K z').1; omega) (fun f1 a1 a2 => ?_)
      refine hS _ _ f1 g _ e7 a1 (fun f2 b1 b2 => ?_)
      refine RS_exS (d := d) h9 b1 (by decide) (fun f3 c1 c2 => ?_)
      refine hS _ _ f3 g _ (fun z => ie_bd (ie_bd (e7 z))) c1 (fun f4 b3 b4 => ?_)
      refine RS_exS (d := d) h9 b3 (by decide) (fun f5 c3 c4 => ?_)
      refine RS_put (op := (op, 0)) h9 (c3.cls h9.2) ⟨by rw [hop2.1]; omega, by rw [hop2.2]; decide⟩ (fun y hy => by rw [hop2.1, hop2.2]; exact ⟨rfl, rfl⟩) (fun f6 d1 d2 => ⟨_, _, rfl, rfl, H f6 ?_ ((((((a2.tr b2).tr c2).tr b4).tr c4).tr Fx.o9).tr d2)⟩)
      refine RS.wk (j := j + 1 + 1) ?_ (by omega)
      have e : ap (.ok x) (paiD tp (7 - o) sS op) = bd (bd (ap (bd (ap (bd (.ok x : Rf) (fun x => bd (opn tp (7 - o) x.1) (fun e => .ok (e, x.2)))) sS) (fun x => bd (exS tp 44 x.1) (fun e => .ok (e, x.2)))) sS) (fun x => bd (exS tp 41 x.1) (fun e => .ok (e, x.2)))) (fun x => .ok (x.1, x.2 ++ [((op, 0) : Op)])) := by
        unfold ap paiD
        simp only [bd_ok, z', if_true, bd_as, List.append_assoc]
      rw [e]; exact d1
theorem P_choice {sS sT : Nat → Rf} {j : Nat} {r : Rf} {K : FI → FL → Prop} (h9 : RQ9 sh fR A p q) (ho : o ≤ 7) (hS : SB l G sh fR A q tp w (d + 3) mX9_readSum o sS) (hT : SB l G sh fR A q tp w (d + 3) mX9_readTest o sT) (hR : RS f A q tp w o j r) (H : ∀ f', RS f' A q tp w o j (ap r (choD tp (7 - o) sS sT)) → Fx A q f f' → K f' g) : Cl l G (d + 4) 0 0 mX9_readChoice [.ref (A + 38)] (sh, f, g, (up2 fR (A + 38) 7 (some q))) (qv sh (up2 fR (A + 38) 7 (some q)) K) := by
  refine VX9_readChoice h9.1.1 h9.1.2.1 h9.1.2.2.1 h9.1.2.2.2 ?_
  refine K_isSign h9.1 hR.1 (by decide) (bI_cs' (fun z => ?_) (fun z => ?_))
  · refine RS_bad h9 hR (j' := j) (fun f1 a1 a2 => ⟨_, _, rfl, rfl, H f1 ?_ a2⟩)
    cases r with
    | error x => exact a1
    | ok x =>
      have e : ap (.ok x) (choD tp (7 - o) sS sT) = .error (bad tp x.1) := by
        show bd (choD tp (7 - o) sS sT x.1) _ = _
        unfold choD
        rw [show isSg tp x.1 40 = false from z]; rfl
      rw [e]; exact a1
  · cases r with
    | error x => cases z
    | ok x =>
      have z' : isSg tp x.1 40 = true := z
      have e7 : o = 7 → ∃ y, (bd (.ok x : Rf) (fun x => bd (opn tp (7 - o) x.1) (fun e => .ok (e, x.2))) : Rf) = .error y := fun z => by subst z; exact ⟨_, rfl⟩
      refine RS_opn (d := d) h9 hR ho (fun y hy => by cases hy; have := (isSg_K z').1; omega) (fun f1 a1 a2 => ?_)
      refine hT _ _ f1 g _ e7 a1 (fun f2 b1 b2 => ?_)
      refine RS_exS (d := d) h9 b1 (by decide) (fun f3 c1 c2 => ?_)
      refine hS _ _ f3 g _ (fun z => ie_bd (ie_bd (e7 z))) c1 (fun f4 b3 b4 => ?_)
      refine RS_exS (d := d) h9 b3 (by decide) (fun f5 c3 c4 => ?_)
      refine hS _ _ f5 g _ (fun z => ie_bd (ie_bd (ie_bd (ie_bd (e7 z))))) c3 (fun f6 b5 b6 => ?_)
      refine RS_exS (d := d) h9 b5 (by decide) (fun f7 c5 c6 => ?_)
      refine RS_put (op := (44, 0)) h9 (c5.cls h9.2) (by decide) (fun y hy => ⟨rfl, rfl⟩) (fun f8 d1 d2 => ⟨_, _, rfl, rfl, H f8 ?_ ((((((((a2.tr b2).tr c2).tr b4).tr c4).tr b6).tr c6).tr Fx.o9).tr d2)⟩)
      refine RS.wk (j := j + 1 + 1 + 1) ?_ (by omega)
      have e : ap (.ok x) (choD tp (7 - o) sS sT) = bd (bd (ap (bd (ap (bd (ap (bd (.ok x : Rf) (fun x => bd (opn tp (7 - o) x.1) (fun e => .ok (e, x.2)))) sT) (fun x => bd (exS tp 44 x.1) (fun e => .ok (e, x.2)))) sS) (fun x => bd (exS tp 44 x.1) (fun e => .ok (e, x.2)))) sS) (fun x => bd (exS tp 41 x.1) (fun e => .ok (e, x.2)))) (fun x => .ok (x.1, x.2 ++ [((44, 0) : Op)])) := by
        unfold ap choD
        simp only [bd_ok, z', if_true, bd_as, List.append_assoc]
      rw [e]; exact d1
theorem P_part {sS sT : Nat → Rf} (h9 : RQ9 sh fR A p q) (hw : w < 4) (ho : o ≤ 7) (hS : SB l G sh fR A q tp w (d + 10) mX9_readSum o sS) (hS' : SB l G sh fR A q tp w (d + 11) mX9_readSum o sS) (hT : SB l G sh fR A q tp w (d + 10) mX9_readTest o sT) : CN l G sh fR A q tp w (d + 12) mX9_readPart o (parD tp w (7 - o) sS sT) := by
  intro j r f g K hR H
  cases r with
  | error x => exact X_part (d := d + 7) h9 x f g K hR H
  | ok x =>
    refine VX9_readPart (d := d + 7) h9.1.1 h9.1.2.1 h9.1.2.2.1 h9.1.2.2.2 ?_
    have hD : ap (.ok x) (parD tp w (7 - o) sS sT) = bd (parD tp w (7 - o) sS sT x.1) (fun y => .ok (y.1, x.2 ++ y.2)) := rfl
    rw [hD] at H
    unfold parD at H
    refine K_isSign h9.1 hR.1 (by decide) (bI_cs (fun z40 => ?_) (fun z => ?_))
    · have z40' : isSg tp x.1 40 = false := z40
      rw [z40', if_neg Bool.false_ne_true] at H
      refine K_isWord h9.1 hR.1 (by decide) (bI_cs (fun z22 => ?_) (fun z => ?_))
      · have z22' : isW tp x.1 22 = false := z22
        rw [z22', if_neg Bool.false_ne_true] at H
        have pr : ∀ op k : Nat, (op = 36 ∨ op = 37) → isW tp x.1 k = true → (∀ f', RS f' A q tp w o j (bd (paiD tp (7 - o) sS op (tkE tp x.1)) (fun y => .ok (y.1, x.2 ++ y.2))) → Fx A q f f' → K f' g) → Cl l G (d + 11) 0 0 mX9_advance [.ref (A + 38)] (sh, f, g, (up2 fR (A + 38) 7 (some q))) (qv sh (up2 fR (A + 38) 7 (some q)) fun f g => Cl l G (d + 11) 0 0 mX9_readPair [.ref (A + 38), .int (nI (op - 27))] (sh, f, g, (up2 fR (A + 38) 7 (some q))) (qv sh (up2 fR (A + 38) 7 (some q)) fun f g => (qv sh (up2 fR (A + 38) 7 (some q)) K) none (sh, f, g, (up2 fR (A + 38) 7 (some q))))) := by
          intro op k hop hz H
          refine RS_adv (d := d + 9) h9 hR (fun y hy => by cases hy; have := (isW_K hz).1; omega) (fun f1 a1 a2 => ?_)
          exact P_pair (d := d + 7) h9 ho hS hop a1 (fun f2 b1 b2 => ⟨_, _, rfl, rfl, H f2 (b1.wk (by omega)) (a2.tr b2)⟩)
        refine K_isWord h9.1 hR.1 (by decide) (bI_cs' (fun z27 => ?_) (fun z => ?_))
        · have z27' : isW tp x.1 27 = false := z27
          rw [z27', if_neg Bool.false_ne_true] at H
          refine K_isWord h9.1 hR.1 (by decide) (bI_cs (fun z28 => ?_) (fun z => ?_))
          · have z28' : isW tp x.1 28 = false := z28
            rw [z28', if_neg Bool.false_ne_true] at H
            have hRR := hR
            obtain ⟨⟨hC, e1, e2, t1, t2, t3, t4, t5, t6⟩, h8, a1, a2, a3, a4⟩ := hRR
            have hk := @tkK_le tp x.1
            have num : factS tp w x.1 = none → Cl l G (d + 11) 0 0 mX9_expectNumber [.ref (A + 38), .int (nI 0), .int (nI 9999)] (sh, f, g, (up2 fR (A + 38) 7 (some q))) (qi sh (up2 fR (A + 38) 7 (some q)) fun x f g => Cl l G (d + 11) 0 0 mX3_put [.ref q, .int (nI 0), .int x] (sh, f, g, (up2 fR (A + 38) 7 (some q))) (qv sh (up2 fR (A + 38) 7 (some q)) fun f g => (qv sh (up2 fR (A + 38) 7 (some q)) K) none (sh, f, g, (up2 fR (A + 38) 7 (some q))))) := fun hn => by
              rw [hn] at H
              exact RS_numP (d := d + 8) h9 hR (fun f2 b1 b2 => ⟨_, _, rfl, rfl, H f2 b1 b2⟩)
            rw [t2, nI_eq (by omega) (by decide)]
            refine ⟨fun c => num (factS_non (Or.inr c)), fun c => ?_⟩
            have h14 := (t5 c).2
            rw [h14]
            have ho29 : ∀ i, ownI (tkW tp x.1) = some i → i < 29 := fun i hi => (ownF_in hi).2
            have hfs : (ownI (tkW tp x.1)).bind (fcT w) = factS tp w x.1 := by
              cases hq : ownI (tkW tp x.1) with
              | none => rw [factS_non (Or.inl hq)]; rfl
              | some k => rw [factS_own c hq]; rfl
            refine K_fact h9.1 h8 hw ho29 ?_
            rw [hfs]
            cases hf : factS tp w x.1 with
            | none => exact ⟨fun _ => num hf, fun z => absurd rfl z⟩
            | some s =>
              obtain ⟨k1, k2, k3, k4⟩ := factS_K hf
              refine ⟨fun z => absurd z (nI_m1 (n := s - 1) (by omega)), fun _ => ?_⟩
              rw [h14]
              refine K_fact h9.1 h8 hw ho29 ?_
              rw [hfs, hf]
              rw [hf] at H
              have hE := tkE_gte (tp := tp) (e := x.1) (by omega)
              have hEl := tkE_le e2
              have h16 := hC.2.1
              have hcS : cS (s, 0) = 1 ∧ cV (s, 0) = s - 1 := by unfold cS cV; dsimp only; rw [if_neg (by omega), if_neg (by omega), if_pos (by omega), if_neg (by omega), if_neg (by omega), if_pos (by omega)]; exact ⟨rfl, rfl⟩
              refine RS_put0 (op := (s, 0)) h9 hR (fun y hy => by cases hy; omega) ⟨by rw [hcS.1]; decide, by rw [hcS.2]; omega⟩ (fun y hy => by rw [hcS.1, hcS.2]; exact ⟨rfl, rfl⟩) (fun f1 c1 c2 c3 c4 c5 => ?_)
              refine K_advR (d := d + 9) h9.1 c1 (fun e he => by cases he; omega) (fun f2 d1 d2 => ⟨_, _, rfl, rfl, H f2 ⟨d2, by rw [d1 _ _ (by omega)]; exact c2, ?_⟩ (c4.tr d1.ft.fx)⟩)
              obtain ⟨m1, m2, m3⟩ := c3
              have hq := h9.2
              exact ⟨by rw [d1 _ _ (by omega)]; exact m1, m2, m3.ft d1.ft (by omega) (by omega), by show (x.2 ++ [(s, 0)]).length + j ≤ tkE tp x.1; rw [List.length_append, List.length_singleton]; omega⟩
          · have z' : isW tp x.1 28 = true := z
            rw [if_pos z'] at H
            refine VX9_readPart_74 (d := d + 7) h9.1.1 h9.1.2.1 h9.1.2.2.1 h9.1.2.2.2 ?_
            exact K_isWord h9.1 hR.1 (by decide) (bI_cs (fun _ => pr 37 28 (Or.inr rfl) z' H) (fun z0 => by rw [show isWR tp (rF (.ok x : Rf)) 27 = false from z27'] at z0; cases z0))
        · have z' : isW tp x.1 27 = true := z
          rw [if_pos z'] at H
          refine VX9_readPart_74 (d := d + 7) h9.1.1 h9.1.2.1 h9.1.2.2.1 h9.1.2.2.2 ?_
          exact K_isWord h9.1 hR.1 (by decide) (bI_cs (fun z0 => by rw [show isWR tp (rF (.ok x : Rf)) 27 = true from z'] at z0; cases z0) (fun _ => pr 36 27 (Or.inl rfl) z' H))
      · have z' : isW tp x.1 22 = true := z
        rw [if_pos z'] at H
        refine RS_adv (d := d + 9) h9 hR (fun y hy => by cases hy; have := (isW_K z').1; omega) (fun f1 a1 a2 => ?_)
        exact P_choice (d := d + 7) h9 ho hS hT a1 (fun f2 b1 b2 => ⟨_, _, rfl, rfl, H f2 (b1.wk (by omega)) (a2.tr b2)⟩)
    · have z' : isSg tp x.1 40 = true := z
      rw [if_pos z'] at H
      have e7 : o = 7 → ∃ y, (bd (.ok x : Rf) (fun x => bd (opn tp (7 - o) x.1) (fun e => .ok (e, x.2))) : Rf) = .error y := fun z => by subst z; exact ⟨_, rfl⟩
      refine RS_opn (d := d + 8) h9 hR ho (fun y hy => by cases hy; have := (isSg_K z').1; omega) (fun f1 a1 a2 => ?_)
      refine hS' _ _ f1 g _ e7 a1 (fun f2 b1 b2 => ?_)
      refine RS_exS (d := d + 8) h9 b1 (by decide) (fun f3 c1 c2 => ⟨_, _, rfl, rfl, H _ ?_ (((a2.tr b2).tr c2).tr Fx.o9)⟩)
      refine RS.wk (j := j + 1 + 1) ?_ (by omega)
      have e : (bd (bd (opn tp (7 - o) x.1) (fun e1 => bd (sS e1) (fun q => bd (exS tp 41 q.1) (fun e3 => .ok (e3, q.2))))) (fun y => .ok (y.1, x.2 ++ y.2)) : Rf) = bd (ap (bd (.ok x : Rf) (fun x => bd (opn tp (7 - o) x.1) (fun e => .ok (e, x.2)))) sS) (fun x => bd (exS tp 41 x.1) (fun e => .ok (e, x.2))) := by
        unfold ap
        simp only [bd_ok, bd_as]
      rw [e]; exact c1.cls h9.2
end PT
