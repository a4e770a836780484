/-! the class' reader: what is asked of a token, faults -/
def TS (f : FI) (A : Nat) (tp : List Nat) (r : Rr Nat) : Prop := CK f A tp ∧ match r with
  | .ok e => f (A + 38) 1 = 0 ∧ e ≤ tp.length ∧ CTk f A tp e
  | .error x => f (A + 38) 1 = nI x.1 ∧ 0 < x.1 ∧ x.1 ≤ 6 ∧ f (A + 38) 2 = nI x.2 ∧ x.2 ≤ 1600 ∧ ∃ n, n ≤ tp.length ∧ f (A + 38) 5 = nI n
def isSgR (tp : List Nat) (r : Rr Nat) (c : Nat) : Bool := match r with
  | .ok e => isSg tp e c
  | .error _ => false
def isWR (tp : List Nat) (r : Rr Nat) (k : Nat) : Bool := match r with
  | .ok e => isW tp e k
  | .error _ => false
def isNR (tp : List Nat) (r : Rr Nat) : Bool := match r with
  | .ok e => isNm tp e
  | .error _ => false
def exW (tp : List Nat) (k e : Nat) : Rr Nat := if isW tp e k then .ok (tkE tp e) else .error (bad tp e)
def exN (tp : List Nat) (e : Nat) : Rr Nat := if isNm tp e then .ok (tkE tp e) else .error (bad tp e)
def numD (tp : List Nat) (lo hi e : Nat) : Rr (Nat × Nat) := if tkK tp e = 2 then (if lo ≤ tkV tp e ∧ tkV tp e ≤ hi then .ok (tkE tp e, tkV tp e) else .error (4, tkS tp e)) else .error (bad tp e)
def vOf {α : Type} (r : Rr (α × Nat)) : Nat := match r with
  | .ok x => x.2
  | .error _ => 0
def rF {α β : Type} (r : Rr (α × β)) : Rr α := bd r (fun x => .ok x.1)
theorem bad_le {tp : List Nat} {e : Nat} (h : e ≤ tp.length) : (bad tp e).2 ≤ tp.length := by
  unfold bad
  dsimp only
  have h1 := tkS_le h
  have h2 := tkE_le h
  unfold tkB
  split
  · split <;> omega
  · omega
section LF
variable {l : Launch} {G : Gx} {d : Nat} {sh : Sh} {fR : FRt} {A p q : Nat} {f : FI} {g : FL} {tp : List Nat} {r : Rr Nat}
theorem TS.len (h : TS f A tp r) : tp.length ≤ 1600 := h.1.2.1
theorem K_isSign {K : Int32 → FI → FL → Prop} {c : Nat} (h9 : R9 sh fR A p q) (hT : TS f A tp r) (hc : c < 256) (H : K (bI (isSgR tp r c)) f g) : Cl l G d 0 0 mX9_isSign [.ref (A + 38), .int (nI c)] (sh, f, g, (up2 fR (A + 38) 7 (some q))) (qi sh (up2 fR (A + 38) 7 (some q)) K) := by
  refine VX9_isSign h9.1 h9.2.1 h9.2.2.1 h9.2.2.2 ?_
  cases r with
  | error x =>
    obtain ⟨hC, e1, e2, e3, -⟩ := hT
    exact ⟨fun _ => ⟨_, _, _, rfl, rfl, H⟩, fun z => absurd z (by rw [e1]; exact nI_ne0 e2 (by omega))⟩
  | ok e =>
    obtain ⟨hC, e1, e2, t1, t2, t3, t4, t5, t6⟩ := hT
    have hk := @tkK_le tp e
    have hv := tkV_lt (e := e) hC.2.2.2.1
    refine ⟨fun z => absurd e1 z, fun _ => ?_⟩
    rw [t2, nI_eq (by omega) (by decide)]
    refine ⟨fun z => ?_, fun z => ?_⟩
    · rw [show isSgR tp (.ok e) c = false from isSg_of z] at H
      exact ⟨_, _, _, rfl, rfl, H⟩
    · rw [t6 (Or.inr z), nI_eq (by omega) (by omega)]
      refine ⟨fun z2 => ?_, fun z2 => ?_⟩
      · rw [show isSgR tp (.ok e) c = false by show isSg tp e c = false; unfold isSg; simp [z2]] at H
        exact ⟨_, _, _, rfl, rfl, H⟩
      · rw [show isSgR tp (.ok e) c = true by show isSg tp e c = true; unfold isSg; simp [z, z2]] at H
        exact ⟨_, _, _, rfl, rfl, H⟩
theorem K_isWord {K : Int32 → FI → FL → Prop} {k : Nat} (h9 : R9 sh fR A p q) (hT : TS f A tp r) (hc : k < 29) (H : K (bI (isWR tp r k)) f g) : Cl l G d 0 0 mX9_isWord [.ref (A + 38), .int (nI k)] (sh, f, g, (up2 fR (A + 38) 7 (some q))) (qi sh (up2 fR (A + 38) 7 (some q)) K) := by
  refine VX9_isWord h9.1 h9.2.1 h9.2.2.1 h9.2.2.2 ?_
  cases r with
  | error x =>
    obtain ⟨hC, e1, e2, e3, -⟩ := hT
    exact ⟨fun _ => ⟨_, _, _, rfl, rfl, H⟩, fun z => absurd z (by rw [e1]; exact nI_ne0 e2 (by omega))⟩
  | ok e =>
    obtain ⟨hC, e1, e2, t1, t2, t3, t4, t5, t6⟩ := hT
    have hk := @tkK_le tp e
    refine ⟨fun z => absurd e1 z, fun _ => ?_⟩
    rw [t2, nI_eq (by omega) (by decide)]
    refine ⟨fun z => ?_, fun z => ?_⟩
    · rw [show isWR tp (.ok e) k = false from isW_of z] at H
      exact ⟨_, _, _, rfl, rfl, H⟩
    · rw [(t5 z).2, oI_some (fun j hj => by have := (ownF_in hj).2; omega) (by omega), ownI_i hc]
      refine ⟨fun z2 => ?_, fun z2 => ?_⟩
      · rw [show isWR tp (.ok e) k = false by show isW tp e k = false; unfold isW; simp [z2]] at H
        exact ⟨_, _, _, rfl, rfl, H⟩
      · rw [show isWR tp (.ok e) k = true by show isW tp e k = true; unfold isW; simp [z, z2]] at H
        exact ⟨_, _, _, rfl, rfl, H⟩
theorem K_isName {K : Int32 → FI → FL → Prop} (h9 : R9 sh fR A p q) (hT : TS f A tp r) (H : K (bI (isNR tp r)) f g) : Cl l G d 0 0 mX9_isWord [.ref (A + 38), .int (-1)] (sh, f, g, (up2 fR (A + 38) 7 (some q))) (qi sh (up2 fR (A + 38) 7 (some q)) K) := by
  refine VX9_isWord h9.1 h9.2.1 h9.2.2.1 h9.2.2.2 ?_
  cases r with
  | error x =>
    obtain ⟨hC, e1, e2, e3, -⟩ := hT
    exact ⟨fun _ => ⟨_, _, _, rfl, rfl, H⟩, fun z => absurd z (by rw [e1]; exact nI_ne0 e2 (by omega))⟩
  | ok e =>
    obtain ⟨hC, e1, e2, t1, t2, t3, t4, t5, t6⟩ := hT
    have hk := @tkK_le tp e
    refine ⟨fun z => absurd e1 z, fun _ => ?_⟩
    rw [t2, nI_eq (by omega) (by decide)]
    refine ⟨fun z => ?_, fun z => ?_⟩
    · rw [show isNR tp (.ok e) = false by show isNm tp e = false; unfold isNm; simp [z]] at H
      exact ⟨_, _, _, rfl, rfl, H⟩
    · rw [(t5 z).2, oI_none (fun j hj => by have := (ownF_in hj).2; omega)]
      refine ⟨fun z2 => ?_, fun z2 => ?_⟩
      · rw [show isNR tp (.ok e) = false by
          show isNm tp e = false
          unfold isNm
          cases hq : ownI (tkW tp e) with
          | none => exact absurd hq z2
          | some v => simp] at H
        exact ⟨_, _, _, rfl, rfl, H⟩
      · rw [show isNR tp (.ok e) = true by show isNm tp e = true; unfold isNm; simp [z, z2]] at H
        exact ⟨_, _, _, rfl, rfl, H⟩
theorem K_advR {K : FI → FL → Prop} (h9 : R9 sh fR A p q) (hT : TS f A tp r) (hk : ∀ e, r = .ok e → tkK tp e ≠ 0 ∧ tkK tp e ≠ 4) (H : ∀ f', Fa A f f' → TS f' A tp (bd r (fun e => .ok (tkE tp e))) → K f' g) : Cl l G (d + 2) 0 0 mX9_advance [.ref (A + 38)] (sh, f, g, (up2 fR (A + 38) 7 (some q))) (qv sh (up2 fR (A + 38) 7 (some q)) K) := by
  cases r with
  | error x =>
    obtain ⟨hC, e1, e2, e3, e4, e5, n, e6, e7⟩ := hT
    refine K_adv h9 hC e7 e6 (fun f' a1 a2 a3 => H f' a1 ⟨hC.ft a1.ft, by rw [a1 _ _ (by omega)]; exact e1, e2, e3, by rw [a1 _ _ (by omega)]; exact e4, e5, _, tkE_le e6, a2⟩)
  | ok e =>
    obtain ⟨hC, e1, e2, t1, t2, t3, t4, t5, t6⟩ := hT
    obtain ⟨k0, k4⟩ := hk e rfl
    have hk := @tkK_le tp e
    refine K_adv h9 hC t1 (tkE_le e2) (fun f' a1 a2 a3 => H f' a1 ⟨hC.ft a1.ft, by rw [a1 _ _ (by omega)]; exact e1, tkE_le e2, a3 ?_⟩)
    rw [t2, nI_eq (by omega) (by decide), nI_eq (by omega) (by decide)]
    exact (glu_E k4 k0).symm
theorem K_blame {K : FI → FL → Prop} {k pl : Nat} {a2 : Int32} (h9 : R9 sh fR A p q) (hT : TS f A tp r) (hk : 0 < k ∧ k ≤ 6) (ha : ∀ e, r = .ok e → a2 = nI pl ∧ pl ≤ 1600) (H : ∀ f', Ft A f f' → TS f' A tp (bd r (fun _ => .error (k, pl))) → K f' g) : Cl l G d 0 0 mX9_blame [.ref (A + 38), .int (nI k), .int a2] (sh, f, g, (up2 fR (A + 38) 7 (some q))) (qv sh (up2 fR (A + 38) 7 (some q)) K) := by
  refine VX9_blame h9.1 h9.2.1 h9.2.2.1 h9.2.2.2 ?_
  cases r with
  | error x =>
    have e1 := hT.2.1
    have e2 := hT.2.2.1
    have e3 := hT.2.2.2.1
    exact ⟨fun _ => ⟨_, _, rfl, rfl, H f Ft.rf hT⟩, fun z => absurd z (by rw [e1]; exact nI_ne0 e2 (by omega))⟩
  | ok e =>
    obtain ⟨hC, e1, e2, t1, t2, t3, t4, t5, t6⟩ := hT
    obtain ⟨rfl, hp⟩ := ha e rfl
    refine ⟨fun z => absurd e1 z, fun _ => ⟨_, _, rfl, rfl, ?_⟩⟩
    have hF : Ft A f (up2 (up2 f (A + 38) 1 (nI k)) (A + 38) 2 (nI pl)) := fun r i z => by
      rw [up2_ne (fun z2 => z ⟨z2.1, by omega⟩), up2_ne (fun z2 => z ⟨z2.1, by omega⟩)]
    exact H _ hF ⟨hC.ft hF, by rw [up2_k (by decide), up2_eq], hk.1, hk.2, up2_eq, hp, _, tkE_le e2, by rw [up2_k (by decide), up2_k (by decide)]; exact t1⟩
theorem K_blameHere {K : FI → FL → Prop} (h9 : R9 sh fR A p q) (hT : TS f A tp r) (H : ∀ f', Ft A f f' → TS f' A tp (bd r (fun e => .error (bad tp e))) → K f' g) : Cl l G (d + 1) 0 0 mX9_blameHere [.ref (A + 38)] (sh, f, g, (up2 fR (A + 38) 7 (some q))) (qv sh (up2 fR (A + 38) 7 (some q)) K) := by
  refine VX9_blameHere h9.1 h9.2.1 h9.2.2.1 h9.2.2.2 ?_
  have hl := hT.len
  cases r with
  | error x =>
    refine ⟨fun _ => K_blame (k := 1) (pl := 0) h9 hT (by decide) (fun e z => by cases z) (fun f' a1 a2 => ⟨_, _, rfl, rfl, H f' a1 a2⟩), fun _ => K_blame (k := 1) (pl := 0) h9 hT (by decide) (fun e z => by cases z) (fun f' a1 a2 => ⟨_, _, rfl, rfl, H f' a1 a2⟩)⟩
  | ok e =>
    have hT' := hT
    obtain ⟨hC, e1, e2, t1, t2, t3, t4, t5, t6⟩ := hT'
    have hk := @tkK_le tp e
    have hb := bad_le e2
    rw [t2, nI_eq (by omega) (by decide)]
    refine ⟨fun z => K_blame (k := 1) (pl := (bad tp e).2) h9 hT (by decide) (fun e' z' => ?_) (fun f' a1 a2 => ⟨_, _, rfl, rfl, H f' a1 a2⟩), fun z => K_blame (k := 1) (pl := (bad tp e).2) h9 hT (by decide) (fun e' z' => ?_) (fun f' a1 a2 => ⟨_, _, rfl, rfl, H f' a1 a2⟩)⟩
    · refine ⟨?_, by omega⟩
      rw [t3]; unfold bad; dsimp only; rw [if_neg z]
    · refine ⟨?_, by omega⟩
      rw [t4 z]; unfold bad; dsimp only; rw [if_pos z]
theorem K_exSign {K : FI → FL → Prop} {c : Nat} (h9 : R9 sh fR A p q) (hT : TS f A tp r) (hc : c < 256) (H : ∀ f', Ft A f f' → TS f' A tp (bd r (exS tp c)) → K f' g) : Cl l G (d + 3) 0 0 mX9_expectSign [.ref (A + 38), .int (nI c)] (sh, f, g, (up2 fR (A + 38) 7 (some q))) (qv sh (up2 fR (A + 38) 7 (some q)) K) := by
  refine VX9_expectSign h9.1 h9.2.1 h9.2.2.1 h9.2.2.2 ?_
  refine K_isSign h9 hT hc (bI_cs (fun z => K_blameHere h9 hT (fun f' a1 a2 => ⟨_, _, rfl, rfl, H f' a1 ?_⟩)) (fun z => K_advR h9 hT (fun e he => ?_) (fun f' a1 a2 => ⟨_, _, rfl, rfl, H f' a1.ft ?_⟩)))
  · cases r with
    | error x => exact a2
    | ok e =>
      have z' : isSg tp e c = false := z
      show TS f' A tp (exS tp c e)
      unfold exS
      rw [z']
      exact a2
  · rw [he] at z
    have := (isSg_K (show isSg tp e c = true from z)).1
    omega
  · cases r with
    | error x => cases z
    | ok e =>
      show TS f' A tp (exS tp c e)
      unfold exS
      rw [if_pos (show isSg tp e c = true from z)]
      exact a2
theorem K_exWord {K : FI → FL → Prop} {k : Nat} (h9 : R9 sh fR A p q) (hT : TS f A tp r) (hc : k < 29) (H : ∀ f', Ft A f f' → TS f' A tp (bd r (exW tp k)) → K f' g) : Cl l G (d + 3) 0 0 mX9_expectWord [.ref (A + 38), .int (nI k)] (sh, f, g, (up2 fR (A + 38) 7 (some q))) (qv sh (up2 fR (A + 38) 7 (some q)) K) := by
  refine VX9_expectWord h9.1 h9.2.1 h9.2.2.1 h9.2.2.2 ?_
  refine K_isWord h9 hT hc (bI_cs (fun z => K_blameHere h9 hT (fun f' a1 a2 => ⟨_, _, rfl, rfl, H f' a1 ?_⟩)) (fun z => K_advR h9 hT (fun e he => ?_) (fun f' a1 a2 => ⟨_, _, rfl, rfl, H f' a1.ft ?_⟩)))
  · cases r with
    | error x => exact a2
    | ok e =>
      have z' : isW tp e k = false := z
      show TS f' A tp (exW tp k e)
      unfold exW
      rw [z']
      exact a2
  · rw [he] at z
    have := (isW_K (show isW tp e k = true from z)).1
    omega
  · cases r with
    | error x => cases z
    | ok e =>
      show TS f' A tp (exW tp k e)
      unfold exW
      rw [if_pos (show isW tp e k = true from z)]
      exact a2
theorem K_exName {K : FI → FL → Prop} (h9 : R9 sh fR A p q) (hT : TS f A tp r) (H : ∀ f', Ft A f f' → TS f' A tp (bd r (exN tp)) → K f' g) : Cl l G (d + 3) 0 0 mX9_expectName [.ref (A + 38)] (sh, f, g, (up2 fR (A + 38) 7 (some q))) (qv sh (up2 fR (A + 38) 7 (some q)) K) := by
  refine VX9_expectName h9.1 h9.2.1 h9.2.2.1 h9.2.2.2 ?_
  refine K_isName h9 hT (bI_cs (fun z => K_blameHere h9 hT (fun f' a1 a2 => ⟨_, _, rfl, rfl, H f' a1 ?_⟩)) (fun z => K_advR h9 hT (fun e he => ?_) (fun f' a1 a2 => ⟨_, _, rfl, rfl, H f' a1.ft ?_⟩)))
  · cases r with
    | error x => exact a2
    | ok e =>
      have z' : isNm tp e = false := z
      show TS f' A tp (exN tp e)
      unfold exN
      rw [z']
      exact a2
  · rw [he] at z
    have z' : isNm tp e = true := z
    unfold isNm at z'
    simp at z'
    omega
  · cases r with
    | error x => cases z
    | ok e =>
      show TS f' A tp (exN tp e)
      unfold exN
      rw [if_pos (show isNm tp e = true from z)]
      exact a2
theorem K_exNum {K : Int32 → FI → FL → Prop} {lo hi : Nat} (h9 : R9 sh fR A p q) (hT : TS f A tp r) (hlo : lo < 2 ^ 31) (hhi : hi < 2 ^ 31) (H : ∀ f', Ft A f f' → TS f' A tp (rF (bd r (numD tp lo hi))) → K (nI (vOf (bd r (numD tp lo hi)))) f' g) : Cl l G (d + 3) 0 0 mX9_expectNumber [.ref (A + 38), .int (nI lo), .int (nI hi)] (sh, f, g, (up2 fR (A + 38) 7 (some q))) (qi sh (up2 fR (A + 38) 7 (some q)) K) := by
  refine VX9_expectNumber h9.1 h9.2.1 h9.2.2.1 h9.2.2.2 ?_
  have hl := hT.len
  cases r with
  | error x =>
    have e1 := hT.2.1
    have e2 := hT.2.2.1
    have e3 := hT.2.2.2.1
    exact ⟨fun _ => K_blameHere h9 hT (fun f' a1 a2 => ⟨_, _, _, rfl, rfl, H f' a1 a2⟩), fun z => absurd z (by rw [e1]; exact nI_ne0 e2 (by omega))⟩
  | ok e =>
    have hT' := hT
    obtain ⟨hC, e1, e2, t1, t2, t3, t4, t5, t6⟩ := hT'
    have hk := @tkK_le tp e
    have hs := tkS_le e2
    have hv := tkV_lt (e := e) hC.2.2.2.1
    refine ⟨fun z => absurd e1 z, fun _ => ?_⟩
    rw [t2, nI_eq (by omega) (by decide)]
    rw [bd_ok] at H
    unfold numD at H
    refine ⟨fun z w hw => ?_, fun z => ?_⟩
    · rw [if_pos z] at H
      rw [hw, t6 (Or.inl z), nI_ltI (by omega) hlo, nI_leI (by omega) hhi, t3]
      refine ⟨fun c => K_blame (k := 4) (pl := tkS tp e) h9 hT (by decide) (fun _ _ => ⟨rfl, by omega⟩) (fun f' a1 a2 => ⟨_, _, _, rfl, rfl, ?_⟩), fun c => ⟨fun c2 => K_advR h9 hT (fun e' he => ?_) (fun f' a1 a2 => ⟨_, _, _, rfl, rfl, ?_⟩), fun c2 => K_blame (k := 4) (pl := tkS tp e) h9 hT (by decide) (fun _ _ => ⟨rfl, by omega⟩) (fun f' a1 a2 => ⟨_, _, _, rfl, rfl, ?_⟩)⟩⟩
      · rw [if_neg (by omega)] at H
        exact H f' a1 a2
      · cases he; omega
      · rw [if_pos (by omega)] at H
        exact H f' a1.ft a2
      · rw [if_neg (by omega)] at H
        exact H f' a1 a2
    · rw [if_neg z] at H
      exact K_blameHere h9 hT (fun f' a1 a2 => ⟨_, _, _, rfl, rfl, H f' a1 a2⟩)
end LF
