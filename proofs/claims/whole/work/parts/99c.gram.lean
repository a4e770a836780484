/-! the grammar of the formulas, as functions of the text -/
abbrev Rr (α : Type) : Type := Except (Nat × Nat) α
def bd {α β : Type} (r : Rr α) (k : α → Rr β) : Rr β := match r with
  | .error q => .error q
  | .ok a => k a
theorem bd_ok {α β : Type} {a : α} {k : α → Rr β} : bd (.ok a) k = k a := rfl
theorem bd_er {α β : Type} {q : Nat × Nat} {k : α → Rr β} : bd (.error q : Rr α) k = .error q := rfl
theorem bd_as {α β γ : Type} {r : Rr α} {k : α → Rr β} {k2 : β → Rr γ} : bd (bd r k) k2 = bd r (fun a => bd (k a) k2) := by cases r <;> rfl
def ow (k : Nat) : List Nat := ownL.getD k []
def isSg (tp : List Nat) (e c : Nat) : Bool := tkK tp e == 3 && tkV tp e == c
def isW (tp : List Nat) (e k : Nat) : Bool := tkK tp e == 1 && tkW tp e == ow k
def ownF (w : List Nat) : Nat → Option Nat
  | 0 => none
  | k + 1 => if ow k = w then some k else ownF w k
def ownI (w : List Nat) : Option Nat := ownF w 29
theorem ownF_in {w : List Nat} : ∀ {n k : Nat}, ownF w n = some k → ow k = w ∧ k < n
  | 0, k, h => by cases h
  | n + 1, k, h => by
    unfold ownF at h
    split at h
    · rename_i c; cases h; exact ⟨c, by omega⟩
    · have := ownF_in h; exact ⟨this.1, by omega⟩
theorem ownF_ow : ∀ k, k < 29 → ownF (ow k) 29 = some k := by decide +kernel
theorem ownI_i {w : List Nat} {k : Nat} (hk : k < 29) : ownI w = some k ↔ w = ow k := ⟨fun h => (ownF_in h).1.symm, fun h => by rw [h]; exact ownF_ow k hk⟩
def isNm (tp : List Nat) (e : Nat) : Bool := tkK tp e == 1 && (ownI (tkW tp e)).isNone
def bad (tp : List Nat) (e : Nat) : Nat × Nat := (1, if tkK tp e = 4 then tkB tp e else tkS tp e)
def exS (tp : List Nat) (c e : Nat) : Rr Nat := if isSg tp e c then .ok (tkE tp e) else .error (bad tp e)
def opn (tp : List Nat) (m e : Nat) : Rr Nat := if m = 0 then .error (5, tkS tp e) else .ok (tkE tp e)
abbrev Rf : Type := Rr (Nat × List Op)
def al (w : Nat) : Nat → Bool := if w = 0 then alD else if w = 1 then alP else if w = 2 then alR else alW
/-- the words of what can be asked: what is asked, which own word -/
def fcL : List (Nat × Nat) := [(1, 14), (2, 4), (3, 15), (4, 16), (5, 5), (6, 17), (7, 18), (8, 19), (9, 20), (10, 21)]
def factS (tp : List Nat) (w e : Nat) : Option Nat := (fcL.find? (fun q => isW tp e q.2 && al w q.1)).map (fun q => q.1)
def lpD (tp : List Nat) (op : Nat → Option Nat) (body : Nat → Rf) : Nat → Nat → Rf
  | 0, e => .ok (e, [])
  | n + 1, e => match op e with
    | none => .ok (e, [])
    | some o => bd (body (tkE tp e)) (fun q => bd (lpD tp op body n q.1) (fun q2 => .ok (q2.1, q.2 ++ (o, 0) :: q2.2)))
def chD (tp : List Nat) (op : Nat → Option Nat) (body : Nat → Rf) (e : Nat) : Rf := bd (body e) (fun q => bd (lpD tp op body 1600 q.1) (fun q2 => .ok (q2.1, q.2 ++ q2.2)))
def opM (tp : List Nat) (e : Nat) : Option Nat := if isSg tp e 42 then some 33 else if isSg tp e 47 then some 34 else if isSg tp e 37 then some 35 else none
def opA (tp : List Nat) (e : Nat) : Option Nat := if isSg tp e 43 then some 31 else if isSg tp e 45 then some 32 else none
def opN (tp : List Nat) (e : Nat) : Option Nat := if isW tp e 24 then some 41 else none
def opO (tp : List Nat) (e : Nat) : Option Nat := if isW tp e 23 then some 42 else none
def choD (tp : List Nat) (m : Nat) (sS sT : Nat → Rf) (e : Nat) : Rf := if isSg tp e 40 then bd (opn tp m e) (fun e1 => bd (sT e1) (fun q1 => bd (exS tp 44 q1.1) (fun e2 => bd (sS e2) (fun q2 => bd (exS tp 44 q2.1) (fun e3 => bd (sS e3) (fun q3 => bd (exS tp 41 q3.1) (fun e4 => .ok (e4, q1.2 ++ q2.2 ++ q3.2 ++ [(44, 0)])))))))) else .error (bad tp e)
def paiD (tp : List Nat) (m : Nat) (sS : Nat → Rf) (o e : Nat) : Rf := if isSg tp e 40 then bd (opn tp m e) (fun e1 => bd (sS e1) (fun q1 => bd (exS tp 44 q1.1) (fun e2 => bd (sS e2) (fun q2 => bd (exS tp 41 q2.1) (fun e3 => .ok (e3, q1.2 ++ q2.2 ++ [(o, 0)])))))) else .error (bad tp e)
def parD (tp : List Nat) (w m : Nat) (sS sT : Nat → Rf) (e : Nat) : Rf :=
  if isSg tp e 40 then bd (opn tp m e) (fun e1 => bd (sS e1) (fun q => bd (exS tp 41 q.1) (fun e3 => .ok (e3, q.2))))
  else if isW tp e 22 then choD tp m sS sT (tkE tp e)
  else if isW tp e 27 then paiD tp m sS 36 (tkE tp e)
  else if isW tp e 28 then paiD tp m sS 37 (tkE tp e)
  else match factS tp w e with
    | some s => .ok (tkE tp e, [(s, 0)])
    | none => if tkK tp e = 2 then .ok (tkE tp e, [(0, tkV tp e)]) else .error (bad tp e)
def cmpD (tp : List Nat) (e : Nat) : Rr (Nat × Nat) := if isSg tp e 60 then .ok (tkE tp e, 38) else if isSg tp e 62 then .ok (tkE tp e, 39) else if isSg tp e 61 then .ok (tkE tp e, 40) else .error (bad tp e)
def facD (tp : List Nat) (m : Nat) (S sF sT : Nat → Rf) (e : Nat) : Rf :=
  if isW tp e 25 then bd (opn tp m e) (fun e1 => bd (sF e1) (fun q => .ok (q.1, q.2 ++ [(43, 0)])))
  else if isSg tp e 91 then bd (opn tp m e) (fun e1 => bd (sT e1) (fun q => bd (exS tp 93 q.1) (fun e3 => .ok (e3, q.2))))
  else if isW tp e 26 then .ok (tkE tp e, [(30, 0)])
  else bd (S e) (fun q => bd (cmpD tp q.1) (fun c => bd (S c.1) (fun q2 => .ok (q2.1, q.2 ++ q2.2 ++ [(c.2, 0)]))))
def sumD (tp : List Nat) (w m : Nat) (sS sT : Nat → Rf) : Nat → Rf := chD tp (opA tp) (chD tp (opM tp) (parD tp w m sS sT))
def tesD (tp : List Nat) (F : Nat → Rf) : Nat → Rf := chD tp (opO tp) (chD tp (opN tp) F)
/-- sums, facts, tests with m signs that may still be opened -/
def lvF (tp : List Nat) (w : Nat) : Nat → (Nat → Rf) × (Nat → Rf) × (Nat → Rf)
  | 0 => (sumD tp w 0 (fun _ => .error (5, 0)) (fun _ => .error (5, 0)), facD tp 0 (sumD tp w 0 (fun _ => .error (5, 0)) (fun _ => .error (5, 0))) (fun _ => .error (5, 0)) (fun _ => .error (5, 0)), tesD tp (facD tp 0 (sumD tp w 0 (fun _ => .error (5, 0)) (fun _ => .error (5, 0))) (fun _ => .error (5, 0)) (fun _ => .error (5, 0))))
  | m + 1 => (sumD tp w (m + 1) (lvF tp w m).1 (lvF tp w m).2.2, facD tp (m + 1) (sumD tp w (m + 1) (lvF tp w m).1 (lvF tp w m).2.2) (lvF tp w m).2.1 (lvF tp w m).2.2, tesD tp (facD tp (m + 1) (sumD tp w (m + 1) (lvF tp w m).1 (lvF tp w m).2.2) (lvF tp w m).2.1 (lvF tp w m).2.2))
def frmD (tp : List Nat) (w e : Nat) : Rf := if w = 0 then (lvF tp w 7).2.2 e else (lvF tp w 7).1 e
/-! the kinds of tokens -/
section KW
variable {tp : List Nat} {e : Nat}
theorem isSg_K {c : Nat} (h : isSg tp e c = true) : tkK tp e = 3 ∧ tkV tp e = c := by unfold isSg at h; simpa using h
theorem isW_K {k : Nat} (h : isW tp e k = true) : tkK tp e = 1 ∧ tkW tp e = ow k := by unfold isW at h; simpa using h
theorem isSg_of {c : Nat} (h : tkK tp e ≠ 3) : isSg tp e c = false := by unfold isSg; simp [h]
theorem isW_of {c : Nat} (h : tkK tp e ≠ 1) : isW tp e c = false := by unfold isW; simp [h]
theorem factS_K {w s : Nat} (h : factS tp w e = some s) : tkK tp e = 1 ∧ 1 ≤ s ∧ s ≤ 10 ∧ al w s = true := by
  unfold factS at h
  cases q : fcL.find? (fun q => isW tp e q.2 && al w q.1) with
  | none => rw [q] at h; cases h
  | some a =>
    rw [q] at h
    cases h
    have h1 := List.find?_some q
    have h2 := List.mem_of_find?_eq_some q
    simp only [Bool.and_eq_true] at h1
    refine ⟨(isW_K h1.1).1, ?_, ?_, h1.2⟩
    · revert h2; unfold fcL; intro h2; simp at h2; rcases h2 with rfl | rfl | rfl | rfl | rfl | rfl | rfl | rfl | rfl | rfl <;> decide
    · revert h2; unfold fcL; intro h2; simp at h2; rcases h2 with rfl | rfl | rfl | rfl | rfl | rfl | rfl | rfl | rfl | rfl <;> decide
theorem opM_K {o : Nat} (h : opM tp e = some o) : tkK tp e = 3 ∧ (o = 33 ∨ o = 34 ∨ o = 35) := by
  unfold opM at h
  split at h
  · rename_i c; cases h; exact ⟨(isSg_K c).1, by omega⟩
  · split at h
    · rename_i c; cases h; exact ⟨(isSg_K c).1, by omega⟩
    · split at h
      · rename_i c; cases h; exact ⟨(isSg_K c).1, by omega⟩
      · cases h
theorem opA_K {o : Nat} (h : opA tp e = some o) : tkK tp e = 3 ∧ (o = 31 ∨ o = 32) := by
  unfold opA at h
  split at h
  · rename_i c; cases h; exact ⟨(isSg_K c).1, by omega⟩
  · split at h
    · rename_i c; cases h; exact ⟨(isSg_K c).1, by omega⟩
    · cases h
theorem opN_K {o : Nat} (h : opN tp e = some o) : tkK tp e = 1 ∧ o = 41 := by
  unfold opN at h
  split at h
  · rename_i c; cases h; exact ⟨(isW_K c).1, rfl⟩
  · cases h
theorem opO_K {o : Nat} (h : opO tp e = some o) : tkK tp e = 1 ∧ o = 42 := by
  unfold opO at h
  split at h
  · rename_i c; cases h; exact ⟨(isW_K c).1, rfl⟩
  · cases h
theorem cmpD_K {q : Nat × Nat} (h : cmpD tp e = .ok q) : tkK tp e = 3 ∧ q.1 = tkE tp e ∧ (q.2 = 38 ∨ q.2 = 39 ∨ q.2 = 40) := by
  unfold cmpD at h
  split at h
  · rename_i c; cases h; exact ⟨(isSg_K c).1, rfl, by omega⟩
  · split at h
    · rename_i c; cases h; exact ⟨(isSg_K c).1, rfl, by omega⟩
    · split at h
      · rename_i c; cases h; exact ⟨(isSg_K c).1, rfl, by omega⟩
      · cases h
end KW
/-! what a piece of the grammar gives: it ends behind its beginning, within the text; its codes are no more than its bytes; their types; the height -/
def Gd (tp : List Nat) (w : Nat) (t : Bool) (H : Nat) (D : Nat → Rf) : Prop := ∀ e e' c, e ≤ tp.length → D e = .ok (e', c) → e < e' ∧ e' ≤ tp.length ∧ c.length + e ≤ e' ∧ (∀ τ rest, τ.length + H ≤ 90 → tyrun (c ++ rest) τ = tyrun rest (t :: τ)) ∧ ∀ o ∈ c, o.1 < 64 ∧ (o.1 = 0 → o.2 ≤ 9999) ∧ (0 < o.1 → o.1 < 30 → o.1 ≤ 10 ∧ al w o.1 = true)
theorem tyrun_1 {o : Op} {rest : List Op} {τ τ' : List Bool} (h : tyr τ o = some τ') (hl : τ'.length ≤ 90) : tyrun (o :: rest) τ = tyrun rest τ' := by
  rw [tyrun, h]
  exact if_pos hl
section GD
variable {tp : List Nat} {w m : Nat}
theorem exS_ok {c e e' : Nat} (h : exS tp c e = .ok e') (he : e ≤ tp.length) : isSg tp e c = true ∧ e' = tkE tp e ∧ e < e' ∧ e' ≤ tp.length := by
  unfold exS at h
  split at h
  · rename_i q
    cases h
    exact ⟨q, rfl, tkE_gte (by rw [(isSg_K q).1]; decide), tkE_le he⟩
  · cases h
theorem opn_ok {e e' : Nat} (h : opn tp m e = .ok e') (he : e ≤ tp.length) (hk : tkK tp e ≠ 0) : m ≠ 0 ∧ e' = tkE tp e ∧ e < e' ∧ e' ≤ tp.length := by
  unfold opn at h
  split at h
  · cases h
  · rename_i q; cases h; exact ⟨q, rfl, tkE_gte hk, tkE_le he⟩
theorem bd_in {α β : Type} {r : Rr α} {k : α → Rr β} {b : β} (h : bd r k = .ok b) : ∃ a, r = .ok a ∧ k a = .ok b := by
  cases r with
  | error q => cases h
  | ok a => exact ⟨a, rfl, h⟩
theorem lpD_gd {op : Nat → Option Nat} {D : Nat → Rf} {t : Bool} {H : Nat} (hD : Gd tp w t H D) (hop : ∀ e o, op e = some o → tkK tp e ≠ 0 ∧ (∀ τ : List Bool, tyr (t :: t :: τ) (o, 0) = some (t :: τ)) ∧ 30 < o ∧ o < 64) : ∀ n e e' c, e ≤ tp.length → lpD tp op D n e = .ok (e', c) → e ≤ e' ∧ e' ≤ tp.length ∧ c.length + e ≤ e' ∧ (∀ τ rest, τ.length + (H + 1) ≤ 90 → tyrun (c ++ rest) (t :: τ) = tyrun rest (t :: τ)) ∧ ∀ o ∈ c, o.1 < 64 ∧ (o.1 = 0 → o.2 ≤ 9999) ∧ (0 < o.1 → o.1 < 30 → o.1 ≤ 10 ∧ al w o.1 = true) := by
  intro n
  induction n with
  | zero =>
    intro e e' c he h
    cases h
    exact ⟨Nat.le_refl _, he, by simp, fun _ _ _ => rfl, fun o ho => by cases ho⟩
  | succ n ih =>
    intro e e' c he h
    rw [lpD] at h
    cases ho : op e with
    | none =>
      rw [ho] at h
      cases h
      exact ⟨Nat.le_refl _, he, by simp, fun _ _ _ => rfl, fun o ho => by cases ho⟩
    | some o =>
      rw [ho] at h
      obtain ⟨h1, h2, h3, h3'⟩ := hop e o ho
      dsimp only at h
      obtain ⟨q, hq, h⟩ := bd_in h
      obtain ⟨q2, hq2, h⟩ := bd_in h
      cases h
      obtain ⟨a1, a2, a3, a4, a5⟩ := hD _ q.1 q.2 (tkE_le he) hq
      obtain ⟨b1, b2, b3, b4, b5⟩ := ih _ q2.1 q2.2 a2 hq2
      have h4 := tkE_gte h1
      refine ⟨by omega, b2, ?_, fun τ rest hτ => ?_, fun x hx => ?_⟩
      · rw [List.length_append, List.length_cons]; omega
      · rw [List.append_assoc, List.cons_append, a4 (t :: τ) _ (by rw [List.length_cons]; omega), tyrun_1 (h2 τ) (by rw [List.length_cons]; omega)]
        exact b4 τ rest hτ
      · rcases List.mem_append.mp hx with hx | hx
        · exact a5 x hx
        · rcases List.mem_cons.mp hx with rfl | hx
          · exact ⟨h3', fun z => by dsimp only at z; omega, fun _ z => by dsimp only at z; omega⟩
          · exact b5 x hx
theorem chD_gd {op : Nat → Option Nat} {D : Nat → Rf} {t : Bool} {H : Nat} (hD : Gd tp w t H D) (hop : ∀ e o, op e = some o → tkK tp e ≠ 0 ∧ (∀ τ : List Bool, tyr (t :: t :: τ) (o, 0) = some (t :: τ)) ∧ 30 < o ∧ o < 64) : Gd tp w t (H + 1) (chD tp op D) := by
  intro e e' c he h
  unfold chD at h
  obtain ⟨q, hq, h⟩ := bd_in h
  obtain ⟨q2, hq2, h⟩ := bd_in h
  cases h
  obtain ⟨a1, a2, a3, a4, a5⟩ := hD _ q.1 q.2 he hq
  obtain ⟨b1, b2, b3, b4, b5⟩ := lpD_gd hD hop _ _ q2.1 q2.2 a2 hq2
  refine ⟨by omega, b2, by rw [List.length_append]; omega, fun τ rest hτ => ?_, fun x hx => ?_⟩
  · rw [List.append_assoc, a4 τ _ (by omega)]
    exact b4 τ rest hτ
  · rcases List.mem_append.mp hx with hx | hx
    · exact a5 x hx
    · exact b5 x hx
theorem opM_t : ∀ e o, opM tp e = some o → tkK tp e ≠ 0 ∧ (∀ τ : List Bool, tyr (false :: false :: τ) (o, 0) = some (false :: τ)) ∧ 30 < o ∧ o < 64 := fun e o h => by
  obtain ⟨h1, h2⟩ := opM_K h
  refine ⟨by omega, fun τ => ?_, by omega, by omega⟩
  rcases h2 with rfl | rfl | rfl <;> rfl
theorem opA_t : ∀ e o, opA tp e = some o → tkK tp e ≠ 0 ∧ (∀ τ : List Bool, tyr (false :: false :: τ) (o, 0) = some (false :: τ)) ∧ 30 < o ∧ o < 64 := fun e o h => by
  obtain ⟨h1, h2⟩ := opA_K h
  refine ⟨by omega, fun τ => ?_, by omega, by omega⟩
  rcases h2 with rfl | rfl <;> rfl
theorem opN_t : ∀ e o, opN tp e = some o → tkK tp e ≠ 0 ∧ (∀ τ : List Bool, tyr (true :: true :: τ) (o, 0) = some (true :: τ)) ∧ 30 < o ∧ o < 64 := fun e o h => by
  obtain ⟨h1, rfl⟩ := opN_K h
  exact ⟨by omega, fun τ => rfl, by omega, by omega⟩
theorem opO_t : ∀ e o, opO tp e = some o → tkK tp e ≠ 0 ∧ (∀ τ : List Bool, tyr (true :: true :: τ) (o, 0) = some (true :: τ)) ∧ 30 < o ∧ o < 64 := fun e o h => by
  obtain ⟨h1, rfl⟩ := opO_K h
  exact ⟨by omega, fun τ => rfl, by omega, by omega⟩
theorem parD_gd {sS sT : Nat → Rf} {H : Nat} (hS : m ≠ 0 → Gd tp w false (H + 2) sS) (hT : m ≠ 0 → Gd tp w true (H + 5) sT) : Gd tp w false (H + 5) (parD tp w m sS sT) := by
  intro e e' c he h
  unfold parD at h
  have o64 : ∀ {o : Nat}, 30 < o → o < 64 → (o, 0).1 < 64 ∧ ((o, 0).1 = 0 → (o, 0).2 ≤ 9999) ∧ (0 < (o, 0).1 → (o, 0).1 < 30 → (o, 0).1 ≤ 10 ∧ al w (o, 0).1 = true) := fun {o} a b => ⟨b, fun z => by dsimp only at z; omega, fun _ z => by dsimp only at z; omega⟩
  have pair : ∀ e o, e ≤ tp.length → (o = 36 ∨ o = 37) → ∀ e' c, paiD tp m sS o e = .ok (e', c) → e < e' ∧ e' ≤ tp.length ∧ c.length + e ≤ e' ∧ (∀ τ rest, τ.length + (H + 5) ≤ 90 → tyrun (c ++ rest) τ = tyrun rest (false :: τ)) ∧ ∀ o ∈ c, o.1 < 64 ∧ (o.1 = 0 → o.2 ≤ 9999) ∧ (0 < o.1 → o.1 < 30 → o.1 ≤ 10 ∧ al w o.1 = true) := by
    intro e o he ho e' c h
    unfold paiD at h
    split at h
    · rename_i c0
      obtain ⟨e1, h1, h⟩ := bd_in h
      obtain ⟨m0, -, g1, g1'⟩ := opn_ok h1 he (by rw [(isSg_K c0).1]; decide)
      obtain ⟨q1, h2, h⟩ := bd_in h
      obtain ⟨a1, a2, a3, a4, a5⟩ := hS m0 _ q1.1 q1.2 g1' h2
      obtain ⟨e2, h3, h⟩ := bd_in h
      obtain ⟨-, -, g2, g2'⟩ := exS_ok h3 a2
      obtain ⟨q2, h4, h⟩ := bd_in h
      obtain ⟨b1, b2, b3, b4, b5⟩ := hS m0 _ q2.1 q2.2 g2' h4
      obtain ⟨e3, h5, h⟩ := bd_in h
      obtain ⟨-, -, g3, g3'⟩ := exS_ok h5 b2
      cases h
      refine ⟨by omega, g3', by simp only [List.length_append, List.length_cons, List.length_nil]; omega, fun τ rest hτ => ?_, fun x hx => ?_⟩
      · rw [List.append_assoc, List.append_assoc, a4 τ _ (by omega), b4 (false :: τ) _ (by rw [List.length_cons]; omega)]
        exact tyrun_1 (by rcases ho with rfl | rfl <;> rfl) (by rw [List.length_cons]; omega)
      · rcases List.mem_append.mp hx with hx | hx
        · rcases List.mem_append.mp hx with hx | hx
          · exact a5 x hx
          · exact b5 x hx
        · rw [List.mem_singleton] at hx
          subst hx
          exact o64 (by omega) (by omega)
    · cases h
  split at h
  · rename_i c0
    obtain ⟨e1, h1, h⟩ := bd_in h
    obtain ⟨m0, -, g1, g1'⟩ := opn_ok h1 he (by rw [(isSg_K c0).1]; decide)
    obtain ⟨q1, h2, h⟩ := bd_in h
    obtain ⟨a1, a2, a3, a4, a5⟩ := hS m0 _ q1.1 q1.2 g1' h2
    obtain ⟨e2, h3, h⟩ := bd_in h
    obtain ⟨-, -, g2, g2'⟩ := exS_ok h3 a2
    cases h
    exact ⟨by omega, g2', by omega, fun τ rest hτ => a4 τ rest (by omega), a5⟩
  split at h
  · rename_i c00
    have g0 := tkE_gte (tp := tp) (e := e) (by rw [(isW_K c00).1]; decide)
    unfold choD at h
    split at h
    · rename_i c0
      obtain ⟨e1, h1, h⟩ := bd_in h
      obtain ⟨m0, -, g1, g1'⟩ := opn_ok h1 (tkE_le he) (by rw [(isSg_K c0).1]; decide)
      obtain ⟨q1, h2, h⟩ := bd_in h
      obtain ⟨a1, a2, a3, a4, a5⟩ := hT m0 _ q1.1 q1.2 g1' h2
      obtain ⟨e2, h3, h⟩ := bd_in h
      obtain ⟨-, -, g2, g2'⟩ := exS_ok h3 a2
      obtain ⟨q2, h4, h⟩ := bd_in h
      obtain ⟨b1, b2, b3, b4, b5⟩ := hS m0 _ q2.1 q2.2 g2' h4
      obtain ⟨e3, h5, h⟩ := bd_in h
      obtain ⟨-, -, g3, g3'⟩ := exS_ok h5 b2
      obtain ⟨q3, h6, h⟩ := bd_in h
      obtain ⟨d1, d2, d3, d4, d5⟩ := hS m0 _ q3.1 q3.2 g3' h6
      obtain ⟨e4, h7, h⟩ := bd_in h
      obtain ⟨-, -, g4, g4'⟩ := exS_ok h7 d2
      cases h
      refine ⟨by omega, g4', by simp only [List.length_append, List.length_cons, List.length_nil]; omega, fun τ rest hτ => ?_, fun x hx => ?_⟩
      · rw [List.append_assoc, List.append_assoc, List.append_assoc, a4 τ _ (by omega), b4 (true :: τ) _ (by rw [List.length_cons]; omega), d4 (false :: true :: τ) _ (by rw [List.length_cons, List.length_cons]; omega)]
        exact tyrun_1 rfl (by rw [List.length_cons]; omega)
      · rcases List.mem_append.mp hx with hx | hx
        · rcases List.mem_append.mp hx with hx | hx
          · rcases List.mem_append.mp hx with hx | hx
            · exact a5 x hx
            · exact b5 x hx
          · exact d5 x hx
        · rw [List.mem_singleton] at hx
          subst hx
          exact o64 (by omega) (by omega)
    · cases h
  split at h
  · rename_i c00
    have g0 := tkE_gte (tp := tp) (e := e) (by rw [(isW_K c00).1]; decide)
    obtain ⟨a1, a2, a3, a4, a5⟩ := pair _ 36 (tkE_le he) (Or.inl rfl) _ _ h
    exact ⟨by omega, a2, by omega, a4, a5⟩
  split at h
  · rename_i c00
    have g0 := tkE_gte (tp := tp) (e := e) (by rw [(isW_K c00).1]; decide)
    obtain ⟨a1, a2, a3, a4, a5⟩ := pair _ 37 (tkE_le he) (Or.inr rfl) _ _ h
    exact ⟨by omega, a2, by omega, a4, a5⟩
  split at h
  · rename_i s hs
    obtain ⟨k1, k2, k3, k4⟩ := factS_K hs
    cases h
    have g0 := tkE_gte (tp := tp) (e := e) (by rw [k1]; decide)
    refine ⟨g0, tkE_le he, by simp; omega, fun τ rest hτ => tyrun_1 ?_ (by rw [List.length_cons]; omega), fun x hx => ?_⟩
    · unfold tyr
      dsimp only
      rw [if_neg (by omega), if_neg (by omega), if_pos (by omega)]
    · rw [List.mem_singleton] at hx
      subst hx
      exact ⟨by dsimp only; omega, fun z => by dsimp only at z; omega, fun _ _ => ⟨k3, k4⟩⟩
  · split at h
    · rename_i k1
      cases h
      have g0 := tkE_gte (tp := tp) (e := e) (by rw [k1]; decide)
      refine ⟨g0, tkE_le he, by simp; omega, fun τ rest hτ => tyrun_1 rfl (by rw [List.length_cons]; omega), fun x hx => ?_⟩
      rw [List.mem_singleton] at hx
      subst hx
      exact ⟨by dsimp only; omega, fun _ => tkV_num k1, fun z => by dsimp only at z; omega⟩
    · cases h
theorem facD_gd {S sF sT : Nat → Rf} {H : Nat} (hS : Gd tp w false H S) (hF : m ≠ 0 → Gd tp w true (H + 1) sF) (hT : m ≠ 0 → Gd tp w true (H + 1) sT) : Gd tp w true (H + 1) (facD tp m S sF sT) := by
  intro e e' c he h
  unfold facD at h
  have o64 : ∀ {o : Nat}, 29 < o → o < 64 → (o, 0).1 < 64 ∧ ((o, 0).1 = 0 → (o, 0).2 ≤ 9999) ∧ (0 < (o, 0).1 → (o, 0).1 < 30 → (o, 0).1 ≤ 10 ∧ al w (o, 0).1 = true) := fun {o} a b => ⟨b, fun z => by dsimp only at z; omega, fun _ z => by dsimp only at z; omega⟩
  split at h
  · rename_i c0
    obtain ⟨e1, h1, h⟩ := bd_in h
    obtain ⟨m0, -, g1, g1'⟩ := opn_ok h1 he (by rw [(isW_K c0).1]; decide)
    obtain ⟨q1, h2, h⟩ := bd_in h
    obtain ⟨a1, a2, a3, a4, a5⟩ := hF m0 _ q1.1 q1.2 g1' h2
    cases h
    refine ⟨by omega, a2, by rw [List.length_append]; simp; omega, fun τ rest hτ => ?_, fun x hx => ?_⟩
    · rw [List.append_assoc, a4 τ _ (by omega)]
      exact tyrun_1 rfl (by rw [List.length_cons]; omega)
    · rcases List.mem_append.mp hx with hx | hx
      · exact a5 x hx
      · rw [List.mem_singleton] at hx
        subst hx
        exact o64 (by omega) (by omega)
  split at h
  · rename_i c0
    obtain ⟨e1, h1, h⟩ := bd_in h
    obtain ⟨m0, -, g1, g1'⟩ := opn_ok h1 he (by rw [(isSg_K c0).1]; decide)
    obtain ⟨q1, h2, h⟩ := bd_in h
    obtain ⟨a1, a2, a3, a4, a5⟩ := hT m0 _ q1.1 q1.2 g1' h2
    obtain ⟨e2, h3, h⟩ := bd_in h
    obtain ⟨-, -, g2, g2'⟩ := exS_ok h3 a2
    cases h
    exact ⟨by omega, g2', by omega, fun τ rest hτ => a4 τ rest (by omega), a5⟩
  split at h
  · rename_i c0
    cases h
    have g0 := tkE_gte (tp := tp) (e := e) (by rw [(isW_K c0).1]; decide)
    refine ⟨g0, tkE_le he, by simp; omega, fun τ rest hτ => tyrun_1 rfl (by rw [List.length_cons]; omega), fun x hx => ?_⟩
    rw [List.mem_singleton] at hx
    subst hx
    exact o64 (by omega) (by omega)
  obtain ⟨q1, h2, h⟩ := bd_in h
  obtain ⟨a1, a2, a3, a4, a5⟩ := hS _ q1.1 q1.2 he h2
  obtain ⟨q2, h3, h⟩ := bd_in h
  obtain ⟨k1, k2, k3⟩ := cmpD_K h3
  have g0 := tkE_gte (tp := tp) (e := q1.1) (by rw [k1]; decide)
  obtain ⟨q3, h4, h⟩ := bd_in h
  obtain ⟨b1, b2, b3, b4, b5⟩ := hS _ q3.1 q3.2 (by rw [k2]; exact tkE_le a2) h4
  cases h
  refine ⟨by omega, b2, by simp only [List.length_append, List.length_cons, List.length_nil]; omega, fun τ rest hτ => ?_, fun x hx => ?_⟩
  · rw [List.append_assoc, List.append_assoc, a4 τ _ (by omega), b4 (false :: τ) _ (by rw [List.length_cons]; omega)]
    refine tyrun_1 ?_ (by rw [List.length_cons]; omega)
    rcases k3 with z | z | z <;> rw [z] <;> rfl
  · rcases List.mem_append.mp hx with hx | hx
    · rcases List.mem_append.mp hx with hx | hx
      · exact a5 x hx
      · exact b5 x hx
    · rw [List.mem_singleton] at hx
      subst hx
      exact o64 (by omega) (by omega)
theorem Gd.mono {t : Bool} {H H' : Nat} {D : Nat → Rf} (h : Gd tp w t H D) (hh : H ≤ H') : Gd tp w t H' D := fun e e' c he q => by
  obtain ⟨a1, a2, a3, a4, a5⟩ := h e e' c he q
  exact ⟨a1, a2, a3, fun τ rest hτ => a4 τ rest (by omega), a5⟩
theorem lvF_gd : ∀ m, Gd tp w false (5 * m + 7) (lvF tp w m).1 ∧ Gd tp w true (5 * m + 8) (lvF tp w m).2.1 ∧ Gd tp w true (5 * m + 10) (lvF tp w m).2.2
  | 0 => by
    have hS : Gd tp w false 7 (lvF tp w 0).1 := chD_gd (chD_gd (parD_gd (H := 0) (fun z => absurd rfl z) (fun z => absurd rfl z)) opM_t) opA_t
    have hF : Gd tp w true 8 (lvF tp w 0).2.1 := facD_gd hS (fun z => absurd rfl z) (fun z => absurd rfl z)
    exact ⟨hS, hF, chD_gd (chD_gd hF opN_t) opO_t⟩
  | m + 1 => by
    obtain ⟨i1, i2, i3⟩ := lvF_gd m
    have hS : Gd tp w false (5 * (m + 1) + 7) (lvF tp w (m + 1)).1 := chD_gd (chD_gd (parD_gd (H := 5 * (m + 1)) (fun _ => i1.mono (by omega)) (fun _ => i3.mono (by omega))) opM_t) opA_t
    have hF : Gd tp w true (5 * (m + 1) + 8) (lvF tp w (m + 1)).2.1 := facD_gd hS (fun _ => i2.mono (by omega)) (fun _ => i3.mono (by omega))
    exact ⟨hS, hF, chD_gd (chD_gd hF opN_t) opO_t⟩
theorem frmD_ok {e e' : Nat} {c : List Op} (he : e ≤ tp.length) (h : frmD tp w e = .ok (e', c)) : e < e' ∧ e' ≤ tp.length ∧ c.length + e ≤ e' ∧ opsOK c (decide (w = 0)) (al w) := by
  unfold frmD at h
  have i := lvF_gd (tp := tp) (w := w) 7
  split at h
  · rename_i hw
    obtain ⟨a1, a2, a3, a4, a5⟩ := i.2.2 e e' c he h
    have := a4 [] [] (by decide)
    rw [List.append_nil] at this
    exact ⟨a1, a2, a3, by rw [this, decide_eq_true hw]; rfl, a5⟩
  · rename_i hw
    obtain ⟨a1, a2, a3, a4, a5⟩ := i.1 e e' c he h
    have := a4 [] [] (by decide)
    rw [List.append_nil] at this
    exact ⟨a1, a2, a3, by rw [this, decide_eq_false hw]; rfl, a5⟩
end GD
