/-! the text of a stream: its statements -/
def pStr (a b c d : Nat) : Pl := (fun i => if i = 1 then a else if i = 2 then b else if i = 3 then c else if i = 4 then d else 0, fun _ => [], fun _ => 0, fun _ => none, fun _ => none)
def pNum (π : Pl) (i v : Nat) : Pl := (fu π.1 i v, π.2)
def pAdd (π : Pl) (w : List Nat) (v : Nat) : Pl := (fu π.1 6 (π.1 6 + 1), fu π.2.1 (π.1 6) w, fu π.2.2.1 (π.1 6) v, fu π.2.2.2.1 (π.1 6) none, π.2.2.2.2)
def pJon (π : Pl) (p : Nat) (j : Nat × Nat) : Pl := (π.1, π.2.1, π.2.2.1, fu π.2.2.2.1 p (some j), π.2.2.2.2)
def pFor (π : Pl) (w : Nat) (c : List Op) : Pl := (π.1, π.2.1, π.2.2.1, π.2.2.2.1, fu π.2.2.2.2 w (some c))
def pnF (π : Pl) (w : List Nat) : Nat → Nat → Option Nat
  | 0, _ => none
  | n + 1, k => if π.2.1 k = w then some k else pnF π w n (k + 1)
def pnS (π : Pl) (w : List Nat) : Option Nat := pnF π w (π.1 6) 0
def strD (tp : List Nat) (e : Nat) : Rr (Nat × Pl) := bd (exW tp 0 e) (fun e1 => bd (numD tp 1 200 e1) (fun n1 => bd (exW tp 1 n1.1) (fun e2 => bd (numD tp 1 20 e2) (fun n2 => bd (exW tp 2 n2.1) (fun e3 => bd (numD tp 10 99 e3) (fun n3 => bd (exW tp 3 n3.1) (fun e4 => bd (numD tp 0 999 e4) (fun n4 => .ok (n4.1, pStr n1.2 n2.2 n3.2 n4.2)))))))))
def pthD (tp : List Nat) (π : Pl) (e : Nat) : Rr (Nat × Pl) := if 4 ≤ π.1 6 then .error (6, tkS tp e) else bd (exN tp (tkE tp e)) (fun e2 => if (pnS π (tkW tp (tkE tp e))).isSome then .error (2, tkS tp (tkE tp e)) else bd (exW tp 5 e2) (fun e3 => bd (numD tp 1 9 e3) (fun n => .ok (n.1, pAdd π (tkW tp (tkE tp e)) n.2))))
def jonP (π : Pl) (w : List Nat) : Option Nat := (pnS π w).bind (fun p => if p = 0 ∨ (π.2.2.2.1 p).isSome then none else some p)
def jonD (tp : List Nat) (π : Pl) (e : Nat) : Rr (Nat × Pl) := bd (exN tp (tkE tp e)) (fun e2 => match jonP π (tkW tp (tkE tp e)) with
  | none => .error (3, tkS tp (tkE tp e))
  | some p => bd (exW tp 7 e2) (fun e3 => bd (numD tp 0 99 e3) (fun n1 => bd (exW tp 8 n1.1) (fun e4 => bd (numD tp 0 999 e4) (fun n2 => .ok (n2.1, pJon π p (n1.2, n2.2)))))))
def losD (tp : List Nat) (π : Pl) (e : Nat) : Rr (Nat × Pl) := bd (numD tp 0 100 (tkE tp e)) (fun n => .ok (n.1, pNum π 5 n.2))
def forD (tp : List Nat) (π : Pl) (w e : Nat) : Rr (Nat × Pl) := if (π.2.2.2.2 w).isSome then .error (6, tkS tp e) else bd (frmD tp w (tkE tp e)) (fun q => .ok (q.1, pFor π w q.2))
def stmD (tp : List Nat) (π : Pl) (e : Nat) : Rr (Nat × Pl) :=
  if isW tp e 4 then pthD tp π e else if isW tp e 6 then jonD tp π e else if isW tp e 9 then losD tp π e
  else if isW tp e 10 then forD tp π 0 e else if isW tp e 11 then forD tp π 1 e else if isW tp e 12 then forD tp π 2 e else if isW tp e 13 then forD tp π 3 e
  else .error (bad tp e)
/-- n statements may still come -/
def lpT (tp : List Nat) : Nat → Pl → Nat → Rr Pl
  | 0, π, e => if tkK tp e = 0 then .ok π else .error (6, tkS tp e)
  | n + 1, π, e => if tkK tp e = 0 then .ok π else bd (stmD tp π e) (fun q => bd (exS tp 59 q.1) (fun e' => lpT tp n (pNum q.2 0 (q.2.1 0 + 1)) e'))
def txtD (tp : List Nat) : Rr Pl := bd (strD tp 0) (fun q => bd (exS tp 59 q.1) (fun e' => lpT tp 39 (pNum q.2 0 (q.2.1 0 + 1)) e'))
def xOK (π : Pl) : Prop := πOK π ∧ nmOK π
section SO
variable {tp : List Nat} {e : Nat} {π : Pl}
theorem fu_eq {α : Type} {f : Nat → α} {i : Nat} {v : α} : fu f i v i = v := if_pos rfl
theorem fu_ne {α : Type} {f : Nat → α} {i j : Nat} {v : α} (h : j ≠ i) : fu f i v j = f j := if_neg h
theorem exW_ok {k e' : Nat} (h : exW tp k e = .ok e') (he : e ≤ tp.length) : isW tp e k = true ∧ e' = tkE tp e ∧ e < e' ∧ e' ≤ tp.length := by
  unfold exW at h
  split at h
  · rename_i q
    cases h
    exact ⟨q, rfl, tkE_gte (by rw [(isW_K q).1]; decide), tkE_le he⟩
  · cases h
theorem isNm_K (h : isNm tp e = true) : tkK tp e = 1 ∧ ownI (tkW tp e) = none := by
  unfold isNm at h
  simpa using h
theorem exN_ok {e' : Nat} (h : exN tp e = .ok e') (he : e ≤ tp.length) : isNm tp e = true ∧ e' = tkE tp e ∧ e < e' ∧ e' ≤ tp.length := by
  unfold exN at h
  split at h
  · rename_i q
    cases h
    exact ⟨q, rfl, tkE_gte (by rw [(isNm_K q).1]; decide), tkE_le he⟩
  · cases h
theorem numD_ok {lo hi : Nat} {y : Nat × Nat} (h : numD tp lo hi e = .ok y) (he : e ≤ tp.length) : (lo ≤ y.2 ∧ y.2 ≤ hi) ∧ e < y.1 ∧ y.1 ≤ tp.length := by
  unfold numD at h
  split at h
  · rename_i q
    split at h
    · rename_i q2
      cases h
      exact ⟨q2, tkE_gte (by rw [q]; decide), tkE_le he⟩
    · cases h
  · cases h
theorem tkW_pos (h : tkK tp e = 1) : 1 ≤ (tkW tp e).length := by
  have h2 : isLt (bt tp (tkS tp e)) = true := by
    unfold tkK at h
    split at h
    · cases h
    · split at h
      · assumption
      · split at h
        · split at h <;> cases h
        · cases h
  unfold tkW
  rw [ltrs_len, cnt_t h2]
  omega
theorem xOK_str {a b c d : Nat} (ha : 1 ≤ a ∧ a ≤ 200) (hb : 1 ≤ b ∧ b ≤ 20) (hc : 10 ≤ c ∧ c ≤ 99) (hd : d ≤ 999) : xOK (pStr a b c d) :=
  ⟨⟨ha, hb, hc, hd, Nat.zero_le _, Nat.zero_le _, fun p hp => absurd hp (Nat.not_lt_zero _), fun p t k h => (by cases h), fun o h => (by cases h), fun o h => (by cases h), fun o h => (by cases h), fun o h => by cases h⟩, fun p hp => absurd hp (Nat.not_lt_zero _)⟩
theorem strD_ok {y : Nat × Pl} (he : e ≤ tp.length) (h : strD tp e = .ok y) : xOK y.2 ∧ e < y.1 ∧ y.1 ≤ tp.length ∧ y.2.1 0 = 0 := by
  unfold strD at h
  obtain ⟨e1, h1, h⟩ := bd_in h
  obtain ⟨n1, h2, h⟩ := bd_in h
  obtain ⟨e2, h3, h⟩ := bd_in h
  obtain ⟨n2, h4, h⟩ := bd_in h
  obtain ⟨e3, h5, h⟩ := bd_in h
  obtain ⟨n3, h6, h⟩ := bd_in h
  obtain ⟨e4, h7, h⟩ := bd_in h
  obtain ⟨n4, h8, h⟩ := bd_in h
  cases h
  obtain ⟨-, -, a1, a2⟩ := exW_ok h1 he
  obtain ⟨b1, b2, b3⟩ := numD_ok h2 a2
  obtain ⟨-, -, c1, c2⟩ := exW_ok h3 b3
  obtain ⟨d1, d2, d3⟩ := numD_ok h4 c2
  obtain ⟨-, -, e1, e2⟩ := exW_ok h5 d3
  obtain ⟨f1, f2, f3⟩ := numD_ok h6 e2
  obtain ⟨-, -, g1, g2⟩ := exW_ok h7 f3
  obtain ⟨i1, i2, i3⟩ := numD_ok h8 g2
  exact ⟨xOK_str b1 d1 f1 i1.2, by dsimp only; omega, i3, rfl⟩
theorem xOK.num0 {v : Nat} (h : xOK π) : xOK (pNum π 0 v) := h
theorem xOK.loss {v : Nat} (h : xOK π) (hv : v ≤ 100) : xOK (pNum π 5 v) := by
  obtain ⟨⟨h1, h2, h3, h4, h5, h6⟩, h7⟩ := h
  exact ⟨⟨h1, h2, h3, h4, hv, h6⟩, h7⟩
theorem xOK.add {v : Nat} {w : List Nat} (h : xOK π) (hp : π.1 6 < 4) (hv : 1 ≤ v ∧ v ≤ 9) (hw : 1 ≤ w.length ∧ w.length ≤ 6 ∧ ∀ c ∈ w, 1 ≤ c ∧ c ≤ 26) : xOK (pAdd π w v) := by
  obtain ⟨⟨h1, h2, h3, h4, h5, h6, h7, h8, h9⟩, h10⟩ := h
  refine ⟨⟨h1, h2, h3, h4, h5, ?_, fun p hp2 => ?_, fun p t k hj => ?_, h9⟩, fun p hp2 => ?_⟩
  · show π.1 6 + 1 ≤ 4; omega
  · have hp3 : p < π.1 6 + 1 := hp2
    show 1 ≤ fu π.2.2.1 (π.1 6) v p ∧ fu π.2.2.1 (π.1 6) v p ≤ 9
    by_cases z : p = π.1 6
    · rw [z, fu_eq]; exact hv
    · rw [fu_ne z]; exact h7 p (by omega)
  · have hj' : fu π.2.2.2.1 (π.1 6) none p = some (t, k) := hj
    by_cases z : p = π.1 6
    · rw [z, fu_eq] at hj'; cases hj'
    · rw [fu_ne z] at hj'; exact h8 p t k hj'
  · have hp3 : p < π.1 6 + 1 := hp2
    show 1 ≤ (fu π.2.1 (π.1 6) w p).length ∧ (fu π.2.1 (π.1 6) w p).length ≤ 6 ∧ ∀ c ∈ fu π.2.1 (π.1 6) w p, 1 ≤ c ∧ c ≤ 26
    by_cases z : p = π.1 6
    · rw [z, fu_eq]; exact hw
    · rw [fu_ne z]; exact h10 p (by omega)
theorem xOK.jon {p : Nat} {j : Nat × Nat} (h : xOK π) (hj : j.1 ≤ 99 ∧ j.2 ≤ 999) : xOK (pJon π p j) := by
  obtain ⟨⟨h1, h2, h3, h4, h5, h6, h7, h8, h9⟩, h10⟩ := h
  refine ⟨⟨h1, h2, h3, h4, h5, h6, h7, fun q t k hq => ?_, h9⟩, h10⟩
  have hq' : fu π.2.2.2.1 p (some j) q = some (t, k) := hq
  by_cases z : q = p
  · rw [z, fu_eq] at hq'; cases hq'; exact hj
  · rw [fu_ne z] at hq'; exact h8 q t k hq'
theorem xOK.for {w : Nat} {c : List Op} (h : xOK π) (hw : w < 4) (hc : opsOK c (decide (w = 0)) (al w)) : xOK (pFor π w c) := by
  obtain ⟨⟨h1, h2, h3, h4, h5, h6, h7, h8, g0, g1, g2, g3⟩, h10⟩ := h
  have key : ∀ (i : Nat) (tt : Bool) (a : Nat → Bool), fmOK (π.2.2.2.2 i) tt a → (i = w → tt = decide (w = 0) ∧ a = al w) → fmOK (fu π.2.2.2.2 w (some c) i) tt a := by
    intro i tt a hf hi ops ho
    by_cases z : i = w
    · obtain ⟨rfl, rfl⟩ := hi z
      rw [z, fu_eq] at ho
      cases ho
      exact hc
    · rw [fu_ne z] at ho
      exact hf ops ho
  refine ⟨⟨h1, h2, h3, h4, h5, h6, h7, h8, key 0 _ _ g0 (fun z => by subst z; exact ⟨rfl, rfl⟩), key 1 _ _ g1 (fun z => by subst z; exact ⟨rfl, rfl⟩), key 2 _ _ g2 (fun z => by subst z; exact ⟨rfl, rfl⟩), key 3 _ _ g3 (fun z => by subst z; exact ⟨rfl, rfl⟩)⟩, h10⟩
theorem forD_ok {w : Nat} {y : Nat × Pl} (he : e ≤ tp.length) (hk : tkK tp e ≠ 0) (hw : w < 4) (h : forD tp π w e = .ok y) (hs : xOK π) : xOK y.2 ∧ e < y.1 ∧ y.1 ≤ tp.length := by
  unfold forD at h
  split at h
  · cases h
  · obtain ⟨q, h1, h⟩ := bd_in h
    cases h
    obtain ⟨a1, a2, a3, a4⟩ := frmD_ok (tkE_le he) (show frmD tp w (tkE tp e) = .ok (q.1, q.2) from h1)
    have := tkE_gte hk
    exact ⟨hs.for hw a4, by dsimp only; omega, a2⟩
theorem stmD_ok {y : Nat × Pl} (he : e ≤ tp.length) (h : stmD tp π e = .ok y) (hs : xOK π) : xOK y.2 ∧ e < y.1 ∧ y.1 ≤ tp.length := by
  unfold stmD at h
  split at h
  · rename_i c
    have g := tkE_gte (tp := tp) (e := e) (by rw [(isW_K c).1]; decide)
    unfold pthD at h
    split at h
    · cases h
    · rename_i c4
      obtain ⟨e2, h1, h⟩ := bd_in h
      obtain ⟨a1, a2, a3, a4⟩ := exN_ok h1 (tkE_le he)
      split at h
      · cases h
      · obtain ⟨e3, h2, h⟩ := bd_in h
        obtain ⟨-, -, b1, b2⟩ := exW_ok h2 a4
        obtain ⟨n, h3, h⟩ := bd_in h
        obtain ⟨d1, d2, d3⟩ := numD_ok h3 b2
        cases h
        exact ⟨hs.add (by omega) d1 ⟨tkW_pos (isNm_K a1).1, tkW_len, tkW_mem⟩, by dsimp only; omega, d3⟩
  split at h
  · rename_i c
    have g := tkE_gte (tp := tp) (e := e) (by rw [(isW_K c).1]; decide)
    unfold jonD at h
    obtain ⟨e2, h1, h⟩ := bd_in h
    obtain ⟨a1, a2, a3, a4⟩ := exN_ok h1 (tkE_le he)
    split at h
    · cases h
    · obtain ⟨e3, h2, h⟩ := bd_in h
      obtain ⟨-, -, b1, b2⟩ := exW_ok h2 a4
      obtain ⟨n, h3, h⟩ := bd_in h
      obtain ⟨d1, d2, d3⟩ := numD_ok h3 b2
      obtain ⟨e4, h4, h⟩ := bd_in h
      obtain ⟨-, -, f1, f2⟩ := exW_ok h4 d3
      obtain ⟨n2, h5, h⟩ := bd_in h
      obtain ⟨g1, g2, g3⟩ := numD_ok h5 f2
      cases h
      exact ⟨hs.jon ⟨d1.2, g1.2⟩, by dsimp only; omega, g3⟩
  split at h
  · rename_i c
    have g := tkE_gte (tp := tp) (e := e) (by rw [(isW_K c).1]; decide)
    unfold losD at h
    obtain ⟨n, h3, h⟩ := bd_in h
    obtain ⟨d1, d2, d3⟩ := numD_ok h3 (tkE_le he)
    cases h
    exact ⟨hs.loss d1.2, by dsimp only; omega, d3⟩
  split at h
  · rename_i c
    exact forD_ok he (by rw [(isW_K c).1]; decide) (by decide) h hs
  split at h
  · rename_i c
    exact forD_ok he (by rw [(isW_K c).1]; decide) (by decide) h hs
  split at h
  · rename_i c
    exact forD_ok he (by rw [(isW_K c).1]; decide) (by decide) h hs
  split at h
  · rename_i c
    exact forD_ok he (by rw [(isW_K c).1]; decide) (by decide) h hs
  · cases h
theorem lpT_ok : ∀ n e π π', e ≤ tp.length → xOK π → lpT tp n π e = .ok π' → xOK π'
  | 0, e, π, π', he, hs, h => by
    unfold lpT at h
    split at h
    · cases h; exact hs
    · cases h
  | n + 1, e, π, π', he, hs, h => by
    unfold lpT at h
    split at h
    · cases h; exact hs
    · obtain ⟨q, h1, h⟩ := bd_in h
      obtain ⟨a1, a2, a3⟩ := stmD_ok he h1 hs
      obtain ⟨e2, h2, h⟩ := bd_in h
      obtain ⟨-, -, b1, b2⟩ := exS_ok h2 a3
      exact lpT_ok n e2 _ π' b2 a1.num0 h
theorem txtD_ok {π' : Pl} (h : txtD tp = .ok π') : xOK π' := by
  unfold txtD at h
  obtain ⟨q, h1, h⟩ := bd_in h
  obtain ⟨a1, a2, a3, a4⟩ := strD_ok (Nat.zero_le _) h1
  obtain ⟨e2, h2, h⟩ := bd_in h
  obtain ⟨-, -, b1, b2⟩ := exS_ok h2 a3
  exact lpT_ok 39 e2 _ π' b2 a1.num0 h
theorem pnF_in {w : List Nat} : ∀ {n k p : Nat}, pnF π w n k = some p → k ≤ p ∧ p < k + n ∧ π.2.1 p = w
  | 0, k, p, h => by cases h
  | n + 1, k, p, h => by
    unfold pnF at h
    split at h
    · rename_i c; cases h; exact ⟨Nat.le_refl _, by omega, c⟩
    · obtain ⟨a, b, c⟩ := pnF_in h; exact ⟨by omega, by omega, c⟩
theorem pnS_in {w : List Nat} {p : Nat} (h : pnS π w = some p) : p < π.1 6 ∧ π.2.1 p = w := by
  obtain ⟨a, b, c⟩ := pnF_in h
  exact ⟨by omega, c⟩
theorem jonP_in {w : List Nat} {p : Nat} (h : jonP π w = some p) : pnS π w = some p ∧ p ≠ 0 ∧ π.2.2.2.1 p = none ∧ p < π.1 6 := by
  unfold jonP at h
  cases q : pnS π w with
  | none => rw [q] at h; cases h
  | some a =>
    rw [q] at h
    have h' : (if a = 0 ∨ (π.2.2.2.1 a).isSome then none else some a) = some p := h
    split at h'
    · cases h'
    · rename_i c
      cases h'
      refine ⟨rfl, fun z => c (Or.inl z), ?_, (pnS_in q).1⟩
      cases q2 : π.2.2.2.1 p with
      | none => rfl
      | some v => exact absurd (Or.inr (by rw [q2]; rfl)) c
end SO
