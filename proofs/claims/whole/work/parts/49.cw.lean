/-! how the class holds a world: its cells by component -/
/-- which component a place of a world's cells belongs to (0: references; 11: facts; 12: a tick's own numbers) -/
def comp (j k : Nat) : Nat := match j with
  | 0 => if k < 8 then 0 else if k ≤ 12 then 1 else 12
  | 1 => 0
  | 2 => if k = 5 then 1 else if k = 4 then 8 else 10
  | 3 => 8
  | 4 => 1
  | 5 => 13
  | 6 => 13
  | 7 => 13
  | 8 => 13
  | 9 => 13
  | 10 => 13
  | 11 => 13
  | 12 => 13
  | 13 => 5
  | 14 => 7
  | 15 => 7
  | 16 => 7
  | 17 => 7
  | 18 => 7
  | 19 => 7
  | 20 => 6
  | 21 => 6
  | 22 => 6
  | 23 => 9
  | 24 => 9
  | 25 => 9
  | 26 => 9
  | 27 => 11
  | 28 => if k = 0 then 4 else if k = 5 then 3 else 2
  | 29 => if k = 0 then 4 else if k = 5 then 3 else 2
  | 30 => if k = 0 then 4 else if k = 5 then 3 else 2
  | 31 => if k = 0 then 4 else if k = 5 then 3 else 2
  | _ => 0
theorem comp_rt {p k : Nat} (hp : p < 4) : comp (28 + p) k = if k = 0 then 4 else if k = 5 then 3 else 2 := by
  rcases (show p = 0 ∨ p = 1 ∨ p = 2 ∨ p = 3 by omega) with rfl | rfl | rfl | rfl <;> rfl
/-- the places of component c are the same -/
def Sm (x : Nat) (f f' : FI) (c : Nat) : Prop := ∀ j k, j < 32 → comp j k = c → f' (x + j) k = f (x + j) k
theorem Sm.rf {x c : Nat} {f : FI} : Sm x f f c := fun _ _ _ _ => rfl
theorem Sm.tr {x c : Nat} {f f' f'' : FI} (h : Sm x f f' c) (h' : Sm x f' f'' c) : Sm x f f'' c := fun j k hj hc => (h' j k hj hc).trans (h j k hj hc)
theorem Sm.up {x c j0 k0 : Nat} {f f' : FI} {v : Int32} (h : Sm x f f' c) (hc : comp j0 k0 ≠ c) : Sm x f (up2 f' (x + j0) k0 v) c := fun j k hj e => by
  rw [up2_ne (fun z => hc (by rw [← e]; congr 1 <;> omega))]
  exact h j k hj e
theorem Sm.upo {x c r k0 : Nat} {f f' : FI} {v : Int32} (h : Sm x f f' c) (hr : r < x ∨ x + 32 ≤ r) : Sm x f (up2 f' r k0 v) c := fun j k hj e => by
  rw [up2_r (by omega)]
  exact h j k hj e
/-- all places are the same but those of the components in L -/
def Sx (L : List Nat) (x : Nat) (f f' : FI) : Prop := ∀ c, c ∉ L → Sm x f f' c
/-- .. and all other cells -/
def Oc (L : List Nat) (x : Nat) (f f' : FI) : Prop := Sx L x f f' ∧ ∀ r k, (r < x ∨ x + 32 ≤ r) → f' r k = f r k
theorem Oc.rf {L : List Nat} {x : Nat} {f : FI} : Oc L x f f := ⟨fun _ _ => Sm.rf, fun _ _ _ => rfl⟩
theorem Oc.tr {L : List Nat} {x : Nat} {f f' f'' : FI} (h : Oc L x f f') (h' : Oc L x f' f'') : Oc L x f f'' := ⟨fun c hc => (h.1 c hc).tr (h'.1 c hc), fun r k hr => (h'.2 r k hr).trans (h.2 r k hr)⟩
theorem Oc.mono {L L' : List Nat} {x : Nat} {f f' : FI} (h : Oc L x f f') (hL : ∀ c ∈ L, c ∈ L') : Oc L' x f f' := ⟨fun c hc => h.1 c (fun z => hc (hL c z)), h.2⟩
theorem Oc.up {L : List Nat} {x j0 k0 : Nat} {f f' : FI} {v : Int32} (h : Oc L x f f') (hj : j0 < 32) (hc : comp j0 k0 ∈ L) : Oc L x f (up2 f' (x + j0) k0 v) := ⟨fun c hc' => (h.1 c hc').up (fun z => hc' (by rw [← z]; exact hc)), fun r k hr => by rw [up2_r (by omega)]; exact h.2 r k hr⟩
theorem Sx.rf {L : List Nat} {x : Nat} {f : FI} : Sx L x f f := fun _ _ => Sm.rf
theorem Sx.tr {L : List Nat} {x : Nat} {f f' f'' : FI} (h : Sx L x f f') (h' : Sx L x f' f'') : Sx L x f f'' := fun c hc => (h c hc).tr (h' c hc)
theorem Sx.mono {L L' : List Nat} {x : Nat} {f f' : FI} (h : Sx L x f f') (hL : ∀ c ∈ L, c ∈ L') : Sx L' x f f' := fun c hc => h c (fun z => hc (hL c z))
theorem Sx.up {L : List Nat} {x j0 k0 : Nat} {f f' : FI} {v : Int32} (h : Sx L x f f') (hc : comp j0 k0 ∈ L) : Sx L x f (up2 f' (x + j0) k0 v) := fun c hc' => (h c hc').up (fun z => hc' (by rw [← z]; exact hc))
def cnr (i : Nat) : Nat := if i = 4 then 2 else if i < 10 then 0 else 4
def cnk (i : Nat) : Nat := if i = 4 then 5 else if i < 4 then i + 8 else if i = 5 then 12 else i - 10
def qk (i : Nat) : Nat := if i < 4 then i + 1 else i + 2
def arC (t : Int) (a : Option Nat) (y : Int32) : Prop := match a with
  | some a => y = nI a
  | none => y.toInt < t
def PWn (f : FI) (x : Nat) (s : Nat → Nat) : Prop := ∀ i, nset i → f (x + cnr i) (cnk i) = nI (s i)
def PWq (f : FI) (x : Nat) (pt : Nat → Nat → Nat) : Prop := ∀ p i, p < 4 → i < 6 → f (x + 28 + p) (qk i) = nI (pt p i)
def cntF (l : List Sg) (p : Nat) : Nat := l.countP (fun s => s.2.2.2.2.2.2.1 && s.1 == p)
def PWf (f : FI) (x : Nat) (l : List Sg) : Prop := ∀ p, p < 4 → f (x + 28 + p) 5 = nI (cntF l p)
def PWd (f : FI) (x n : Nat) (dl : Nat → Nat) : Prop := ∀ p, p < 4 → p < n → f (x + 28 + p) 0 = nI (dl p)
def sC1 (f : FI) (x : Nat) (t : Int) (k : Nat) (s : Sg) : Prop := f (x + 6) k = nI s.1 ∧ f (x + 7) k = nI s.2.1 ∧ f (x + 8) k = nI s.2.2.1 ∧ f (x + 9) k = nI s.2.2.2.1 ∧ f (x + 10) k = nI s.2.2.2.2.1 ∧ arC t s.2.2.2.2.2.1 (f (x + 11) k) ∧ f (x + 12) k = bI s.2.2.2.2.2.2.2 ∧ f (x + 13) k = bI s.2.2.2.2.2.2.1
def PWg (f : FI) (x : Nat) (t : Int) (l : List Sg) : Prop := f (x + 5) 8 = nI l.length ∧ l.length ≤ 500 ∧ ∀ (k : Nat) (s : Sg), l[k]? = some s → sC1 f x t k s
def PWp (f : FI) (x : Nat) (m : List (Nat × Nat)) : Prop := f (x + 20) 2 = nI m.length ∧ m.length ≤ 500 ∧ ∀ (k : Nat) (q : Nat × Nat), m[k]? = some q → f (x + 21) k = nI q.1 ∧ f (x + 22) k = nI q.2
def aC1 (f : FI) (x k : Nat) (a : An) : Prop := f (x + 15) k = nI a.1 ∧ f (x + 16) k = oI a.2.1 ∧ f (x + 17) k = nI a.2.2.1 ∧ f (x + 18) k = nI a.2.2.2.1 ∧ f (x + 19) k = nI a.2.2.2.2.1
def PWa (f : FI) (x : Nat) (l : List An) : Prop := f (x + 14) 5 = nI l.length ∧ l.length ≤ 500 ∧ ∀ (k : Nat) (a : An), l[k]? = some a → aC1 f x k a
def PWt (f : FI) (x : Nat) (n : Nat) (t : Nat → Bool) : Prop := (∀ b, b < 200 → f (x + 3) b = bI (t b)) ∧ f (x + 2) 4 = nI n
def kC1 (f : FI) (x k : Nat) (q : Kp) : Prop := f (x + 24) k = nI q.1 ∧ f (x + 25) k = nI q.2.1 ∧ f (x + 26) k = nI q.2.2
def PWk (f : FI) (x : Nat) (l : List Kp) : Prop := f (x + 23) 3 = nI l.length ∧ l.length ≤ 40 ∧ ∃ n : Nat, f (x + 23) 4 = nI n ∧ n < 40 ∧ ∀ (k : Nat) (q : Kp), l[k]? = some q → kC1 f x ((n + 40 - l.length + k) % 40) q
def PWo (f : FI) (x : Nat) (len win : Nat) : Prop := f (x + 2) 2 = nI len ∧ f (x + 2) 3 = nI win
section CO
variable {f f' : FI} {x : Nat}
theorem PWn.sm {s : Nat → Nat} (h : PWn f x s) (e : Sm x f f' 1) : PWn f' x s := fun i hi => by
  rw [e (cnr i) (cnk i) (by unfold cnr; (repeat' split) <;> omega) ?_]
  · exact h i hi
  · unfold nset at hi
    rcases (show i = 0 ∨ i = 1 ∨ i = 2 ∨ i = 3 ∨ i = 4 ∨ i = 5 ∨ i = 10 ∨ i = 11 ∨ i = 12 ∨ i = 13 by omega) with rfl | rfl | rfl | rfl | rfl | rfl | rfl | rfl | rfl | rfl <;> rfl
theorem PWq.sm {pt : Nat → Nat → Nat} (h : PWq f x pt) (e : Sm x f f' 2) : PWq f' x pt := fun p i hp hi => by
  rw [Nat.add_assoc, e (28 + p) (qk i) (by omega) ?_, ← Nat.add_assoc]
  · exact h p i hp hi
  · rw [comp_rt hp, if_neg (by unfold qk; split <;> omega), if_neg (by unfold qk; split <;> omega)]
theorem PWf.sm {l : List Sg} (h : PWf f x l) (e : Sm x f f' 3) : PWf f' x l := fun p hp => by
  rw [Nat.add_assoc, e (28 + p) 5 (by omega) (by rw [comp_rt hp]; rfl), ← Nat.add_assoc]
  exact h p hp
theorem PWd.sm {n : Nat} {dl : Nat → Nat} (h : PWd f x n dl) (e : Sm x f f' 4) : PWd f' x n dl := fun p hp hn => by
  rw [Nat.add_assoc, e (28 + p) 0 (by omega) (by rw [comp_rt hp]; rfl), ← Nat.add_assoc]
  exact h p hp hn
theorem sC1.sm {t : Int} {k : Nat} {s : Sg} (h : sC1 f x t k s) (e : Sm x f f' 13) (e5 : Sm x f f' 5) : sC1 f' x t k s := by
  obtain ⟨h1, h2, h3, h4, h5, h6, h7, h8⟩ := h
  refine ⟨?_, ?_, ?_, ?_, ?_, ?_, ?_, ?_⟩
  · rw [e 6 k (by decide) rfl]; exact h1
  · rw [e 7 k (by decide) rfl]; exact h2
  · rw [e 8 k (by decide) rfl]; exact h3
  · rw [e 9 k (by decide) rfl]; exact h4
  · rw [e 10 k (by decide) rfl]; exact h5
  · rw [e 11 k (by decide) rfl]; exact h6
  · rw [e 12 k (by decide) rfl]; exact h7
  · rw [e5 13 k (by decide) rfl]; exact h8
theorem sC1.cg {t : Int} {k k' : Nat} {s : Sg} (h : sC1 f x t k s) (e : ∀ j, 6 ≤ j → j ≤ 13 → f' (x + j) k' = f (x + j) k) : sC1 f' x t k' s := by
  obtain ⟨h1, h2, h3, h4, h5, h6, h7, h8⟩ := h
  refine ⟨?_, ?_, ?_, ?_, ?_, ?_, ?_, ?_⟩
  · rw [e 6 (by decide) (by decide)]; exact h1
  · rw [e 7 (by decide) (by decide)]; exact h2
  · rw [e 8 (by decide) (by decide)]; exact h3
  · rw [e 9 (by decide) (by decide)]; exact h4
  · rw [e 10 (by decide) (by decide)]; exact h5
  · rw [e 11 (by decide) (by decide)]; exact h6
  · rw [e 12 (by decide) (by decide)]; exact h7
  · rw [e 13 (by decide) (by decide)]; exact h8
theorem PWg.sm {t : Int} {l : List Sg} (h : PWg f x t l) (e : Sm x f f' 13) (e5 : Sm x f f' 5) : PWg f' x t l := ⟨by rw [e 5 8 (by decide) rfl]; exact h.1, h.2.1, fun k s hk => (h.2.2 k s hk).sm e e5⟩
theorem PWp.sm {m : List (Nat × Nat)} (h : PWp f x m) (e : Sm x f f' 6) : PWp f' x m := ⟨by rw [e 20 2 (by decide) rfl]; exact h.1, h.2.1, fun k q hk => ⟨by rw [e 21 k (by decide) rfl]; exact (h.2.2 k q hk).1, by rw [e 22 k (by decide) rfl]; exact (h.2.2 k q hk).2⟩⟩
theorem aC1.sm {k : Nat} {a : An} (h : aC1 f x k a) (e : Sm x f f' 7) : aC1 f' x k a := by
  obtain ⟨h1, h2, h3, h4, h5⟩ := h
  refine ⟨?_, ?_, ?_, ?_, ?_⟩
  · rw [e 15 k (by decide) rfl]; exact h1
  · rw [e 16 k (by decide) rfl]; exact h2
  · rw [e 17 k (by decide) rfl]; exact h3
  · rw [e 18 k (by decide) rfl]; exact h4
  · rw [e 19 k (by decide) rfl]; exact h5
theorem aC1.cg {k k' : Nat} {a : An} (h : aC1 f x k a) (e : ∀ j, 15 ≤ j → j ≤ 19 → f' (x + j) k' = f (x + j) k) : aC1 f' x k' a := by
  obtain ⟨h1, h2, h3, h4, h5⟩ := h
  refine ⟨?_, ?_, ?_, ?_, ?_⟩
  · rw [e 15 (by decide) (by decide)]; exact h1
  · rw [e 16 (by decide) (by decide)]; exact h2
  · rw [e 17 (by decide) (by decide)]; exact h3
  · rw [e 18 (by decide) (by decide)]; exact h4
  · rw [e 19 (by decide) (by decide)]; exact h5
theorem PWa.sm {l : List An} (h : PWa f x l) (e : Sm x f f' 7) : PWa f' x l := ⟨by rw [e 14 5 (by decide) rfl]; exact h.1, h.2.1, fun k s hk => (h.2.2 k s hk).sm e⟩
theorem PWt.sm {n : Nat} {t : Nat → Bool} (h : PWt f x n t) (e : Sm x f f' 8) : PWt f' x n t := ⟨fun b hb => by rw [e 3 b (by decide) rfl]; exact h.1 b hb, by rw [e 2 4 (by decide) rfl]; exact h.2⟩
theorem kC1.sm {k : Nat} {q : Kp} (h : kC1 f x k q) (e : Sm x f f' 9) : kC1 f' x k q := by
  obtain ⟨h1, h2, h3⟩ := h
  refine ⟨?_, ?_, ?_⟩
  · rw [e 24 k (by decide) rfl]; exact h1
  · rw [e 25 k (by decide) rfl]; exact h2
  · rw [e 26 k (by decide) rfl]; exact h3
theorem PWk.sm {l : List Kp} (h : PWk f x l) (e : Sm x f f' 9) : PWk f' x l := by
  obtain ⟨h1, h2, n, h3, h4, h5⟩ := h
  exact ⟨by rw [e 23 3 (by decide) rfl]; exact h1, h2, n, by rw [e 23 4 (by decide) rfl]; exact h3, h4, fun k q hk => (h5 k q hk).sm e⟩
theorem PWo.sm {len win : Nat} (h : PWo f x len win) (e : Sm x f f' 10) : PWo f' x len win := ⟨by rw [e 2 2 (by decide) rfl]; exact h.1, by rw [e 2 3 (by decide) rfl]; exact h.2⟩
end CO
/-- the world w at x: pieces m, answers la; t: what neither flies on nor arrives has a tick below it -/
def CW (f : FI) (x : Nat) (π : Pl) (win : Nat) (dl : Nat → Nat) (t : Int) (w : Wd) (m : List (Nat × Nat)) (la : List An) : Prop := PWn f x w.1 ∧ PWq f x w.2.1 ∧ PWf f x w.2.2.1 ∧ PWd f x (π.1 6) dl ∧ PWg f x t w.2.2.1 ∧ PWp f x m ∧ PWa f x la ∧ PWt f x (takenS π w) w.2.2.2.2.2.1 ∧ PWk f x w.2.2.2.2.2.2 ∧ PWo f x (π.1 1) win
section CO2
variable {f f' : FI} {x win : Nat} {π : Pl} {dl : Nat → Nat} {t : Int} {w : Wd} {m : List (Nat × Nat)} {la : List An}
/-- nothing of it is written -/
theorem CW.sm (h : CW f x π win dl t w m la) (e : Sx [11, 12] x f f') : CW f' x π win dl t w m la := by
  obtain ⟨h1, h2, h3, h4, h5, h6, h7, h8, h9, h10⟩ := h
  exact ⟨h1.sm (e 1 (by decide)), h2.sm (e 2 (by decide)), h3.sm (e 3 (by decide)), h4.sm (e 4 (by decide)), h5.sm (e 13 (by decide)) (e 5 (by decide)), h6.sm (e 6 (by decide)), h7.sm (e 7 (by decide)), h8.sm (e 8 (by decide)), h9.sm (e 9 (by decide)), h10.sm (e 10 (by decide))⟩
theorem cn_comp {i : Nat} (hi : nset i) : comp (cnr i) (cnk i) = 1 ∧ cnr i < 32 := by
  unfold nset at hi
  rcases (show i = 0 ∨ i = 1 ∨ i = 2 ∨ i = 3 ∨ i = 4 ∨ i = 5 ∨ i = 10 ∨ i = 11 ∨ i = 12 ∨ i = 13 by omega) with rfl | rfl | rfl | rfl | rfl | rfl | rfl | rfl | rfl | rfl <;> exact ⟨rfl, by decide⟩
theorem cn_inj {i j : Nat} (hi : nset i) (hj : nset j) (e : cnr i = cnr j ∧ cnk i = cnk j) : i = j := by
  unfold nset at hi hj
  unfold cnr cnk at e
  obtain ⟨e1, e2⟩ := e
  rcases (show i = 0 ∨ i = 1 ∨ i = 2 ∨ i = 3 ∨ i = 4 ∨ i = 5 ∨ i = 10 ∨ i = 11 ∨ i = 12 ∨ i = 13 by omega) with rfl | rfl | rfl | rfl | rfl | rfl | rfl | rfl | rfl | rfl <;>
  rcases (show j = 0 ∨ j = 1 ∨ j = 2 ∨ j = 3 ∨ j = 4 ∨ j = 5 ∨ j = 10 ∨ j = 11 ∨ j = 12 ∨ j = 13 by omega) with rfl | rfl | rfl | rfl | rfl | rfl | rfl | rfl | rfl | rfl <;> first | rfl | (simp at e1; done) | (simp at e2; done)
theorem takenS_sc {i v : Nat} : takenS π (wsc w i v) = takenS π w := rfl
/-- a number is written -/
theorem CW.setn {i v : Nat} (h : CW f x π win dl t w m la) (hi : nset i) : CW (up2 f (x + cnr i) (cnk i) (nI v)) x π win dl t (wsc w i v) m la := by
  obtain ⟨h1, h2, h3, h4, h5, h6, h7, h8, h9, h10⟩ := h
  have e : ∀ c, c ≠ 1 → Sm x f (up2 f (x + cnr i) (cnk i) (nI v)) c := fun c hc => Sm.rf.up (by rw [(cn_comp hi).1]; exact fun z => hc z.symm)
  refine ⟨fun j hj => ?_, h2.sm (e 2 (by decide)), h3.sm (e 3 (by decide)), h4.sm (e 4 (by decide)), h5.sm (e 13 (by decide)) (e 5 (by decide)), h6.sm (e 6 (by decide)), h7.sm (e 7 (by decide)), h8.sm (e 8 (by decide)), h9.sm (e 9 (by decide)), h10.sm (e 10 (by decide))⟩
  show _ = nI (fu w.1 i v j)
  unfold fu
  by_cases ej : j = i
  · subst ej
    rw [up2_eq, if_pos rfl]
  · rw [if_neg ej, up2_ne (fun z => ej (cn_inj hj hi ⟨by omega, z.2⟩))]
    exact h1 j hj
/-- a path's number is written -/
theorem CW.setp {p i v : Nat} (h : CW f x π win dl t w m la) (hp : p < 4) (hi : i < 6) : CW (up2 f (x + 28 + p) (qk i) (nI v)) x π win dl t (wpt w p i v) m la := by
  obtain ⟨h1, h2, h3, h4, h5, h6, h7, h8, h9, h10⟩ := h
  have e : ∀ c, c ≠ 2 → Sm x f (up2 f (x + 28 + p) (qk i) (nI v)) c := fun c hc => by
    rw [Nat.add_assoc]
    refine Sm.rf.up ?_
    rw [comp_rt hp, if_neg (by unfold qk; split <;> omega), if_neg (by unfold qk; split <;> omega)]
    exact fun z => hc z.symm
  refine ⟨h1.sm (e 1 (by decide)), fun q j hq hj => ?_, h3.sm (e 3 (by decide)), h4.sm (e 4 (by decide)), h5.sm (e 13 (by decide)) (e 5 (by decide)), h6.sm (e 6 (by decide)), h7.sm (e 7 (by decide)), h8.sm (e 8 (by decide)), h9.sm (e 9 (by decide)), h10.sm (e 10 (by decide))⟩
  show _ = nI (up2 w.2.1 p i v q j)
  by_cases ej : q = p ∧ j = i
  · rw [ej.1, ej.2, up2_eq, up2_eq]
  · rw [up2_ne (r' := q) (k' := j) ej, up2_ne (fun z => ej ⟨by omega, by have := z.2; unfold qk at this; split at this <;> split at this <;> omega⟩)]
    exact h2 q j hq hj
theorem CW.repg {l' : List Sg} (h : CW f x π win dl t w m la) (e : Sx [3, 5, 13, 11, 12] x f f') (hf : PWf f' x l') (hg : PWg f' x t l') : CW f' x π win dl t (wsg w l') m la := by
  obtain ⟨h1, h2, h3, h4, h5, h6, h7, h8, h9, h10⟩ := h
  exact ⟨h1.sm (e 1 (by decide)), h2.sm (e 2 (by decide)), hf, h4.sm (e 4 (by decide)), hg, h6.sm (e 6 (by decide)), h7.sm (e 7 (by decide)), h8.sm (e 8 (by decide)), h9.sm (e 9 (by decide)), h10.sm (e 10 (by decide))⟩
theorem CW.repp {m' : List (Nat × Nat)} (h : CW f x π win dl t w m la) (e : Sx [6, 11, 12] x f f') (hp : PWp f' x m') : CW f' x π win dl t w m' la := by
  obtain ⟨h1, h2, h3, h4, h5, h6, h7, h8, h9, h10⟩ := h
  exact ⟨h1.sm (e 1 (by decide)), h2.sm (e 2 (by decide)), h3.sm (e 3 (by decide)), h4.sm (e 4 (by decide)), h5.sm (e 13 (by decide)) (e 5 (by decide)), hp, h7.sm (e 7 (by decide)), h8.sm (e 8 (by decide)), h9.sm (e 9 (by decide)), h10.sm (e 10 (by decide))⟩
theorem CW.repa {la' : List An} (h : CW f x π win dl t w m la) (e : Sx [7, 11, 12] x f f') (hp : PWa f' x la') : CW f' x π win dl t w m la' := by
  obtain ⟨h1, h2, h3, h4, h5, h6, h7, h8, h9, h10⟩ := h
  exact ⟨h1.sm (e 1 (by decide)), h2.sm (e 2 (by decide)), h3.sm (e 3 (by decide)), h4.sm (e 4 (by decide)), h5.sm (e 13 (by decide)) (e 5 (by decide)), h6.sm (e 6 (by decide)), hp, h8.sm (e 8 (by decide)), h9.sm (e 9 (by decide)), h10.sm (e 10 (by decide))⟩
theorem CW.repk {l' : List Kp} (h : CW f x π win dl t w m la) (e : Sx [9, 11, 12] x f f') (hp : PWk f' x l') : CW f' x π win dl t (wkp w l') m la := by
  obtain ⟨h1, h2, h3, h4, h5, h6, h7, h8, h9, h10⟩ := h
  exact ⟨h1.sm (e 1 (by decide)), h2.sm (e 2 (by decide)), h3.sm (e 3 (by decide)), h4.sm (e 4 (by decide)), h5.sm (e 13 (by decide)) (e 5 (by decide)), h6.sm (e 6 (by decide)), h7.sm (e 7 (by decide)), h8.sm (e 8 (by decide)), hp, h10.sm (e 10 (by decide))⟩
theorem CW.rept {t' : Nat → Bool} (h : CW f x π win dl t w m la) (e : Sx [8, 11, 12] x f f') (hp : PWt f' x (takenS π (wtk w t')) t') : CW f' x π win dl t (wtk w t') m la := by
  obtain ⟨h1, h2, h3, h4, h5, h6, h7, h8, h9, h10⟩ := h
  exact ⟨h1.sm (e 1 (by decide)), h2.sm (e 2 (by decide)), h3.sm (e 3 (by decide)), h4.sm (e 4 (by decide)), h5.sm (e 13 (by decide)) (e 5 (by decide)), h6.sm (e 6 (by decide)), h7.sm (e 7 (by decide)), hp, h9.sm (e 9 (by decide)), h10.sm (e 10 (by decide))⟩
theorem CW.repo {win' : Nat} (h : CW f x π win dl t w m la) (e : Sx [10, 11, 12] x f f') (hp : PWo f' x (π.1 1) win') : CW f' x π win' dl t w m la := by
  obtain ⟨h1, h2, h3, h4, h5, h6, h7, h8, h9, h10⟩ := h
  exact ⟨h1.sm (e 1 (by decide)), h2.sm (e 2 (by decide)), h3.sm (e 3 (by decide)), h4.sm (e 4 (by decide)), h5.sm (e 13 (by decide)) (e 5 (by decide)), h6.sm (e 6 (by decide)), h7.sm (e 7 (by decide)), h8.sm (e 8 (by decide)), h9.sm (e 9 (by decide)), hp⟩
theorem CW.repd {dl' : Nat → Nat} (h : CW f x π win dl t w m la) (e : Sx [4, 11, 12] x f f') (hp : PWd f' x (π.1 6) dl') : CW f' x π win dl' t w m la := by
  obtain ⟨h1, h2, h3, h4, h5, h6, h7, h8, h9, h10⟩ := h
  exact ⟨h1.sm (e 1 (by decide)), h2.sm (e 2 (by decide)), h3.sm (e 3 (by decide)), hp, h5.sm (e 13 (by decide)) (e 5 (by decide)), h6.sm (e 6 (by decide)), h7.sm (e 7 (by decide)), h8.sm (e 8 (by decide)), h9.sm (e 9 (by decide)), h10.sm (e 10 (by decide))⟩
end CO2
/-! the plan -/
def CPj (f : FI) (p k : Nat) (j : Option (Nat × Nat)) : Prop := match j with
  | none => f (p + 3) k = -1
  | some (t, tok) => f (p + 3) k = nI t ∧ f (p + 4) k = nI tok
def CPf (f : FI) (q : Nat) (o : Option (List Op)) : Prop := match o with
  | none => f q 2 = nI 0
  | some ops => FmC f q ops
/-- the plan at p -/
def CP (f : FI) (p : Nat) (π : Pl) : Prop := (∀ i, i < 7 → f p i = nI (π.1 i)) ∧ (∀ k, k < π.1 6 → f (p + 2) k = nI (π.2.2.1 k)) ∧ (∀ k, k < π.1 6 → CPj f p k (π.2.2.2.1 k)) ∧ ∀ i, i < 4 → CPf f (p + 5 + 3 * i) (π.2.2.2.2 i)
/-- what may change: a world's cells, the stacks of the formulas -/
def FrW (x p : Nat) (f f' : FI) : Prop := ∀ r k, (r < x ∨ x + 32 ≤ r) → r ≠ p + 7 → r ≠ p + 10 → r ≠ p + 13 → r ≠ p + 16 → f' r k = f r k
theorem FrW.rf {x p : Nat} {f : FI} : FrW x p f f := fun _ _ _ _ _ _ _ => rfl
theorem FrW.tr {x p : Nat} {f f' f'' : FI} (h : FrW x p f f') (h' : FrW x p f' f'') : FrW x p f f'' := fun r k a b c d e => (h' r k a b c d e).trans (h r k a b c d e)
theorem FrW.up {x p j k : Nat} {f f' : FI} {v : Int32} (h : FrW x p f f') (hj : j < 32) : FrW x p f (up2 f' (x + j) k v) := fun r k a b c d e => by
  rw [up2_r (by omega)]
  exact h r k a b c d e
theorem CP.fr {x p : Nat} {f f' : FI} {π : Pl} (h : CP f p π) (hpx : p + 17 ≤ x) (e : FrW x p f f') : CP f' p π := by
  obtain ⟨h1, h2, h3, h4⟩ := h
  have e' : ∀ j k, j < 17 → j ≠ 7 → j ≠ 10 → j ≠ 13 → j ≠ 16 → f' (p + j) k = f (p + j) k := fun j k a b c d g => e _ _ (by omega) (by omega) (by omega) (by omega) (by omega)
  refine ⟨fun i hi => by rw [← Nat.add_zero p, e' 0 i (by decide) (by decide) (by decide) (by decide) (by decide)]; exact h1 i hi, fun k hk => by rw [e' 2 k (by decide) (by decide) (by decide) (by decide) (by decide)]; exact h2 k hk, fun k hk => ?_, fun i hi => ?_⟩
  · have := h3 k hk
    unfold CPj at this ⊢
    split at this
    · rw [e' 3 k (by decide) (by decide) (by decide) (by decide) (by decide)]; exact this
    · rw [e' 3 k (by decide) (by decide) (by decide) (by decide) (by decide), e' 4 k (by decide) (by decide) (by decide) (by decide) (by decide)]; exact this
  · have := h4 i hi
    unfold CPf at this ⊢
    split at this
    · rw [Nat.add_assoc, e' (5 + 3 * i) 2 (by omega) (by omega) (by omega) (by omega) (by omega), ← Nat.add_assoc]; exact this
    · refine this.congr (fun k => ?_) (fun k => ?_)
      · rw [Nat.add_assoc, e' (5 + 3 * i) k (by omega) (by omega) (by omega) (by omega) (by omega)]
      · rw [Nat.add_assoc, Nat.add_assoc, e' (5 + (3 * i + 1)) k (by omega) (by omega) (by omega) (by omega) (by omega)]
