/-! the class' reader inside a formula: tokens, open signs, codes -/
def RS (f : FI) (A q : Nat) (tp : List Nat) (w o j : Nat) (r : Rf) : Prop := TS f A tp (rF r) ∧ f (A + 38) 8 = nI (10 + w) ∧ match r with
  | .ok x => f (A + 38) 9 = nI o ∧ o ≤ 8 ∧ FmC f q x.2 ∧ x.2.length + j ≤ x.1
  | .error _ => ∃ n, n ≤ 1600 ∧ f q 2 = nI n
def Fx (A q : Nat) (f f' : FI) : Prop := ∀ r k, r ≠ A + 38 → ¬ (r = q ∧ k = 2) → r ≠ q + 1 → f' r k = f r k
theorem Fx.rf {A q : Nat} {f : FI} : Fx A q f f := fun _ _ _ _ _ => rfl
theorem Fx.tr {A q : Nat} {f f' f'' : FI} (h : Fx A q f f') (h' : Fx A q f' f'') : Fx A q f f'' := fun r k a b c => (h' r k a b c).trans (h r k a b c)
theorem Ft.fx {A q : Nat} {f f' : FI} (h : Ft A f f') : Fx A q f f' := fun r k a b c => h r k (fun z => a z.1)
def ap (r : Rf) (D : Nat → Rf) : Rf := bd r (fun x => bd (D x.1) (fun y => .ok (y.1, x.2 ++ y.2)))
def RQ9 (sh : Sh) (fR : FRt) (A p q : Nat) : Prop := R9 sh fR A p q ∧ A + 4 ≤ q ∧ q + 3 ≤ A + 38
section RSS
variable {l : Launch} {G : Gx} {d : Nat} {sh : Sh} {fR : FRt} {A p q : Nat} {f f' : FI} {g : FL} {tp : List Nat} {w o j : Nat} {r : Rf}
theorem RS.er {o' j' : Nat} {x : Nat × Nat} (h : RS f A q tp w o j (.error x)) : RS f A q tp w o' j' (.error x) := h
theorem RS.wk {j' : Nat} (h : RS f A q tp w o j r) (hj : j' ≤ j) : RS f A q tp w o j' r := by
  cases r with
  | error x => exact h
  | ok x =>
    obtain ⟨h1, h2, h3, h4, h5, h6⟩ := h
    exact ⟨h1, h2, h3, h4, h5, by omega⟩
theorem FmC.ft {ops : List Op} (h : FmC f q ops) (e : Ft A f f') (hq : q ≠ A + 38) (hq2 : q + 1 ≠ A + 38) : FmC f' q ops := by
  obtain ⟨h1, h2, h3⟩ := h
  exact ⟨by rw [e _ _ (fun z => hq z.1)]; exact h1, h2, fun j o hj => by rw [e _ _ (fun z => hq2 z.1)]; exact h3 j o hj⟩
/-- a step on the tokens -/
theorem RS.tok {k : Nat → Rr Nat} (hR : RS f A q tp w o j r) (hq : A + 4 ≤ q ∧ q + 3 ≤ A + 38) (e : Ft A f f') (hT : TS f' A tp (bd (rF r) k)) {j' : Nat} (hk : ∀ x e', r = .ok x → k x.1 = .ok e' → x.2.length + j ≤ x.1 → x.2.length + j' ≤ e') : RS f' A q tp w o j' (bd r (fun x => bd (k x.1) (fun e' => .ok (e', x.2)))) := by
  obtain ⟨h1, h2, h3⟩ := hR
  have e8 : f' (A + 38) 8 = nI (10 + w) := by rw [e _ _ (by omega)]; exact h2
  cases r with
  | error x =>
    obtain ⟨n, n1, n2⟩ := h3
    exact ⟨hT, e8, n, n1, by rw [e _ _ (by omega)]; exact n2⟩
  | ok x =>
    obtain ⟨a1, a2, a3, a4⟩ := h3
    have hT' : TS f' A tp (k x.1) := hT
    show RS f' A q tp w o j' (bd (k x.1) (fun e' => .ok (e', x.2)))
    cases hx : k x.1 with
    | error y =>
      rw [hx] at hT'
      exact ⟨hT', e8, _, a3.2.1, by rw [e _ _ (by omega)]; exact a3.1⟩
    | ok e' =>
      rw [hx] at hT'
      exact ⟨hT', e8, by rw [e _ _ (by omega)]; exact a1, a2, a3.ft e (by omega) (by omega), hk x e' rfl hx a4⟩
theorem rF_ok {α β : Type} {r : Rr (α × β)} {e : α} (h : rF r = .ok e) : ∃ x, r = .ok x ∧ x.1 = e := by
  cases r with
  | error y => cases h
  | ok x => cases h; exact ⟨x, rfl, rfl⟩
theorem RS_adv {K : FI → FL → Prop} (h9 : RQ9 sh fR A p q) (hR : RS f A q tp w o j r) (hk : ∀ x, r = .ok x → tkK tp x.1 ≠ 0 ∧ tkK tp x.1 ≠ 4) (H : ∀ f', RS f' A q tp w o (j + 1) (bd r (fun x => .ok (tkE tp x.1, x.2))) → Fx A q f f' → K f' g) : Cl l G (d + 2) 0 0 mX9_advance [.ref (A + 38)] (sh, f, g, (up2 fR (A + 38) 7 (some q))) (qv sh (up2 fR (A + 38) 7 (some q)) K) := by
  refine K_advR h9.1 hR.1 (fun e he => ?_) (fun f' a1 a2 => H f' ?_ a1.ft.fx)
  · obtain ⟨x, rfl, rfl⟩ := rF_ok he
    exact hk x rfl
  · exact hR.tok (k := fun e => .ok (tkE tp e)) h9.2 a1.ft a2 (fun x e' hx hy hl => by
      cases hy
      have := tkE_gte (hk x hx).1
      omega)
theorem RS_exS {K : FI → FL → Prop} {c : Nat} (h9 : RQ9 sh fR A p q) (hR : RS f A q tp w o j r) (hc : c < 256) (H : ∀ f', RS f' A q tp w o (j + 1) (bd r (fun x => bd (exS tp c x.1) (fun e => .ok (e, x.2)))) → Fx A q f f' → K f' g) : Cl l G (d + 3) 0 0 mX9_expectSign [.ref (A + 38), .int (nI c)] (sh, f, g, (up2 fR (A + 38) 7 (some q))) (qv sh (up2 fR (A + 38) 7 (some q)) K) :=
  K_exSign h9.1 hR.1 hc (fun f' a1 a2 => H f' (hR.tok (k := exS tp c) h9.2 a1 a2 (fun x e' hx hy hl => by
    unfold exS at hy
    split at hy
    · rename_i c0
      cases hy
      have := tkE_gte (tp := tp) (e := x.1) (by rw [(isSg_K c0).1]; decide)
      omega
    · cases hy)) a1.fx)
theorem RS_bad {K : FI → FL → Prop} {j' : Nat} (h9 : RQ9 sh fR A p q) (hR : RS f A q tp w o j r) (H : ∀ f', RS f' A q tp w o j' (bd r (fun x => .error (bad tp x.1))) → Fx A q f f' → K f' g) : Cl l G (d + 1) 0 0 mX9_blameHere [.ref (A + 38)] (sh, f, g, (up2 fR (A + 38) 7 (some q))) (qv sh (up2 fR (A + 38) 7 (some q)) K) :=
  K_blameHere h9.1 hR.1 (fun f' a1 a2 => H f' (hR.tok (k := fun e => .error (bad tp e)) (j' := j') h9.2 a1 a2 (fun x e' hx hy hl => by cases hy)) a1.fx)
/-- the number of open signs is changed -/
theorem RS.o9 {v : Int32} {o' : Nat} (hR : RS f A q tp w o j r) (hq : A + 4 ≤ q ∧ q + 3 ≤ A + 38) (hv : ∀ x, r = .ok x → v = nI o' ∧ o' ≤ 8) : RS (up2 f (A + 38) 9 v) A q tp w o' j r := by
  obtain ⟨⟨hC, h1⟩, h2, h3⟩ := hR
  have hC' : CK (up2 f (A + 38) 9 v) A tp := by
    obtain ⟨c1, c2, c3, c4, c5⟩ := hC
    exact ⟨by rw [up2_k (by decide)]; exact c1, c2, fun k hk => by rw [up2_r (by omega)]; exact c3 k hk, c4, fun k o hk => by rw [up2_r (by omega)]; exact c5 k o hk⟩
  cases r with
  | error x =>
    obtain ⟨n, n1, n2⟩ := h3
    obtain ⟨e1, e2, e3, e4, e5, m, e6, e7⟩ := h1
    exact ⟨⟨hC', by rw [up2_k (by decide)]; exact e1, e2, e3, by rw [up2_k (by decide)]; exact e4, e5, m, e6, by rw [up2_k (by decide)]; exact e7⟩, by rw [up2_k (by decide)]; exact h2, n, n1, by rw [up2_r (by omega)]; exact n2⟩
  | ok x =>
    obtain ⟨e1, e2, t1, t2, t3, t4, t5, t6⟩ := h1
    obtain ⟨a1, a2, a3, a4⟩ := h3
    obtain ⟨v1, v2⟩ := hv x rfl
    refine ⟨⟨hC', by rw [up2_k (by decide)]; exact e1, e2, by rw [up2_k (by decide)]; exact t1, by rw [up2_k (by decide)]; exact t2, by rw [up2_k (by decide)]; exact t3, fun z => by rw [up2_k (by decide)]; exact t4 z, fun z => by rw [up2_k (by decide), up2_k (by decide)]; exact t5 z, fun z => by rw [up2_k (by decide)]; exact t6 z⟩, by rw [up2_k (by decide)]; exact h2, by rw [up2_eq]; exact v1, v2, ⟨by rw [up2_r (by omega)]; exact a3.1, a3.2.1, fun i op hi => by rw [up2_r (by omega)]; exact a3.2.2 i op hi⟩, a4⟩
theorem Fx.o9 {v : Int32} : Fx A q f (up2 f (A + 38) 9 v) := fun r k a b c => up2_r a
theorem RS.cls (hR : RS f A q tp w (o + 1) j r) (hq : A + 4 ≤ q ∧ q + 3 ≤ A + 38) : RS (up2 f (A + 38) 9 (f (A + 38) 9 - nI 1)) A q tp w o j r := by
  refine hR.o9 hq (fun x hx => ?_)
  subst hx
  obtain ⟨-, -, a1, a2, -⟩ := hR
  rw [a1, pk_sub (by omega)]
  exact ⟨rfl, by omega⟩
theorem RS_opn {K : FI → FL → Prop} (h9 : RQ9 sh fR A p q) (hR : RS f A q tp w o j r) (ho : o ≤ 7) (hk : ∀ x, r = .ok x → tkK tp x.1 ≠ 0 ∧ tkK tp x.1 ≠ 4) (H : ∀ f', RS f' A q tp w (o + 1) (j + 1) (bd r (fun x => bd (opn tp (7 - o) x.1) (fun e => .ok (e, x.2)))) → Fx A q f f' → K f' g) : Cl l G (d + 3) 0 0 mX9_openSign [.ref (A + 38)] (sh, f, g, (up2 fR (A + 38) 7 (some q))) (qv sh (up2 fR (A + 38) 7 (some q)) K) := by
  refine VX9_openSign h9.1.1 h9.1.2.1 h9.1.2.2.1 h9.1.2.2.2 ?_
  cases r with
  | error x =>
    refine ⟨fun c => RS_adv h9 (hR.o9 (o' := 0) h9.2 (fun x hx => by cases hx)) (fun x hx => by cases hx) (fun f' a1 a2 => ⟨_, _, rfl, rfl, H f' a1 (Fx.o9.tr a2)⟩), fun c => K_blame (k := 5) (pl := 0) h9.1 hR.1 (by decide) (fun e z => by cases z) (fun f' a1 a2 => ⟨_, _, rfl, rfl, H f' ?_ a1.fx⟩)⟩
    exact hR.tok (k := fun _ => .error (5, 0)) (j' := j + 1) h9.2 a1 a2 (fun x e' hx => by cases hx)
  | ok x =>
    have a1 := hR.2.2.1
    have hs := tkS_le hR.1.2.2.1
    have ht := hR.1.2.2.2.2.2.1
    have h16 := hR.1.len
    rw [a1, nI_ltI (by omega) (by decide)]
    refine ⟨fun c => ?_, fun c => ?_⟩
    · rw [nI_add]
      refine RS_adv h9 (hR.o9 (o' := o + 1) h9.2 (fun _ _ => ⟨rfl, by omega⟩)) hk (fun f' b1 b2 => ⟨_, _, rfl, rfl, H f' ?_ (Fx.o9.tr b2)⟩)
      show RS f' A q tp w (o + 1) (j + 1) (bd (opn tp (7 - o) x.1) (fun e => .ok (e, x.2)))
      unfold opn
      rw [if_neg (by omega)]
      exact b1
    · refine K_blame (k := 5) (pl := tkS tp x.1) h9.1 hR.1 (by decide) (fun e z => by cases z; exact ⟨ht, by have : x.1 ≤ tp.length := hR.1.2.2.1; omega⟩) (fun f' b1 b2 => ⟨_, _, rfl, rfl, H f' ?_ b1.fx⟩)
      have := hR.tok (k := fun e => .error (5, tkS tp e)) (j' := j + 1) h9.2 b1 b2 (fun x e' hx hy => by cases hy)
      show RS f' A q tp w (o + 1) (j + 1) (bd (opn tp (7 - o) x.1) (fun e => .ok (e, x.2)))
      unfold opn
      rw [if_pos (by omega)]
      exact this
theorem pk_code {a b : Nat} (ha : a < 64) (hb : b < 65536) : (nI a <<< (nI 16 &&& 31)) ||| nI b = nI (65536 * a + b) := by
  rw [pk_shlN (n := a) _ 16 (by decide) (by omega), pk_orN (by omega) (by omega)]
  have h := Nat.two_pow_add_eq_or_of_lt (show b < 2 ^ 16 by omega) a
  rw [Nat.mul_comm a, ← h]
/-- a code is put -/
theorem RS_put0 {K : FI → FL → Prop} {a1 a2 : Int32} {op : Op} (h9 : RQ9 sh fR A p q) (hR : RS f A q tp w o j r) (hl : ∀ x, r = .ok x → x.2.length < 1600) (hop : cS op < 64 ∧ cV op < 65536) (ha : ∀ x, r = .ok x → a1 = nI (cS op) ∧ a2 = nI (cV op)) (H : ∀ f', TS f' A tp (rF r) → f' (A + 38) 8 = nI (10 + w) → (match r with
  | .ok x => f' (A + 38) 9 = nI o ∧ o ≤ 8 ∧ FmC f' q (x.2 ++ [op])
  | .error _ => ∃ n, n ≤ 1600 ∧ f' q 2 = nI n) → Fx A q f f' → (∀ k, f' (A + 38) k = f (A + 38) k) → K f' g) : Cl l G d 0 0 mX3_put [.ref q, .int a1, .int a2] (sh, f, g, (up2 fR (A + 38) 7 (some q))) (qv sh (up2 fR (A + 38) 7 (some q)) K) := by
  have hq := h9.2
  have hF : StF sh (up2 fR (A + 38) 7 (some q)) q := ⟨h9.1.2.2.2.1, fun z hz => by
    rw [up2_r (by
      have hz2 : z ∈ [(0, 0, 1), (0, 1, 2)] := hz
      simp at hz2
      rcases hz2 with rfl | rfl <;> dsimp only <;> omega)]
    exact h9.1.2.2.2.2.1 z hz, h9.1.2.2.2.2.2⟩
  refine VX3_put hF ?_
  obtain ⟨⟨hC, h1⟩, h2, h3⟩ := hR
  have key : ∀ (n : Nat) (v : Int32), CK (up2 (up2 f (q + 1) n v) q 2 (nI (n + 1))) A tp ∧ (∀ k, up2 (up2 f (q + 1) n v) q 2 (nI (n + 1)) (A + 38) k = f (A + 38) k) ∧ Fx A q f (up2 (up2 f (q + 1) n v) q 2 (nI (n + 1))) := by
    intro n v
    obtain ⟨c1, c2, c3, c4, c5⟩ := hC
    refine ⟨⟨by rw [up2_r (by omega), up2_r (by omega)]; exact c1, c2, fun k hk => by rw [up2_r (by omega), up2_r (by omega)]; exact c3 k hk, c4, fun k o hk => by rw [up2_r (by omega), up2_r (by omega)]; exact c5 k o hk⟩, fun k => by rw [up2_r (by omega), up2_r (by omega)], fun r k a b c => by rw [up2_ne b, up2_r c]⟩
  cases r with
  | error x =>
    obtain ⟨n, n1, n2⟩ := h3
    rw [n2]
    refine ⟨fun c => ⟨_, _, rfl, rfl, H f ⟨hC, h1⟩ h2 ⟨n, n1, n2⟩ Fx.rf (fun _ => rfl)⟩, fun c => ?_⟩
    rw [nI_leI (by decide) (by omega)] at c
    refine ⟨inbN (by omega) (by decide), ⟨_, _, rfl, rfl, ?_⟩⟩
    rw [clN (by omega), nI_add]
    obtain ⟨k1, k2, k3⟩ := key n ((a1 <<< (nI 16 &&& 31)) ||| a2)
    obtain ⟨e1, e2, e3, e4, e5, m, e6, e7⟩ := h1
    exact H _ ⟨k1, by rw [k2]; exact e1, e2, e3, by rw [k2]; exact e4, e5, m, e6, by rw [k2]; exact e7⟩ (by rw [k2]; exact h2) ⟨n + 1, by omega, up2_eq⟩ k3 k2
  | ok x =>
    obtain ⟨b1, b2, ⟨m1, m2, m3⟩, b4⟩ := h3
    have hlx := hl x rfl
    obtain ⟨rfl, rfl⟩ := ha x rfl
    rw [m1]
    refine ⟨fun c => absurd c (nI_ge hlx (by decide)), fun c => ⟨inbN hlx (by decide), ⟨_, _, rfl, rfl, ?_⟩⟩⟩
    rw [clN (by omega), nI_add, pk_code hop.1 hop.2]
    obtain ⟨k1, k2, k3⟩ := key x.2.length (nI (65536 * cS op + cV op))
    obtain ⟨e1, e2, t1, t2, t3, t4, t5, t6⟩ := h1
    refine H _ ⟨k1, by rw [k2]; exact e1, e2, by rw [k2]; exact t1, by rw [k2]; exact t2, by rw [k2]; exact t3, fun z => by rw [k2]; exact t4 z, fun z => by rw [k2, k2]; exact t5 z, fun z => by rw [k2]; exact t6 z⟩ (by rw [k2]; exact h2) ⟨by rw [k2]; exact b1, b2, by rw [up2_eq, List.length_append, List.length_singleton], by rw [List.length_append, List.length_singleton]; omega, fun i oo hi => ?_⟩ k3 k2
    rw [up2_r (by omega)]
    by_cases hi2 : i < x.2.length
    · rw [up2_k (by omega)]
      rw [List.getElem?_append_left hi2] at hi
      exact m3 i oo hi
    · rw [List.getElem?_append_right (by omega)] at hi
      have : i = x.2.length := by
        have := (List.getElem?_eq_some_iff.mp hi).1
        simp at this
        omega
      subst this
      simp at hi
      subst hi
      exact up2_eq
theorem RS_put {K : FI → FL → Prop} {a1 a2 : Int32} {op : Op} (h9 : RQ9 sh fR A p q) (hR : RS f A q tp w o (j + 1) r) (hop : cS op < 64 ∧ cV op < 65536) (ha : ∀ x, r = .ok x → a1 = nI (cS op) ∧ a2 = nI (cV op)) (H : ∀ f', RS f' A q tp w o j (bd r (fun x => .ok (x.1, x.2 ++ [op]))) → Fx A q f f' → K f' g) : Cl l G d 0 0 mX3_put [.ref q, .int a1, .int a2] (sh, f, g, (up2 fR (A + 38) 7 (some q))) (qv sh (up2 fR (A + 38) 7 (some q)) K) := by
  have h16 := hR.1.len
  refine RS_put0 h9 hR (fun x hx => ?_) hop ha (fun f' b1 b2 b3 b4 _ => H f' ?_ b4)
  · subst hx
    have h1 : x.1 ≤ tp.length := hR.1.2.2.1
    have h2 := hR.2.2.2.2.2
    omega
  · cases r with
    | error x => exact ⟨b1, b2, b3⟩
    | ok x =>
      obtain ⟨c1, c2, c3⟩ := b3
      have h2 := hR.2.2.2.2.2
      exact ⟨b1, b2, c1, c2, c3, by show (x.2 ++ [op]).length + j ≤ x.1; rw [List.length_append, List.length_singleton]; omega⟩
end RSS
