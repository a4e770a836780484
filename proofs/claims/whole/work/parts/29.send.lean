/-! the reference's tick: a path is picked, a segment is sent -/
def pick1 (π : Pl) (dl : Nat → Nat) (w : Wd) (but : Option Nat) (p : Nat) (best : Option (Nat × Int)) : Option (Nat × Int) :=
  if but = some p ∨ freS w p = false ∨ w.2.1 p 2 ≤ 1000 * flyS w p then best
  else
    let v : Int := match π.2.2.2.2 1 with
      | none => dl p
      | some ops => ev ops (faW w dl p)
    match best with
    | some (_, least) => if v < least then some (p, v) else best
    | none => some (p, v)
theorem pickS_eq {π : Pl} {dl : Nat → Nat} {w : Wd} {but : Option Nat} : pickS π dl w but = forN (π.1 6) (pick1 π dl w but) none := rfl
/-- a tick's own numbers, as the reference holds them -/
def TkR (f : FI) (g : FL) (B : Nat) (dr : Bool) (T : Tk) : Prop := f B 60 = bI dr ∧ f B 61 = nI T.2.1 ∧ f B 62 = nI T.2.2.1 ∧ f B 63 = bI T.2.2.2.1 ∧ g B 51 = lN T.2.2.2.2 ∧ T.2.2.2.2 < 2147483648 ∧ T.2.1 ≤ 1000
section C7
variable {l : Launch} {G : Gx} {d : Nat} {sh : Sh} {fR : FRt} {B v b win : Nat} {f : FI} {g : FL} {w : Wd} {m : List (Nat × Nat)} {π : Pl} {dl : Nat → Nat}
theorem FmM.congr {f f' : FI} {i : Nat} {ops : List Op} (h : FmM f B b i ops) (e : ∀ r k, r ≠ B + 31 → f' r k = f r k) : FmM f' B b i ops := by
  obtain ⟨a1, a2, c0, a3, a4, a5, a6⟩ := h
  refine ⟨by rw [e _ _ (by omega)]; exact a1, a2, c0, by rw [e _ _ (by omega)]; exact a3, by rw [e _ _ (by omega)]; exact a4, a5, fun j o hj => ?_⟩
  rw [e _ _ (by omega), e _ _ (by omega)]
  exact a6 j o hj
theorem PM.fm {i : Nat} {ops : List Op} (h : PM f B b π) (hi : i < 4) (ho : π.2.2.2.2 i = some ops) : FmM f B b i ops := by
  have := h.2.2.2.2.2.2.2.2.2.2 i hi
  rw [ho] at this
  exact this
theorem told0 {i : Nat} (c : bI (π.2.2.2.2 i).isSome = 0) : π.2.2.2.2 i = none := by
  cases h : π.2.2.2.2 i with
  | none => rfl
  | some o => rw [h] at c; exact absurd (show bI true = 0 from c) (by decide)
theorem told1 {i : Nat} (c : ¬ bI (π.2.2.2.2 i).isSome = 0) : ∃ ops, π.2.2.2.2 i = some ops := by
  cases h : π.2.2.2.2 i with
  | none => rw [h] at c; exact absurd rfl c
  | some o => exact ⟨o, rfl⟩
theorem TM.no31 {f f' : FI} (h : TM f B b π win dl) (e : ∀ r k, r ≠ B + 31 → f' r k = f r k) : TM f' B b π win dl := h.fr (v := 0) (fun r k z => e r k (fun q => z (by unfold tch; omega)))
theorem C_picked {K : Int32 → FI → FL → Prop} {but : Option Nat} (hs : StM sh fR B) (hv : v < 22) (hR : RM f B v w m) (hN : wN w) (hT : TM f B b π win dl) (hπ : πOK π) (hbut : ∀ p, but = some p → p < 4) (H : ∀ (f' : FI) (g' : FL), (∀ r k, r ≠ B + 31 → f' r k = f r k) → (∀ r k, r ≠ B + 30 → g' r k = g r k) → K (oI ((pickS π dl w but).map (fun x => x.1))) f' g') : Cl l G (d + 3) 0 0 mX12_picked [.ref B, .int (nI v), .int (oI but)] (sh, f, g, fR) (qi sh fR K) := by
  have h4 := hπ.2.2.2.2.2.1
  have loop : ∀ n k (f0 : FI) (g0 : FL) (y : Int64) (best : Option (Nat × Int)), n + k = π.1 6 → best = forN k (pick1 π dl w but) none → (∀ p x, best = some (p, x) → p < 4 ∧ y.toInt = x) → (∀ r k, r ≠ B + 31 → f0 r k = f r k) → (∀ r k, r ≠ B + 30 → g0 r k = g r k) → LpX12_picked_8 l G d (qi sh fR K) sh fR B f0 g0 (nI v) (oI but) (oI (best.map (fun x => x.1))) y (nI k) := by
    intro n
    induction n with
    | zero =>
      intro k f0 g0 y best hk hb hx e1 e2
      rw [Nat.zero_add] at hk
      have hT0 := hT.no31 e1
      have hb2 := hT0.1.2.1
      refine VX12_picked_8 hs ?_
      rw [hT0.1.1]
      simp (disch := omega) only [pk_mul, nI_add, clN]
      rw [hT0.1.2.2.2.2.2.2.2.1]
      refine ⟨inbN (by omega) (by decide), fun _ => ⟨_, _, _, rfl, rfl, ?_⟩, fun z => absurd (nI_le (by omega) (by omega)) z⟩
      rw [hk] at hb
      have := H f0 g0 e1 e2
      rw [pickS_eq, ← hb] at this
      exact this
    | succ n ih =>
      intro k f0 g0 y best hk hb hx e1 e2
      have hT0 := hT.no31 e1
      have hb2 := hT0.1.2.1
      have hR0 : RM f0 B v w m := hR.congr (fun j a b i => e1 _ _ (by omega))
      have hc := hN.2.1 k 2
      have hfl := flyS_le (p := k) hR
      have hd9 := hT.2.2.2.2 k
      have stay : pick1 π dl w but k best = best → ∀ (f1 : FI) (g1 : FL), (∀ r k, r ≠ B + 31 → f1 r k = f r k) → (∀ r k, r ≠ B + 30 → g1 r k = g r k) → LpX12_picked_118 l G d (qi sh fR K) sh fR B f1 g1 (nI v) (oI but) (oI (best.map (fun x => x.1))) y (nI k) := by
        intro e f1 g1 e3 e4
        refine VX12_picked_118 hs ?_
        rw [nI_add]
        refine ih (k + 1) f1 g1 y best (by omega) ?_ hx e3 e4
        show best = pick1 π dl w but k (forN k (pick1 π dl w but) none)
        rw [← hb, e]
      have st : ∀ (f1 : FI) (g1 : FL) (z : Int64) (vv : Int), z.toInt = vv → (pick1 π dl w but k best = (match best with
        | some (_, least) => if vv < least then some (k, vv) else best
        | none => some (k, vv))) → (∀ r k, r ≠ B + 31 → f1 r k = f r k) → (∀ r k, r ≠ B + 30 → g1 r k = g r k) → LpX12_picked_95 l G d (qi sh fR K) sh fR B f1 g1 (nI v) (oI but) (oI (best.map (fun x => x.1))) y (nI k) z := by
        intro f1 g1 z vv hz hp e3 e4
        have take : pick1 π dl w but k best = some (k, vv) → LpX12_picked_111 l G d (qi sh fR K) sh fR B f1 g1 (nI v) (oI but) (nI k) z := by
          intro e
          refine VX12_picked_111 hs ?_
          refine VX12_picked_118 hs ?_
          rw [nI_add]
          refine ih (k + 1) f1 g1 z (some (k, vv)) (by omega) ?_ (fun p x hpx => ?_) e3 e4
          · show _ = pick1 π dl w but k (forN k (pick1 π dl w but) none)
            rw [← hb, e]
          · cases hpx
            exact ⟨by omega, hz⟩
        refine VX12_picked_95 hs ?_
        cases hbest : best with
        | none =>
          rw [hbest] at hp
          rw [hbest] at take
          exact ⟨fun _ => take hp, fun q => absurd rfl q⟩
        | some q =>
          obtain ⟨q1, q2⟩ := q
          obtain ⟨x1, x2⟩ := hx q1 q2 hbest
          rw [hbest] at hp
          rw [hbest] at take stay
          dsimp only at hp
          refine ⟨fun q => absurd q (nI_m1 (n := q1) (by omega)), fun _ => ⟨fun c => ?_, fun c => ?_⟩⟩
          · have c' : vv < q2 := by rw [← hz, ← x2]; exact Int64.lt_iff_toInt_lt.mp c
            rw [if_pos c'] at hp
            exact take hp
          · have c' : ¬ vv < q2 := by rw [← hz, ← x2]; exact fun q => c (Int64.lt_iff_toInt_lt.mpr q)
            rw [if_neg c'] at hp
            exact stay hp f1 g1 e3 e4
      refine VX12_picked_8 hs ?_
      rw [hT0.1.1]
      simp (disch := omega) only [pk_mul, nI_add, clN]
      rw [hT0.1.2.2.2.2.2.2.2.1]
      refine ⟨inbN (by omega) (by decide), fun z => absurd z (nI_ge (by omega) (by omega)), fun _ => ⟨fun c1 => ?_, fun c1 => ?_⟩⟩
      · have z1 : but = some k := (oI_some (fun q hq => by have := hbut q hq; omega) (by omega)).mp c1.symm
        refine stay ?_ f0 g0 e1 e2
        unfold pick1
        rw [if_pos (Or.inl z1)]
      · have z1 : ¬ but = some k := fun z => c1 (by rw [z]; rfl)
        refine C_isFree hs hv hR0 hN (by omega) ⟨fun c2 => ?_, fun c2 => ?_⟩
        · refine stay ?_ f0 g0 e1 e2
          unfold pick1
          rw [if_pos (Or.inr (Or.inl (bI_0.mp c2)))]
        · have z2 : ¬ freS w k = false := fun z => c2 (bI_0.mpr z)
          refine C_flyingOn hs hv hR0.2.2.1 hN.2.2.1 (by omega) ?_
          rw [hR0.2.1 k 2 (by omega) (by decide), show List.countP (fun s => s.2.2.2.2.2.2.1 && s.1 == k) w.2.2.1 = flyS w k from rfl, pk_mul]
          refine ⟨inbN (by omega) (by decide), fun c3 => ⟨inbN (by omega) (by decide), fun z ez => ?_⟩, fun c3 => ?_⟩
          · have z3 : ¬ w.2.1 k 2 ≤ 1000 * flyS w k := by
              have := (nI_ltI (by omega) (by omega)).mp c3
              omega
            have hp1 : pick1 π dl w but k best = (match best with
                | some (_, least) => if (match π.2.2.2.2 1 with
                  | none => (dl k : Int)
                  | some ops => ev ops (faW w dl k)) < least then some (k, (match π.2.2.2.2 1 with
                  | none => (dl k : Int)
                  | some ops => ev ops (faW w dl k))) else best
                | none => some (k, (match π.2.2.2.2 1 with
                  | none => (dl k : Int)
                  | some ops => ev ops (faW w dl k)))) := by
              unfold pick1
              rw [if_neg (fun q => by rcases q with q | q | q; exact z1 q; exact z2 q; exact z3 q)]
            refine C_isTold hs hT0.1 (by decide) ⟨fun c4 => ?_, fun c4 => ?_⟩
            · have hn := told0 c4
              rw [hn] at hp1
              refine st f0 g0 z _ ?_ hp1 e1 e2
              rw [ez, hT0.2.2.1 k (by omega), nI_l (by omega), lN_toInt (by omega)]
            · obtain ⟨ops, ho⟩ := told1 c4
              rw [ho] at hp1
              refine C_lays hs hv hR0 hN hT0 (by omega) (fun f1 e3 q1 q2 q5 q6 q7 q8 => ?_)
              refine C_reckons hs (by decide) ((hT0.1.fm (by decide) ho).congr e3) (hπ.2.2.2.2.2.2.2.2.2.1 ops ho) (fa := faW w dl k) (fun j hj0 hj hal => ?_) (fun y2 g2 hy _ hg => st f1 g2 y2 _ hy hp1 (fun r i hr => by rw [e3 r i hr]; exact e1 r i hr) (fun r i hr => by rw [hg r i hr]; exact e2 r i hr))
              have t0 := hN.1 0 (by decide)
              unfold alP at hal
              simp only [Bool.or_eq_true, beq_iff_eq] at hal
              rcases hal with (((rfl | rfl) | rfl) | rfl) | rfl
              · rw [q1]; exact nI_r (by omega)
              · rw [q2]; exact nI_r (by omega)
              · rw [q5]; exact nI_r (by omega)
              · rw [q6]; exact nI_r (by omega)
              · rw [q7]; exact nI_r (by omega)
          · refine stay ?_ f0 g0 e1 e2
            unfold pick1
            rw [if_pos (Or.inr (Or.inr ?_))]
            exact Nat.not_lt.mp (fun z => c3 ((nI_ltI (by omega) (by omega)).mpr z))
  refine VX12_picked hs ?_
  exact loop (π.1 6) 0 f g (lN 0) none rfl rfl (fun p x h => by cases h) (fun _ _ _ => rfl) (fun _ _ _ => rfl)
theorem C_draw {K : Int32 → FI → FL → Prop} {x : Nat} (hs : StM sh fR B) (hg : g B 51 = lN x) (hx : x < 2147483648) (H : K (nI (drawS x / 64 % 100)) f (up2 g B 51 (lN (drawS x)))) : Cl l G d 0 0 mX12_draw [.ref B, .int (nI 100)] (sh, f, g, fR) (qi sh fR K) := by
  have h1 : 1103515245 * x + 12345 < 2 ^ 63 := by omega
  have h2 : drawS x < 2147483648 := Nat.mod_lt _ (by decide)
  refine VX12_draw hs ?_
  rw [hg, lN_mul, lN_add, pk_lRem h1 (by decide) (by decide), show (nI 100).toInt64 = lN 100 from nI_l (by decide)]
  show ¬ lN 100 = 0 ∧ qi sh fR K (some (.int ((lN (drawS x) / lN 64 - lN (drawS x) / lN 64 / lN 100 * lN 100).toInt32))) (sh, f, up2 g B 51 (lN (drawS x)), fR)
  rw [pk_lDiv (by omega) (by decide) (by decide), pk_lRem (by omega) (by decide) (by decide), lN_i]
  exact ⟨by decide, _, _, _, rfl, rfl, H⟩
/-- the cells of a new segment -/
theorem RM_send {p a c n : Nat} {s : Sg} (hv : v < 22) (hR : RM f B v w m) (hp : p < 4) (hn : n = w.2.2.1.length) (hl : n < 480) : RM (up2 (up2 (up2 (up2 (up2 (up2 (up2 (up2 (up2 (up2 (up2 (up2 f (B + 24) (8 * (480 * v + n) + 0) (sE s 0)) (B + 24) (8 * (480 * v + n) + 1) (sE s 1)) (B + 24) (8 * (480 * v + n) + 2) (sE s 2)) (B + 24) (8 * (480 * v + n) + 3) (sE s 3)) (B + 24) (8 * (480 * v + n) + 4) (sE s 4)) (B + 24) (8 * (480 * v + n) + 5) (sE s 5)) (B + 24) (8 * (480 * v + n) + 6) (sE s 6)) (B + 24) (8 * (480 * v + n) + 7) (sE s 7)) (B + 23) (40 * v + 14 + 6 * p + 5) (nI 0)) (B + 23) (40 * v + 14 + 6 * p + 4) (nI a)) (B + 23) (40 * v + 6) (nI (n + 1))) (B + 23) (40 * v + 5) (nI c)) B v (wsc (wpt (wpt (wsg w (w.2.2.1 ++ [s])) p 5 0) p 4 a) 5 c) m := by
  have h1 : RM (up2 (up2 (up2 (up2 (up2 (up2 (up2 (up2 f (B + 24) (8 * (480 * v + n) + 0) (sE s 0)) (B + 24) (8 * (480 * v + n) + 1) (sE s 1)) (B + 24) (8 * (480 * v + n) + 2) (sE s 2)) (B + 24) (8 * (480 * v + n) + 3) (sE s 3)) (B + 24) (8 * (480 * v + n) + 4) (sE s 4)) (B + 24) (8 * (480 * v + n) + 5) (sE s 5)) (B + 24) (8 * (480 * v + n) + 6) (sE s 6)) (B + 24) (8 * (480 * v + n) + 7) (sE s 7)) B v (wsg w w.2.2.1) m := by
    refine RM.repg hR (fun j a1 a2 a3 i hi => ?_) ⟨?_, hR.2.2.1.2.1, fun k q hk i hi => ?_⟩
    · rw [up2_r (by omega), up2_r (by omega), up2_r (by omega), up2_r (by omega), up2_r (by omega), up2_r (by omega), up2_r (by omega), up2_r (by omega)]
    · rw [up2_r (by omega), up2_r (by omega), up2_r (by omega), up2_r (by omega), up2_r (by omega), up2_r (by omega), up2_r (by omega), up2_r (by omega)]
      exact hR.2.2.1.1
    · have hlt := (List.getElem?_eq_some_iff.mp hk).1
      rw [up2_k (by omega), up2_k (by omega), up2_k (by omega), up2_k (by omega), up2_k (by omega), up2_k (by omega), up2_k (by omega), up2_k (by omega)]
      exact hR.2.2.1.2.2 k q hk i hi
  have h2 := (h1.setp (p := p) (i := 5) (x := 0) hp (by decide)).setp (p := p) (i := 4) (x := a) hp (by decide)
  refine RM.setn (w := wpt (wpt (wsg w (w.2.2.1 ++ [s])) p 5 0) p 4 a) ?_ (by unfold nset; omega)
  refine RM.repg (w := wpt (wpt (wsg w w.2.2.1) p 5 0) p 4 a) (l' := w.2.2.1 ++ [s]) h2 (fun j a1 a2 a3 i hi => ?_) ⟨?_, ?_, fun k q hk i hi => ?_⟩
  · rw [up2_ne (by omega)]
  · rw [up2_eq, List.length_append, List.length_singleton, hn]
  · rw [List.length_append, List.length_singleton]; omega
  · by_cases ek : k < w.2.2.1.length
    · rw [List.getElem?_append_left ek] at hk
      rw [up2_r (by omega)]
      exact h2.2.2.1.2.2 k q hk i hi
    · rw [List.getElem?_append_right (by omega)] at hk
      have e3 : k = n := by
        have := (List.getElem?_eq_some_iff.mp hk).1
        simp at this
        omega
      subst e3
      simp [hn] at hk
      subst hk
      rw [up2_r (by omega), up2_r (by omega), up2_r (by omega)]
      rcases (show i = 0 ∨ i = 1 ∨ i = 2 ∨ i = 3 ∨ i = 4 ∨ i = 5 ∨ i = 6 ∨ i = 7 by omega) with rfl | rfl | rfl | rfl | rfl | rfl | rfl | rfl
      · rw [up2_k (by omega), up2_k (by omega), up2_k (by omega), up2_k (by omega), up2_k (by omega), up2_k (by omega), up2_k (by omega)]
        exact up2_eq
      · rw [up2_k (by omega), up2_k (by omega), up2_k (by omega), up2_k (by omega), up2_k (by omega), up2_k (by omega)]
        exact up2_eq
      · rw [up2_k (by omega), up2_k (by omega), up2_k (by omega), up2_k (by omega), up2_k (by omega)]
        exact up2_eq
      · rw [up2_k (by omega), up2_k (by omega), up2_k (by omega), up2_k (by omega)]
        exact up2_eq
      · rw [up2_k (by omega), up2_k (by omega), up2_k (by omega)]
        exact up2_eq
      · rw [up2_k (by omega), up2_k (by omega)]
        exact up2_eq
      · rw [up2_k (by omega)]
        exact up2_eq
      · exact up2_eq
theorem TkR.fr {f f' : FI} {g g' : FL} {dr : Bool} {T : Tk} (h : TkR f g B dr T) (e : Fr B v f f') (e2 : ∀ r k, r ≠ B + 30 → g' r k = g r k) : TkR f' g' B dr T := by
  obtain ⟨k0, k1, k2, k3, k4, k5, k6⟩ := h
  exact ⟨by rw [e _ _ (by unfold tch; omega)]; exact k0, by rw [e _ _ (by unfold tch; omega)]; exact k1, by rw [e _ _ (by unfold tch; omega)]; exact k2, by rw [e _ _ (by unfold tch; omega)]; exact k3, by rw [e2 _ _ (by omega)]; exact k4, k5, k6⟩
theorem bI_of1 {x : Nat} (h : x ≤ 1) : nI x = bI (x == 1) := by
  rcases (show x = 0 ∨ x = 1 by omega) with rfl | rfl <;> rfl
theorem C_sends {K : FI → FL → Prop} {p frm many : Nat} {dr : Bool} {T : Tk} (hs : StM sh fR B) (hv : v < 22) (hR : RM f B v T.1 m) (hN : wN T.1) (hT : TM f B b π win dl) (hπ : πOK π) (hk : TkR f g B dr T) (hp : p < 4) (hf : frm ≤ 1000) (h5 : T.1.2.1 p 5 ≤ 1) (hl : T.1.2.2.1.length < 480) (hc : T.2.1 < 1000)
    (H : ∀ (f' : FI) (g' : FL), RM f' B v (sendS π dl dr T p frm many).1 m → TkR f' g' B dr (sendS π dl dr T p frm many) → FrS B v f f' → FrL B g g' → K f' g') : Cl l G (d + 3) 0 0 mX12_sends [.ref B, .int (nI v), .int (nI p), .int (nI frm), .int (nI many)] (sh, f, g, fR) (qv sh fR K) := by
  obtain ⟨k0, k1, k2, k3, k4, k5, k6⟩ := hk
  have hn4 := hN.2.1 p 4
  have ht0 := hN.1 0 (by decide)
  have hd9 := hT.2.2.2.2 p
  have hloss := hπ.2.2.2.2.1
  generalize hl0 : lostS π dl T.1 p frm = l0
  have hS : sendS π dl dr T p frm many = (wsc (wpt (wpt (wsg T.1 (T.1.2.2.1 ++ [(p, T.1.2.1 p 4, frm, many, T.1.1 0, (if l0 || (dr && decide ((if dr then drawS T.2.2.2.2 else T.2.2.2.2) / 64 % 100 < π.1 5)) then none else some (T.1.1 0 + dl p)), true, T.1.2.1 p 5 == 1)])) p 5 0) p 4 (T.1.2.1 p 4 + 1)) 5 (T.1.1 5 + many), T.2.1 + 1, (if dr && decide ((if dr then drawS T.2.2.2.2 else T.2.2.2.2) / 64 % 100 < π.1 5) then T.2.2.1 + 1 else T.2.2.1), (if T.2.1 = 0 then l0 else T.2.2.2.1), (if dr then drawS T.2.2.2.2 else T.2.2.2.2)) := by
    rw [← hl0]
    rfl
  have fin : ∀ (f3 : FI) (g3 : FL) (hit : Bool), hit = (dr && decide ((if dr then drawS T.2.2.2.2 else T.2.2.2.2) / 64 % 100 < π.1 5)) → (∀ r k, r ≠ B + 31 → ¬ (r = B ∧ (k = 61 ∨ k = 62 ∨ k = 63)) → f3 r k = f r k) → f3 B 61 = nI (T.2.1 + 1) → f3 B 62 = nI (if hit then T.2.2.1 + 1 else T.2.2.1) → f3 B 63 = bI (if T.2.1 = 0 then l0 else T.2.2.2.1) → FrL B g g3 → g3 B 51 = lN (if dr then drawS T.2.2.2.2 else T.2.2.2.2) → LpX12_sends_128 l G d (qv sh fR K) sh fR B f3 g3 (nI v) (nI p) (nI frm) (nI many) (nI T.1.2.2.1.length) (nI (T.1.2.1 p 4)) (bI (l0 || hit)) := by
    intro f3 g3 hit hh e1 e61 e62 e63 e2 e51
    have hR3 : RM f3 B v T.1 m := hR.congr (fun j a b i => e1 _ _ (by omega) (by omega))
    have hF3 : FrS B v f f3 := fun r k z => e1 r k (fun q => z (by unfold tchS tchQ tch; omega)) (fun q => z (by unfold tchS tchQ tch; omega))
    have t0 : f3 (B + 23) (40 * v + 0) = nI (T.1.1 0) := hR3.1 0 (by unfold nset; omega)
    have t5 : f3 (B + 23) (40 * v + 5) = nI (T.1.1 5) := hR3.1 5 (by unfold nset; omega)
    have tp5 : f3 (B + 23) (40 * v + 14 + 6 * p + 5) = bI (T.1.2.1 p 5 == 1) := by rw [hR3.2.1 p 5 hp (by decide)]; exact bI_of1 h5
    have t29 : f3 (B + 29) p = nI (dl p) := by rw [e1 _ _ (by omega) (by omega)]; exact hT.2.2.1 p hp
    rw [← hh] at hS
    have last : ∀ f4 : FI, RM f4 B v (sendS π dl dr T p frm many).1 m → (∀ r k, r ≠ B + 24 → r ≠ B + 23 → f4 r k = f3 r k) → Fr B v f3 f4 → K f4 g3 := by
      intro f4 h1 h2 h3
      refine H f4 g3 h1 ?_ (hF3.tr h3.s) e2
      rw [hS]
      refine ⟨?_, ?_, ?_, ?_, e51, ?_, ?_⟩
      · rw [h2 _ _ (by omega) (by omega), e1 _ _ (by omega) (by omega)]; exact k0
      · rw [h2 _ _ (by omega) (by omega)]; exact e61
      · rw [h2 _ _ (by omega) (by omega)]; exact e62
      · rw [h2 _ _ (by omega) (by omega)]; exact e63
      · show (if dr then drawS T.2.2.2.2 else T.2.2.2.2) < 2147483648
        split
        · exact Nat.mod_lt _ (by decide)
        · exact k5
      · show T.2.1 + 1 ≤ 1000
        omega
    refine VX12_sends_128 hs ?_
    simp (disch := omega) only [pk_mul, nI_add, clN]
    rw [t0, t29, tp5]
    refine ⟨inbN (by omega) (by decide), inbN (by omega) (by decide), inbN (by omega) (by decide), inbN (by omega) (by decide), inbN (by omega) (by decide), inbN (by omega) (by decide), fun c => ?_, fun c => ?_⟩
    · have z : (l0 || hit) = false := bI_0.mp c
      rw [z] at hS
      rw [up2_k (show ¬ 40 * v + 5 = 40 * v + 6 by omega), up2_k (show ¬ 40 * v + 5 = 40 * v + 14 + 6 * p + 4 by omega), up2_k (show ¬ 40 * v + 5 = 40 * v + 14 + 6 * p + 5 by omega), up2_r (show ¬ B + 23 = B + 24 by omega), up2_r (show ¬ B + 23 = B + 24 by omega), up2_r (show ¬ B + 23 = B + 24 by omega), up2_r (show ¬ B + 23 = B + 24 by omega), up2_r (show ¬ B + 23 = B + 24 by omega), up2_r (show ¬ B + 23 = B + 24 by omega), up2_r (show ¬ B + 23 = B + 24 by omega), up2_r (show ¬ B + 23 = B + 24 by omega), t5, nI_add, nI_add]
      refine ⟨inbN (by omega) (by decide), inbN (by omega) (by decide), inbN (by omega) (by decide), inbN (by omega) (by decide), inbN (by omega) (by decide), inbN (by omega) (by decide), inbN (by omega) (by decide), inbN (by omega) (by decide), inbN (by omega) (by decide), inbN (by omega) (by decide), inbN (by omega) (by decide), _, _, rfl, rfl, last _ ?_ ?_ ?_⟩
      · rw [hS]
        exact RM_send (s := (p, T.1.2.1 p 4, frm, many, T.1.1 0, some (T.1.1 0 + dl p), true, T.1.2.1 p 5 == 1)) hv hR3 hp rfl hl
      · intro r k z1 z2
        rw [up2_r z2, up2_r z2, up2_r z2, up2_r z2, up2_r z1, up2_r z1, up2_r z1, up2_r z1, up2_r z1, up2_r z1, up2_r z1, up2_r z1]
      · exact ((((((((((((Fr.rf.up (by unfold tch; omega)).up (by unfold tch; omega)).up (by unfold tch; omega)).up (by unfold tch; omega)).up (by unfold tch; omega)).up (by unfold tch; omega)).up (by unfold tch; omega)).up (by unfold tch; omega)).up (by unfold tch; omega)).up (by unfold tch; omega)).up (by unfold tch; omega)).up (by unfold tch; omega))
    · have z : (l0 || hit) = true := by
        cases hz : (l0 || hit) with
        | true => rfl
        | false => rw [hz] at c; exact absurd rfl c
      rw [z] at hS
      rw [up2_k (show ¬ 40 * v + 5 = 40 * v + 6 by omega), up2_k (show ¬ 40 * v + 5 = 40 * v + 14 + 6 * p + 4 by omega), up2_k (show ¬ 40 * v + 5 = 40 * v + 14 + 6 * p + 5 by omega), up2_r (show ¬ B + 23 = B + 24 by omega), up2_r (show ¬ B + 23 = B + 24 by omega), up2_r (show ¬ B + 23 = B + 24 by omega), up2_r (show ¬ B + 23 = B + 24 by omega), up2_r (show ¬ B + 23 = B + 24 by omega), up2_r (show ¬ B + 23 = B + 24 by omega), up2_r (show ¬ B + 23 = B + 24 by omega), up2_r (show ¬ B + 23 = B + 24 by omega), t5, nI_add]
      refine ⟨inbN (by omega) (by decide), inbN (by omega) (by decide), inbN (by omega) (by decide), inbN (by omega) (by decide), inbN (by omega) (by decide), inbN (by omega) (by decide), inbN (by omega) (by decide), inbN (by omega) (by decide), inbN (by omega) (by decide), _, _, rfl, rfl, last _ ?_ ?_ ?_⟩
      · rw [hS]
        exact RM_send (s := (p, T.1.2.1 p 4, frm, many, T.1.1 0, none, true, T.1.2.1 p 5 == 1)) hv hR3 hp rfl hl
      · intro r k z1 z2
        rw [up2_r z2, up2_r z2, up2_r z2, up2_r z2, up2_r z1, up2_r z1, up2_r z1, up2_r z1, up2_r z1, up2_r z1, up2_r z1, up2_r z1]
      · exact ((((((((((((Fr.rf.up (by unfold tch; omega)).up (by unfold tch; omega)).up (by unfold tch; omega)).up (by unfold tch; omega)).up (by unfold tch; omega)).up (by unfold tch; omega)).up (by unfold tch; omega)).up (by unfold tch; omega)).up (by unfold tch; omega)).up (by unfold tch; omega)).up (by unfold tch; omega)).up (by unfold tch; omega))
  have st80 : ∀ (f2 : FI) (g2 : FL), (∀ r k, r ≠ B + 31 → ¬ (r = B ∧ k = 63) → f2 r k = f r k) → (∀ r k, r ≠ B + 30 → g2 r k = g r k) → f2 B 63 = bI (if T.2.1 = 0 then l0 else T.2.2.2.1) → LpX12_sends_80 l G d (qv sh fR K) sh fR B f2 g2 (nI v) (nI p) (nI frm) (nI many) (nI T.1.2.2.1.length) (nI (T.1.2.1 p 4)) (bI l0) := by
    intro f2 g2 e1 e2 e63
    have b60 : f2 B 60 = bI dr := by rw [e1 _ _ (by omega) (by omega)]; exact k0
    have b61 : f2 B 61 = nI T.2.1 := by rw [e1 _ _ (by omega) (by omega)]; exact k1
    have b62 : f2 B 62 = nI T.2.2.1 := by rw [e1 _ _ (by omega) (by omega)]; exact k2
    have hT2 : TM f2 B b π win dl := hT.frS (v := v) (fun r k z => e1 r k (fun q => z (by unfold tchS tchQ tch; omega)) (fun q => z (by unfold tchS tchQ tch; omega)))
    have hb := hT.1.2.1
    have b13 : f2 B 13 = nI b := hT2.1.1
    have b10 : f2 (B + 10) b = nI (π.1 5) := hT2.1.2.2.2.2.2.2.1
    refine VX12_sends_80 hs ?_
    rw [b60, b61, nI_add]
    refine ⟨fun c => ?_, fun c => ?_⟩
    · have z := bI_0.mp c
      subst z
      have := fin (up2 f2 B 61 (nI (T.2.1 + 1))) g2 false rfl (fun r k z1 z2 => by rw [up2_ne (by omega)]; exact e1 r k z1 (by omega)) up2_eq (by rw [up2_k (by decide)]; exact b62) (by rw [up2_k (by decide)]; exact e63) (fun r k z1 z2 => e2 r k z1) (by rw [e2 _ _ (by omega)]; exact k4)
      rw [Bool.or_false] at this
      exact this
    · have z : dr = true := by
        cases hz : dr with
        | true => rfl
        | false => rw [hz] at c; exact absurd rfl c
      subst z
      have hd : drawS T.2.2.2.2 / 64 % 100 < 100 := Nat.mod_lt _ (by decide)
      refine C_draw hs (x := T.2.2.2.2) (by rw [e2 _ _ (by omega)]; exact k4) k5 ?_
      rw [up2_k (show ¬ 13 = 61 by decide), b13, clN (by omega), up2_r (show ¬ B + 10 = B by omega), b10, up2_k (show ¬ 62 = 61 by decide), b62, nI_add]
      refine ⟨inbN (by omega) (by decide), fun c2 => ?_, fun c2 => ?_⟩
      · have z2 : ¬ drawS T.2.2.2.2 / 64 % 100 < π.1 5 := by
          have := (nI_leI (by omega) (by omega)).mp c2
          omega
        have := fin (up2 f2 B 61 (nI (T.2.1 + 1))) (up2 g2 B 51 (lN (drawS T.2.2.2.2))) false (by simp [z2]) (fun r k z1 z2 => by rw [up2_ne (by omega)]; exact e1 r k z1 (by omega)) up2_eq (by rw [up2_k (by decide)]; exact b62) (by rw [up2_k (by decide)]; exact e63) (fun r k z1 z2 => by rw [up2_ne z2]; exact e2 r k z1) up2_eq
        rw [Bool.or_false] at this
        exact this
      · have z2 : drawS T.2.2.2.2 / 64 % 100 < π.1 5 := Nat.not_le.mp (fun q => c2 ((nI_leI (by omega) (by omega)).mpr q))
        have := fin (up2 (up2 f2 B 61 (nI (T.2.1 + 1))) B 62 (nI (T.2.2.1 + 1))) (up2 g2 B 51 (lN (drawS T.2.2.2.2))) true (by simp [z2]) (fun r k z1 z2 => by rw [up2_ne (by omega), up2_ne (by omega)]; exact e1 r k z1 (by omega)) (by rw [up2_k (by decide)]; exact up2_eq) up2_eq (by rw [up2_k (by decide), up2_k (by decide)]; exact e63) (fun r k z1 z2 => by rw [up2_ne z2]; exact e2 r k z1) up2_eq
        rw [Bool.or_true] at this
        exact this
  have st67 : ∀ (f1 : FI) (g1 : FL), (∀ r k, r ≠ B + 31 → f1 r k = f r k) → (∀ r k, r ≠ B + 30 → g1 r k = g r k) → LpX12_sends_67 l G d (qv sh fR K) sh fR B f1 g1 (nI v) (nI p) (nI frm) (nI many) (nI T.1.2.2.1.length) (nI (T.1.2.1 p 4)) (bI l0) := by
    intro f1 g1 e1 e2
    have b61 : f1 B 61 = nI T.2.1 := by rw [e1 _ _ (by omega)]; exact k1
    have b63 : f1 B 63 = bI T.2.2.2.1 := by rw [e1 _ _ (by omega)]; exact k3
    refine VX12_sends_67 hs ?_
    rw [b61]
    refine ⟨fun c => st80 f1 g1 (fun r k z1 _ => e1 r k z1) e2 ?_, fun c => ⟨bI_01 _, st80 _ g1 (fun r k z1 z2 => by rw [up2_ne z2]; exact e1 r k z1) e2 ?_⟩⟩
    · have z : ¬ T.2.1 = 0 := fun z => c (by rw [z]; rfl)
      rw [if_neg z]
      exact b63
    · have z : T.2.1 = 0 := (nI_eq (b := 0) (by omega) (by decide)).mp c
      rw [if_pos z]
      exact up2_eq
  refine VX12_sends hs ?_
  simp (disch := omega) only [pk_mul, nI_add, clN]
  refine ⟨inbN (by omega) (by decide), fun x hx => ⟨inbN (by omega) (by decide), fun y hy => ?_⟩⟩
  rw [hR.2.2.1.1] at hx
  rw [hR.2.1 p 4 hp (by decide)] at hy
  subst hx
  subst hy
  refine C_isTold hs hT.1 (by decide) ⟨fun c => ?_, fun c => ?_⟩
  · have hn := told0 c
    have : l0 = false := by
      rw [← hl0]
      unfold lostS
      rw [hn]
    subst this
    exact st67 f g (fun _ _ _ => rfl) (fun _ _ _ => rfl)
  · obtain ⟨ops, ho⟩ := told1 c
    refine C_lays hs hv hR hN hT hp (fun f1 e3 q1 q2 q5 q6 q7 q8 => ?_)
    refine C_reckons hs (by decide) (ops := ops) (b := b) (((hT.1.fm (by decide) ho).congr e3).congr (fun r k hr => by rw [up2_r hr, up2_r hr])) (hπ.2.2.2.2.2.2.2.2.1 ops ho) (fa := faD T.1 dl p frm) (fun j hj0 hj hal => ?_) (fun y g' hy hok hg => ?_)
    · unfold alD at hal
      simp only [Bool.or_eq_true, beq_iff_eq] at hal
      rcases hal with ((rfl | rfl) | rfl) | rfl
      · rw [up2_k (by decide), up2_k (by decide), q1]; exact nI_r (by omega)
      · rw [up2_k (by decide), up2_k (by decide), q2]; exact nI_r (by omega)
      · rw [up2_k (by decide), up2_eq]; exact nI_r (by omega)
      · rw [up2_eq]; exact nI_r (by omega)
    · have ee : ∀ r k, r ≠ B + 31 → (up2 (up2 f1 (B + 31) 3 (nI (T.1.2.1 p 4))) (B + 31) 4 (nI frm)) r k = f r k := fun r k hr => by rw [up2_r hr, up2_r hr]; exact e3 r k hr
      have hl1 : l0 = (ev ops (faD T.1 dl p frm) == 1) := by
        rw [← hl0]
        unfold lostS
        rw [ho]
      refine ⟨fun c2 => ?_, fun c2 => ?_⟩
      · have : l0 = false := by
          rw [hl1]
          rw [beq_eq_false_iff_ne]
          intro z
          exact c2 (Int64.toInt_inj.mp (by rw [hy, z]; decide))
        have q := st67 _ g' ee hg
        rw [this] at q
        exact q
      · have : l0 = true := by
          rw [hl1, beq_iff_eq, ← hy, c2]
          decide
        have q := st67 _ g' ee hg
        rw [this] at q
        exact q
end C7
