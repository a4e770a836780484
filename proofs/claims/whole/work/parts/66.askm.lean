/-! the reference's calls: counts, paths, segments -/
section MB
variable {l : Launch} {G : Gx} {d : Nat} {sh : Sh} {fR : FRt} {B b v : Nat} {f : FI} {g : FL} {Z : Zs} {π : Pl} {w : Wd} {m : List (Nat × Nat)}
theorem C_taken {K : Int32 → FI → FL → Prop} (hs : StM sh fR B) (hv : v < 22) (ht : RMt f B v w.2.2.2.2.2.1) (hb : b < 2) (h13 : f B 13 = nI b) (h2 : f (B + 2) b = nI (π.1 1)) (h200 : π.1 1 ≤ 200) (H : K (nI (takenS π w)) f g) : Cl l G d 0 0 mX12_takenAll [.ref B, .int (nI v)] (sh, f, g, fR) (qi sh fR K) := by
  refine VX12_takenAll hs ?_
  have loop : ∀ n k, n + k = π.1 1 → LpX12_takenAll_4 l G d (qi sh fR K) sh fR B f g (nI v) (nI (forN k (fun b n => if w.2.2.2.2.2.1 b then n + 1 else n) 0)) (nI k) := by
    intro n
    induction n with
    | zero =>
      intro k hk
      rw [Nat.zero_add] at hk
      subst hk
      refine VX12_takenAll_4 hs ?_
      rw [h13]
      simp (disch := omega) only [pk_mul, nI_add, clN]
      rw [h2]
      exact ⟨inbN (by omega) (by decide), fun _ => ⟨_, _, _, rfl, rfl, H⟩, fun z => absurd (nI_le (Nat.le_refl _) (by omega)) z⟩
    | succ n ih =>
      intro k hk
      refine VX12_takenAll_4 hs ?_
      rw [h13]
      simp (disch := omega) only [pk_mul, nI_add, clN]
      rw [h2, ht k (by omega)]
      refine ⟨inbN (by omega) (by decide), fun z => absurd z (nI_ge (by omega) (by omega)), fun _ => ⟨inbN (by omega) (by decide), fun x hx => ?_⟩⟩
      have := ih (k + 1) (by omega)
      rw [hx]
      have e : nI (forN k (fun b n => if w.2.2.2.2.2.1 b then n + 1 else n) 0) + bI (w.2.2.2.2.2.1 k) = nI (forN (k + 1) (fun b n => if w.2.2.2.2.2.1 b then n + 1 else n) 0) := by
        show _ = nI (if w.2.2.2.2.2.1 k then _ else _)
        cases w.2.2.2.2.2.1 k with
        | false => rw [show bI false = nI 0 from rfl, nI_add]; rfl
        | true => rw [show bI true = nI 1 from rfl, nI_add]; rfl
      rw [e]
      exact this
  exact loop (π.1 1) 0 rfl
theorem C_open {K : Int32 → FI → FL → Prop} (hs : StM sh fR B) (hR : RM f B 0 w m) (hN : wN w) (hb : b < 2) (h13 : f B 13 = nI b) (h6 : f (B + 6) b = nI (π.1 6)) (h4 : π.1 6 ≤ 4) (H : K (nI (aliveS π w)) f g) : Cl l G (d + 2) 0 0 mX12_open [.ref B] (sh, f, g, fR) (qi sh fR K) := by
  refine VX12_open hs ?_
  have loop : ∀ n k, n + k = π.1 6 → LpX12_open_4 l G d (qi sh fR K) sh fR B f g (nI (forN k (fun p n => if freS w p then n + 1 else n) 0)) (nI k) := by
    intro n
    induction n with
    | zero =>
      intro k hk
      refine VX12_open_4 hs ?_
      rw [h13, clN (by omega), h6]
      refine ⟨inbN hb (by decide), fun _ => ⟨_, _, _, rfl, rfl, ?_⟩, fun c => absurd (nI_le (by omega) (by omega)) c⟩
      rw [show k = π.1 6 by omega]
      exact H
    | succ n ih =>
      intro k hk
      refine VX12_open_4 hs ?_
      rw [h13, clN (by omega), h6]
      have := ih (k + 1) (by omega)
      refine ⟨inbN hb (by decide), fun c => absurd c (nI_ge (by omega) (by omega)), fun _ => C_isFree hs (by decide) hR hN (by omega) ⟨fun c w7 hw => ?_, fun c w9 hw => ?_⟩⟩
      · have e : freS w k = false := bI_0.mp c
        rw [show forN (k + 1) (fun p n => if freS w p then n + 1 else n) 0 = (if freS w k then forN k (fun p n => if freS w p then n + 1 else n) 0 + 1 else forN k (fun p n => if freS w p then n + 1 else n) 0) from rfl, if_neg (by rw [e]; decide)] at this
        rw [hw, nI_add, nI_add]
        exact this
      · have e : freS w k = true := bI_ne0 c
        rw [show forN (k + 1) (fun p n => if freS w p then n + 1 else n) 0 = (if freS w k then forN k (fun p n => if freS w p then n + 1 else n) 0 + 1 else forN k (fun p n => if freS w p then n + 1 else n) 0) from rfl, if_pos e] at this
        rw [hw, nI_add, nI_add]
        exact this
  exact loop (π.1 6) 0 rfl
theorem C_needed {K : Int32 → FI → FL → Prop} (hs : StM sh fR B) (hR : RM f B 0 w m) (hw2 : w.1 2 ≤ 1000) (hok : ∀ q ∈ m, q.1 ≤ 1000 ∧ q.2 ≤ 1000) (H : K (nI (m.countP (ndS w))) f g) : Cl l G (d + 1) 0 0 mX12_needed [.ref B, .int (nI 0)] (sh, f, g, fR) (qi sh fR K) := by
  obtain ⟨h7, hl, hp⟩ := hR.2.2.2.1
  have h2 : f (B + 23) (40 * 0 + 2) = nI (w.1 2) := hR.1 2 (by unfold nset; omega)
  refine VX12_needed hs ?_
  have loop : ∀ (rest done : List (Nat × Nat)), m = done ++ rest → LpX12_needed_4 l G d (qi sh fR K) sh fR B f g (nI 0) (nI (done.countP (ndS w))) (nI done.length) := by
    intro rest
    induction rest with
    | nil =>
      intro done e
      rw [List.append_nil] at e
      subst e
      refine VX12_needed_4 hs ?_
      simp (disch := omega) only [pk_mul, nI_add, clN]
      rw [h7]
      exact ⟨inbN (by omega) (by decide), fun _ => ⟨_, _, _, rfl, rfl, H⟩, fun z => absurd (nI_le (Nat.le_refl _) (by omega)) z⟩
    | cons q rest ih =>
      intro done e
      have hk : m[done.length]? = some q := by rw [e]; exact at_len
      have hlt : done.length < m.length := (List.getElem?_eq_some_iff.mp hk).1
      have ih' := ih (done ++ [q]) (by rw [e]; simp)
      rw [List.length_append, List.length_singleton, List.countP_append, List.countP_singleton] at ih'
      obtain ⟨p1, p2⟩ := hp _ q hk
      have hq := hok q (List.mem_of_getElem? hk)
      refine VX12_needed_4 hs ?_
      simp (disch := omega) only [pk_mul, nI_add, clN]
      rw [h7, h2, p1, p2, nI_add]
      refine ⟨inbN (by omega) (by decide), fun z => absurd z (nI_ge hlt (by omega)), fun _ => ⟨inbN (by omega) (by decide), inbN (by omega) (by decide), inbN (by omega) (by decide), fun c w7 hw => ?_, fun c w9 hw => ?_⟩⟩
      · have e0 : ndS w q = false := by
          unfold ndS
          rw [decide_eq_false_iff_not]
          exact fun z => absurd c (nI_ge z (by omega))
        rw [if_neg (by rw [e0]; decide)] at ih'
        rw [hw]
        exact ih'
      · have e1 : ndS w q = true := by
          unfold ndS
          rw [decide_eq_true_iff]
          rcases Nat.lt_or_ge (w.1 2) (q.1 + q.2) with z | z
          · exact z
          · exact absurd (nI_le z (by omega)) c
        rw [if_pos e1] at ih'
        rw [hw]
        exact ih'
  exact loop m [] rfl
theorem hasS_eq {j : Nat} (hj : j < 16) : hasS Z (nI j) = nI (hasN (qZ Z) j) := by
  unfold hasS qZ
  rw [if_neg (fun z => by have := (nI_eq (a := j) (b := 16) (by omega) (by decide)).mp z; omega), ixS_in hj (by decide)]
  cases Z.2.2.2.2 with
  | none =>
    dsimp only [Option.getD_none]
    rcases (show j = 0 ∨ j = 1 ∨ j = 2 ∨ j = 3 ∨ j = 4 ∨ j = 5 ∨ j = 6 ∨ j = 7 ∨ j = 8 ∨ j = 9 ∨ j = 10 ∨ j = 11 ∨ j = 12 ∨ j = 13 ∨ j = 14 ∨ j = 15 by omega) with rfl | rfl | rfl | rfl | rfl | rfl | rfl | rfl | rfl | rfl | rfl | rfl | rfl | rfl | rfl | rfl <;> rfl
  | some q => rfl
theorem M_has {a : Int32} (hs : StM sh fR B) (h : MSt f g B Z) (hz : zOK Z) : Cl l G (d + 3) 0 0 mX12_has [.ref B, .int a] (sh, f, g, fR) (RQ B sh fR f g Z (hasS Z a)) := by
  obtain ⟨b, m, hb, h13, h2, h6, hR, hI, h50, h64, h200, h4, hN, -⟩ := h.q hz
  have hR1 := hR.1
  have n : ∀ i, nset i → f (B + 23) (40 * 0 + i) = nI ((qZ Z).2.2.1.1 i) := hR1
  have ex : ∀ (j : Nat) (y : Int32), j < 16 → a = nI j → y = nI (hasN (qZ Z) j) → RQ B sh fR f g Z (hasS Z a) (some (.int y)) (sh, f, g, fR) := fun j y hj ea ey => .is h (by rw [ea, hasS_eq hj, ey])
  have hw2 := hN.1 2 (by decide)
  have hm : m.countP (ndS (qZ Z).2.2.1) = (qZ Z).2.2.1.2.2.2.1.length := by
    rw [← hI.2.1, List.countP_eq_length_filter]
  refine VX12_has hs ?_
  rw [h13, clN (by omega), h2, h6]
  simp (disch := omega) only [pk_mul, nI_add, clN]
  have i2 : inb (nI b) 2 := inbN hb (by decide)
  have i8 : ∀ k, k < 40 → inb (nI (40 * 0 + k)) 880 := fun k hk => inbN (by omega) (by decide)
  refine ⟨fun z => ⟨i2, ex 0 _ (by decide) z rfl⟩, fun z => ⟨i2, ex 1 _ (by decide) z rfl⟩, fun z => C_open hs hR hN hb h13 h6 h4 (ex 2 _ (by decide) z rfl), fun z => ⟨i8 _ (by decide), ex 3 _ (by decide) z (n 0 (by unfold nset; omega))⟩, fun z => ⟨i8 _ (by decide), ex 4 _ (by decide) z (n 1 (by unfold nset; omega))⟩, fun z => ⟨i8 _ (by decide), ex 5 _ (by decide) z (n 2 (by unfold nset; omega))⟩, fun z => ⟨i8 _ (by decide), ex 6 _ (by decide) z (n 3 (by unfold nset; omega))⟩, fun z => C_taken hs (by decide) hR.2.2.2.2.2.1 hb h13 h2 h200 (ex 7 _ (by decide) z rfl), fun z => ⟨i8 _ (by decide), ex 8 _ (by decide) z (n 4 (by unfold nset; omega))⟩, fun z => C_flying hs (by decide) hR (ex 9 _ (by decide) z rfl), fun z => ⟨i8 _ (by decide), ex 10 _ (by decide) z hR.2.2.2.2.1.1⟩, fun z => C_needed hs hR hw2 (fun p hp => by have := hI.1 p hp; omega) (ex 11 _ (by decide) z (by rw [hm]; rfl)), fun z => ⟨i8 _ (by decide), ex 12 _ (by decide) z (n 5 (by unfold nset; omega))⟩, fun z => ⟨i8 _ (by decide), ex 13 _ (by decide) z hR.2.2.2.2.2.2.1⟩, fun z => ex 14 _ (by decide) z h64, fun z => ex 15 _ (by decide) z h50, fun z => .is h ?_, fun z => .is h ?_⟩
  · unfold hasS
    rw [if_pos z, h.2.2.1, lN_i]
  · obtain ⟨z0, z1, z2, z3, z4, z5, z6, z7, z8, z9, z10, z11, z12, z13, z14, z15, z16⟩ := z
    unfold hasS
    rw [if_neg z16]
    cases hx : ixS a 16 with
    | none => rfl
    | some j =>
      obtain ⟨hj, rfl⟩ := ixS_some (by decide) hx
      exfalso
      have nn : ∀ i, ¬ nI j = nI i → j ≠ i := fun i z e => z (by rw [e])
      have := nn _ z0; have := nn _ z1; have := nn _ z2; have := nn _ z3; have := nn _ z4; have := nn _ z5; have := nn _ z6; have := nn _ z7; have := nn _ z8; have := nn _ z9; have := nn _ z10; have := nn _ z11; have := nn _ z12; have := nn _ z13; have := nn _ z14; have := nn _ z15
      omega
theorem M_path {a c : Int32} (hs : StM sh fR B) (h : MSt f g B Z) (hz : zOK Z) : Cl l G (d + 4) 0 0 mX12_path [.ref B, .int a, .int c] (sh, f, g, fR) (RQ B sh fR f g Z (pathS Z a c)) := by
  refine VX12_path hs ?_
  refine D_isPathM hs h hz (fun q p ht hp6 hp4 e => ⟨fun _ => ?_, fun c => absurd c (by decide)⟩) (fun hno => ⟨fun c => absurd rfl c, fun _ => .is h ?_⟩)
  · subst e
    obtain ⟨b, hb, h13, t1, t2, ⟨m, hR, hI⟩, t4⟩ := h.td ht
    have hq := hz.2.2.2.2 q ht
    have h6 := hq.1.2.2.2.2.2.1
    have hg := hq.2.2.2.2.1
    have hg1 := hg.1
    have hN : wN q.2.2.1 := hg.2.1.wN hq.1 (by omega)
    unfold pathS
    rw [ht]
    dsimp only
    rw [ixS_in hp6 (by omega), h13]
    simp (disch := omega) only [pk_mul, nI_add, clN]
    have n : ∀ i, i < 6 → f (B + 23) (40 * 0 + 14 + 6 * p + i) = nI (q.2.2.1.2.1 p i) := fun i hi => hR.2.1 p i hp4 hi
    have i8 : ∀ k, k < 6 → inb (nI (40 * 0 + 14 + 6 * p + k)) 880 := fun k hk => inbN (by omega) (by decide)
    have ex : ∀ (k : Nat) (y : Int32), k < 9 → c = nI k → y = nI (pathN q p k) → RQ B sh fR f g Z (match ixS c 9 with | none => -1 | some j => nI (pathN q p j)) (some (.int y)) (sh, f, g, fR) := fun k y hk eb e2 => by
      rw [eb, ixS_in hk (by decide)]
      exact .is h e2
    refine ⟨fun z => ⟨inbN (by omega) (by decide), ex 0 _ (by decide) z (t1.1.2.2.2.2.2.2.2.2.1 p hp6)⟩, fun z => ⟨i8 _ (by decide), ex 1 _ (by decide) z (n 0 (by decide))⟩, fun z => ⟨i8 _ (by decide), ex 2 _ (by decide) z (n 1 (by decide))⟩, fun z => ⟨i8 _ (by decide), ex 3 _ (by decide) z (n 2 (by decide))⟩, fun z => ⟨i8 _ (by decide), ex 4 _ (by decide) z (n 3 (by decide))⟩, fun z => C_flyingOn hs (by decide) hR.2.2.1 hN.2.2.1 (by omega) (ex 5 _ (by decide) z rfl), fun z => ⟨i8 _ (by decide), ex 6 _ (by decide) z (n 4 (by decide))⟩, fun z => ⟨i8 _ (by decide), ex 7 _ (by decide) z (n 5 (by decide))⟩, fun z => ?_, fun z => ?_⟩
    · rw [z, ixS_in (j := 8) (by decide) (by decide)]
      refine C_waitOf hs (by decide) hR hN t1 hq.1 hp4 (fun f' g' e1 e2 => ⟨_, _, rfl, rfl, h.keep (fun r k z => e1 r k (by unfold kpM at z; omega)) (fun k => e2 _ _ (by omega)) (e2 _ _ (by omega)), fun r k z => e1 r k (by omega)⟩)
    · rcases pk_ix c (n := 9) (by decide) with y | y | ⟨i, hi, rfl⟩
      · rw [ixS_lo y]; exact .rf h
      · rw [ixS_hi y]; exact .rf h
      · exfalso
        obtain ⟨z0, z1, z2, z3, z4, z5, z6, z7, z8⟩ := z
        have nn : ∀ k, ¬ nI i = nI k → i ≠ k := fun k z e => z (by rw [e])
        have := nn _ z0; have := nn _ z1; have := nn _ z2; have := nn _ z3; have := nn _ z4; have := nn _ z5; have := nn _ z6; have := nn _ z7; have := nn _ z8
        omega
  · unfold pathS
    cases ht : Z.2.2.2.2 with
    | none => rfl
    | some q => dsimp only; rw [hno q ht]
end MB
