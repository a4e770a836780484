/-! the reference: delays, tells -/
section MZ
variable {l : Launch} {G : Gx} {d : Nat} {sh : Sh} {fR : FRt} {B b x : Nat} {f f' : FI} {g g' : FL} {Z : Zs} {q : Td} {p : Nat}
theorem C_delayBits {K : Int32 → FI → FL → Prop} (hs : StM sh fR B) (h : MSt f g B Z) (hz : zOK Z) (hq : Z.2.2.2.2 = some q) (hp6 : p < q.1.1 6) (H : ∀ (f' : FI) (g' : FL), FrU B f f' → FrG B g g' → (∀ e, 1 ≤ e → e ≤ 9 → TbM f' B q p e 61) → K (nI (bitsS q p 9)) f' g') : Cl l G (d + 8) 0 0 mX12_delayBits [.ref B, .int (nI p)] (sh, f, g, fR) (qi sh fR K) := by
  refine VX12_delayBits hs ?_
  have loop : ∀ r n (f0 : FI) (g0 : FL), r + n = 9 → FrU B f f0 → FrG B g g0 → (∀ e, 1 ≤ e → e ≤ n → TbM f0 B q p e 61) → LpX12_delayBits_4 l G d (qi sh fR K) sh fR B f0 g0 (nI p) (nI (bitsS q p n)) (nI (n + 1)) := by
    intro r
    induction r with
    | zero =>
      intro n f0 g0 hn i0 j0 tb
      have : n = 9 := by omega
      subst this
      exact VX12_delayBits_4 hs ⟨fun _ => ⟨_, _, _, rfl, rfl, H f0 g0 i0 j0 tb⟩, fun c => absurd (by decide) c⟩
    | succ r ih =>
      intro n f0 g0 hn i0 j0 tb
      have hb := (bitsS_at q p n).1
      refine VX12_delayBits_4 hs ⟨fun c => absurd (nI_le (show n + 1 ≤ 9 by omega) (by decide)) (Int32.not_le.mpr c), fun _ => ?_⟩
      refine C_canBe hs (i0.m h j0) hz hq hp6 (by omega) (by omega) (fun f2 g2 i2 j2 k2 t2 => ?_)
      have tb2 : ∀ e, 1 ≤ e → e ≤ n + 1 → TbM f2 B q p e 61 := fun e h1 h2 => by
        rcases (show e ≤ n ∨ e = n + 1 by omega) with z | z
        · intro k hk h9 i hi
          rw [k2 _ (by omega)]
          exact tb e h1 z k hk h9 i hi
        · rw [z]; exact t2
      have := ih (n + 1) f2 g2 (by omega) (i0.tr i2) (j0.tr j2) tb2
      refine ⟨fun c w6 hw => ?_, fun c w8 hw => ?_⟩
      · have e : bitsS q p (n + 1) = bitsS q p n := by
          show bitsS q p n + _ = _
          rw [if_neg (by rw [bI_0.mp c]; decide), Nat.add_zero]
        rw [e] at this
        have hp2 : 2 ^ (n + 1) ≤ 1024 := Nat.le_trans (Nat.pow_le_pow_right (by decide) (show n + 1 ≤ 10 by omega)) (by decide)
        rw [hw, pk_orN (by omega) (by decide), Nat.or_zero, nI_add]
        exact this
      · have e : bitsS q p (n + 1) = bitsS q p n + 2 ^ (n + 1) := by
          show bitsS q p n + _ = _
          rw [if_pos (bI_ne0 c)]
        rw [e] at this
        rw [hw, pk_bit (by omega) hb, nI_add]
        exact this
  exact loop 9 0 f g rfl FrU.rf FrG.rf (fun e h1 h2 => by omega)
theorem M_delays {a : Int32} (hs : StM sh fR B) (h : MSt f g B Z) (hz : zOK Z) : Cl l G (d + 9) 0 0 mX12_delays [.ref B, .int a] (sh, f, g, fR) (RQ B sh fR f g Z (delaysS Z a)) := by
  refine VX12_delays hs ?_
  refine D_isPathM hs h hz (fun q p hq hp6 hp4 e => ⟨fun c => absurd c (by decide), fun _ => ?_⟩) (fun hno => ⟨fun _ => .is h ?_, fun c => absurd rfl c⟩)
  · subst e
    have h6 := (hz.2.2.2.2 q hq).1.2.2.2.2.2.1
    refine C_delayBits hs h hz hq hp6 (fun f' g' i j _ => FrU.rq h i j ?_)
    unfold delaysS
    rw [hq]
    dsimp only
    rw [ixS_in hp6 (by omega)]
  · unfold delaysS
    cases ht : Z.2.2.2.2 with
    | none => rfl
    | some q => dsimp only; rw [hno q ht]
theorem C_has2 {K : Int32 → FI → FL → Prop} {e : Nat} (hs : StM sh fR B) (he : 1 ≤ e) (he9 : e ≤ 9) (H : K (bI (canS q p e)) f g) : Cl l G d 0 0 mX12_has2 [.int (nI (bitsS q p 9)), .int (nI e)] (sh, f, g, fR) (qi sh fR K) := by
  obtain ⟨hb, hbit⟩ := bitsS_at q p 9
  have h1 : bitsS q p 9 / 2 ^ e ≤ bitsS q p 9 := Nat.div_le_self _ _
  refine VX12_has2 hs ?_
  rw [pk_sh9 (by omega) he9, pk_andN (by omega) 1 (by decide), show 2 ^ 1 = 2 from rfl, hbit e he he9]
  cases hc : canS q p e with
  | false =>
    rw [hc] at H
    exact ⟨fun _ => ⟨_, _, _, rfl, rfl, H⟩, fun c => absurd c (by decide)⟩
  | true =>
    rw [hc] at H
    exact ⟨fun c => absurd rfl c, fun _ => ⟨_, _, _, rfl, rfl, H⟩⟩
theorem C_mostBy {K : Int32 → FI → FL → Prop} {n i : Nat} (hs : StM sh fR B) (hn : n ≤ 60) (hi : i < 2) (h9 : q.2.2.1.1 0 + n ≤ 999) (tb : ∀ e, 1 ≤ e → e ≤ 9 → TbM f B q p e 61) (H : K (nI (mostS q p n i)) f g) : Cl l G (d + 1) 0 0 mX12_mostBy [.ref B, .int (nI (bitsS q p 9)), .int (nI n), .int (nI i)] (sh, f, g, fR) (qi sh fR K) := by
  refine VX12_mostBy hs ?_
  have loop : ∀ r e, r + e = 9 → LpX12_mostBy_6 l G d (qi sh fR K) sh fR B f g (nI (bitsS q p 9)) (nI n) (nI i) (nI (mostN q p n i e)) (nI (e + 1)) := by
    intro r
    induction r with
    | zero =>
      intro e he
      have : e = 9 := by omega
      subst this
      exact VX12_mostBy_6 hs ⟨fun _ => ⟨_, _, _, rfl, rfl, H⟩, fun c => absurd (by decide) c⟩
    | succ r ih =>
      intro e he
      refine VX12_mostBy_6 hs ⟨fun c => absurd (nI_le (show e + 1 ≤ 9 by omega) (by decide)) (Int32.not_le.mpr c), fun _ => ?_⟩
      have inner : ∀ s k, s + k = 9 → LpX12_mostBy_19 l G d (qi sh fR K) sh fR B f g (nI (bitsS q p 9)) (nI n) (nI i) (nI (mostN q p n i e)) (nI (e + 1)) (nI (likeN q p n i (e + 1) k)) (nI (k + 1)) := by
        intro s
        induction s with
        | zero =>
          intro k hk
          have : k = 9 := by omega
          subst this
          have m9 := mostN_le q p n i e
          have l9 := likeN_le q p n i (e + 1) 9
          have nx := ih (e + 1) (by omega)
          have en : mostN q p n i (e + 1) = if mostN q p n i e < likeN q p n i (e + 1) 9 then likeN q p n i (e + 1) 9 else mostN q p n i e := rfl
          refine VX12_mostBy_19 hs ⟨fun _ => ⟨fun c => ?_, fun c => ?_⟩, fun c => absurd (by decide) c⟩
          · rw [if_neg (fun z => absurd c (nI_ge z (by omega)))] at en
            rw [en] at nx
            rw [nI_add]
            exact nx
          · rw [if_pos (Nat.not_le.mp (fun z => c (nI_le z (by omega))))] at en
            rw [en] at nx
            rw [nI_add]
            exact nx
        | succ s ih2 =>
          intro k hk
          have nx := ih2 (k + 1) (by omega)
          rw [likeN_succ] at nx
          obtain ⟨t1, t2⟩ := tb (e + 1) (by omega) (by omega) n (by omega) h9 i hi
          obtain ⟨u1, u2⟩ := tb (k + 1) (by omega) (by omega) n (by omega) h9 i hi
          refine VX12_mostBy_19 hs ⟨fun c => absurd (nI_le (show k + 1 ≤ 9 by omega) (by decide)) (Int32.not_le.mpr c), fun _ => ?_⟩
          refine C_has2 hs (by omega) (by omega) ⟨fun c w8 hw => ?_, fun c => C_has2 hs (by omega) (by omega) ⟨fun c2 w14 hw => ?_, fun c2 => ?_⟩⟩
          · rw [bI_0.mp c, Bool.false_and, Bool.false_and, if_neg (by decide)] at nx
            rw [hw, nI_add, nI_add]
            exact nx
          · rw [bI_0.mp c2, Bool.and_false, Bool.false_and, if_neg (by decide)] at nx
            rw [hw, nI_add, nI_add]
            exact nx
          · rw [bI_ne0 c, bI_ne0 c2] at nx
            simp (disch := omega) only [pk_mul, nI_add, clN]
            rw [t1, u1]
            refine ⟨inbN (by omega) (by decide), inbN (by omega) (by decide), fun c3 w19 hw => ?_, fun c3 w21 hw => ?_⟩
            · rw [show (gotS q.1 q.2.1 q.2.2.1 p (e + 1) n i == gotS q.1 q.2.1 q.2.2.1 p (k + 1) n i) = false from by simp; exact fun z => c3 (by rw [z]), Bool.and_false, if_neg (by decide)] at nx
              rw [hw]
              exact nx
            · rw [show (gotS q.1 q.2.1 q.2.2.1 p (e + 1) n i == gotS q.1 q.2.1 q.2.2.1 p (k + 1) n i) = true from by simp; exact (nI_eq (by omega) (by omega)).mp c3] at nx
              rw [hw]
              exact nx
      exact inner 9 0 rfl
  exact loop 9 0 rfl
/-- the best so far, as the reference holds it -/
def enB (t : Option (Nat × Nat)) : Int32 := match t with
  | none => -1
  | some (b, _) => nI b
def enM (t : Option (Nat × Nat)) : Int32 := match t with
  | none => nI 100000000
  | some (_, m) => nI m
theorem M_tells {a c : Int32} (hs : StM sh fR B) (h : MSt f g B Z) (hz : zOK Z) : Cl l G (d + 9) 0 0 mX12_tells [.ref B, .int a, .int c] (sh, f, g, fR) (RQ B sh fR f g Z (tellsS Z a c)) := by
  refine VX12_tells hs ?_
  refine D_isPathM hs h hz (fun q p hq hp6 hp4 e => ⟨fun c => absurd c (by decide), fun _ => ?_⟩) (fun hno => ⟨fun _ => .is h ?_, fun c => absurd rfl c⟩)
  · subst e
    have ok := hz.2.2.2.2 q hq
    have h6 := ok.1.2.2.2.2.2.1
    have h0 := ok.2.2.2.2.1.1
    refine D_is (n := 3) hs (by decide) (by decide) (fun j hj ej => ⟨fun _ => ?_, fun c => absurd c (by decide)⟩) (fun z => ⟨fun c => absurd rfl c, fun _ => .is h ?_⟩)
    · subst ej
      have e : tellsS Z (nI p) (nI j) = if bitsS q p 9 = 0 then -1 else match tellS q p (2 * minS 60 (999 - q.2.2.1.1 0)) with | none => -1 | some (b, m) => if j = 0 then nI (b / 2) else if j = 1 then nI (b % 2) else nI m := by
        unfold tellsS
        rw [hq]
        dsimp only
        rw [ixS_in hp6 (by omega)]
        dsimp only
        rw [ixS_in hj (by decide)]
        dsimp only
        by_cases hb : bitsS q p 9 = 0
        · rw [if_pos hb, if_pos hb]
        · rw [if_neg hb, if_neg hb]
          cases tellS q p (2 * minS 60 (999 - q.2.2.1.1 0)) <;> rfl
      rw [e]
      have hbl := (bitsS_at q p 9).1
      refine C_delayBits hs h hz hq hp6 (fun f1 g1 i1 j1 tb => ?_)
      have h1 := i1.m h j1
      have fin : ∀ t : Option (Nat × Nat), (∀ b m, t = some (b, m) → b < 1000 ∧ m ≤ 9) → LpX12_tells_107 l G d (RQ B sh fR f g Z (match t with | none => -1 | some (b, m) => if j = 0 then nI (b / 2) else if j = 1 then nI (b % 2) else nI m)) sh fR B f1 g1 (nI j) (enB t) (enM t) := fun t ht => by
        refine VX12_tells_107 hs ?_
        cases t with
        | none => exact ⟨fun c => absurd rfl c, fun _ => FrU.rq h i1 j1 rfl⟩
        | some bm =>
          obtain ⟨b, m⟩ := bm
          obtain ⟨hb, hm⟩ := ht b m rfl
          show (¬ nI b = -1 → _) ∧ (nI b = -1 → _)
          rw [show enB (some (b, m)) = nI b from rfl, pk_rem (by omega) (by decide) (by decide), pk_div (by omega) (by decide) (by decide)]
          refine ⟨fun _ => ⟨fun c0 => ⟨fun c1 => FrU.rq h i1 j1 ?_, fun c1 => FrU.rq h i1 j1 ?_⟩, fun c0 => FrU.rq h i1 j1 ?_⟩, fun c => absurd c (nI_m1 (by omega))⟩
          · dsimp only
            rw [if_neg (fun z => c0 (by rw [z]; rfl)), if_neg (fun z => c1 (by rw [z]))]
            rfl
          · have := (nI_eq (by omega) (by decide)).mp c1
            subst this
            rfl
          · have := (nI_eq (b := 0) (by omega) (by decide)).mp c0
            subst this
            rfl
      by_cases hb0 : bitsS q p 9 = 0
      · rw [if_pos hb0]
        have f0 := fin none (fun b m z => by cases z)
        refine VX12_tells_36 hs (C_ahead hs h1 hz (by decide) (by decide) (fun q' n hq' _ _ _ _ => ⟨fun c => absurd c (by decide), fun _ => ⟨fun _ => f0, fun c => absurd (by rw [hb0]; rfl) c⟩⟩) (fun _ => ⟨fun _ => f0, fun c => absurd rfl c⟩))
      · rw [if_neg hb0]
        have bd : ∀ k, k ≤ 120 → ∀ b m, tellS q p k = some (b, m) → b < 1000 ∧ m ≤ 9 := fun k hk b m hb => by
          rcases Nat.eq_zero_or_pos k with z | z
          · rw [z] at hb; cases hb
          · obtain ⟨b2, m2, e2, hb2, hm2⟩ := tellS_ok q p k z
            rw [e2] at hb
            cases hb
            exact ⟨by omega, hm2⟩
        have step : ∀ k, k ≤ 120 → ∀ y, y = mostS q p ((k + 2) / 2) ((k + 2) % 2) → y ≤ 9 ∧ (nI y < enM (tellS q p k) → enB (tellS q p (k + 1)) = nI (k + 2) ∧ enM (tellS q p (k + 1)) = nI y) ∧ (¬ nI y < enM (tellS q p k) → enB (tellS q p (k + 1)) = enB (tellS q p k) ∧ enM (tellS q p (k + 1)) = enM (tellS q p k)) := fun k hk y hy => by
          have hy9 : y ≤ 9 := by rw [hy]; exact mostN_le q p _ _ 9
          have e4 : tellS q p (k + 1) = match tellS q p k with | none => some (k + 2, mostS q p ((k + 2) / 2) ((k + 2) % 2)) | some (b, m) => if mostS q p ((k + 2) / 2) ((k + 2) % 2) < m then some (k + 2, mostS q p ((k + 2) / 2) ((k + 2) % 2)) else some (b, m) := rfl
          rw [← hy] at e4
          refine ⟨hy9, fun c => ?_, fun c => ?_⟩
          · cases ht : tellS q p k with
            | none => rw [ht] at e4; rw [e4]; exact ⟨rfl, rfl⟩
            | some bm =>
              obtain ⟨b, m⟩ := bm
              have := bd k hk b m ht
              rw [ht] at e4 c
              dsimp only at e4
              rw [if_pos ((nI_ltI (by omega) (by omega)).mp c)] at e4
              rw [e4]
              exact ⟨rfl, rfl⟩
          · cases ht : tellS q p k with
            | none => rw [ht] at c; exact absurd (nI_lt (show y < 100000000 by omega) (by decide)) c
            | some bm =>
              obtain ⟨b, m⟩ := bm
              have := bd k hk b m ht
              rw [ht] at e4 c
              dsimp only at e4
              rw [if_neg (fun z => c (nI_lt z (by omega)))] at e4
              rw [e4]
              exact ⟨rfl, rfl⟩
        have loop : ∀ r n, r + n = minS 60 (999 - q.2.2.1.1 0) + 1 → 1 ≤ n → LpX12_tells_36 l G d (RQ B sh fR f g Z (match tellS q p (2 * minS 60 (999 - q.2.2.1.1 0)) with | none => -1 | some (b, m) => if j = 0 then nI (b / 2) else if j = 1 then nI (b % 2) else nI m)) sh fR B f1 g1 (nI j) (nI (bitsS q p 9)) (enB (tellS q p (2 * n - 2))) (enM (tellS q p (2 * n - 2))) (nI n) := by
          have hN : minS 60 (999 - q.2.2.1.1 0) ≤ 60 ∧ q.2.2.1.1 0 + minS 60 (999 - q.2.2.1.1 0) ≤ 999 ∧ ∀ n, n ≤ 60 → q.2.2.1.1 0 + n ≤ 999 → n ≤ minS 60 (999 - q.2.2.1.1 0) := by
            unfold minS
            split
            · exact ⟨by omega, by omega, fun n _ _ => by omega⟩
            · exact ⟨by omega, by omega, fun n _ _ => by omega⟩
          generalize minS 60 (999 - q.2.2.1.1 0) = N at *
          intro r
          induction r with
          | zero =>
            intro n hn h1n
            have en : n = N + 1 := by omega
            refine VX12_tells_36 hs (C_ahead hs h1 hz (by decide) (by decide) (fun q' n' hq' _ hn' ea h9 => ?_) (fun _ => ⟨fun _ => ?_, fun c => absurd rfl c⟩))
            · exfalso
              rw [hq] at hq'
              cases hq'
              have := (nI_eq (by omega) (by omega)).mp ea
              have := hN.2.2 n' hn' h9
              omega
            · rw [show 2 * n - 2 = 2 * N by omega]
              exact fin _ (bd (2 * N) (by omega))
          | succ r ih =>
            intro n hn h1n
            refine VX12_tells_36 hs (C_ahead hs h1 hz (by decide) (by decide) (fun q' n' hq' _ hn' ea h9 => ⟨fun c => absurd c (by decide), fun _ => ⟨fun c => absurd c (nI_ne0 (by omega) (by omega)), fun _ => ?_⟩⟩) (fun hno => ?_))
            · have s0 := step (2 * n - 2) (by omega) _ rfl
              have s1 := step (2 * n - 1) (by omega) _ rfl
              rw [show 2 * n - 2 + 2 = 2 * n by omega, show 2 * n / 2 = n by omega, show 2 * n % 2 = 0 by omega, show 2 * n - 2 + 1 = 2 * n - 1 by omega] at s0
              rw [show 2 * n - 1 + 2 = 2 * n + 1 by omega, show (2 * n + 1) / 2 = n by omega, show (2 * n + 1) % 2 = 1 by omega, show 2 * n - 1 + 1 = 2 * (n + 1) - 2 by omega] at s1
              have nx := ih (n + 1) (by omega) (by omega)
              have h55 : LpX12_tells_55 l G d (RQ B sh fR f g Z (match tellS q p (2 * N) with | none => -1 | some (b, m) => if j = 0 then nI (b / 2) else if j = 1 then nI (b % 2) else nI m)) sh fR B f1 g1 (nI j) (nI (bitsS q p 9)) (enB (tellS q p (2 * (n + 1) - 2))) (enM (tellS q p (2 * (n + 1) - 2))) (nI n) (nI 2) := VX12_tells_55 hs ⟨fun _ => by rw [nI_add]; exact nx, fun c => absurd (by decide) c⟩
              have h551 : LpX12_tells_55 l G d (RQ B sh fR f g Z (match tellS q p (2 * N) with | none => -1 | some (b, m) => if j = 0 then nI (b / 2) else if j = 1 then nI (b % 2) else nI m)) sh fR B f1 g1 (nI j) (nI (bitsS q p 9)) (enB (tellS q p (2 * n - 1))) (enM (tellS q p (2 * n - 1))) (nI n) (nI 1) := by
                refine VX12_tells_55 hs ⟨fun c => absurd c (by decide), fun _ => C_mostBy hs (by omega) (by decide) (by omega) tb ⟨fun c w25 hw => VX12_tells_95 hs ?_, fun c => VX12_tells_95 hs ?_⟩⟩
                · obtain ⟨z1, z2⟩ := s1.2.1 c
                  rw [z1, z2] at h55
                  rw [hw, pk_mul, nI_add]
                  exact h55
                · obtain ⟨z1, z2⟩ := s1.2.2 c
                  rw [z1, z2] at h55
                  exact h55
              refine VX12_tells_55 hs ⟨fun c => absurd c (by decide), fun _ => C_mostBy hs (by omega) (by decide) (by omega) tb ⟨fun c w25 hw => VX12_tells_95 hs ?_, fun c => VX12_tells_95 hs ?_⟩⟩
              · obtain ⟨z1, z2⟩ := s0.2.1 c
                rw [z1, z2] at h551
                rw [hw, pk_mul, nI_add, Nat.add_zero]
                exact h551
              · obtain ⟨z1, z2⟩ := s0.2.2 c
                rw [z1, z2] at h551
                exact h551
            · exfalso
              have := hno q n hq rfl (by omega) (by omega) (by omega)
              omega
        exact loop (minS 60 (999 - q.2.2.1.1 0)) 1 (by omega) (by decide)
    · unfold tellsS
      rw [hq]
      dsimp only
      rw [ixS_in hp6 (by omega)]
      dsimp only
      rw [z]
  · unfold tellsS
    cases ht : Z.2.2.2.2 with
    | none => rfl
    | some q => dsimp only; rw [hno q ht]
end MZ
