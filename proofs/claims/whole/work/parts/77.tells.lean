/-! the class: delays, tells -/
section TJ
variable {l : Launch} {G : Gx} {d : Nat} {sh : Sh} {fR : FRt} {A x u : Nat} {f : FI} {g : FL} {Z : Zs} {q : Td} {p : Nat}
theorem D_delaysLeft {K : Int32 → FI → FL → Prop} {v na T : Nat} (hr : PRs sh fR A u v) (t : PTd fR f A u na q) (ok : tdOK q) (hT : T ≤ 60) (hmet : ∀ r ∈ q.2.2.2.2, r.1 ≤ T ↔ q.2.2.1.1 0 + r.1 ≤ 999) (tb : ∀ e, 1 ≤ e → e ≤ 9 → TbC f A q p e (2 * (T + 1))) (H : K (nI (bitsS q p 9)) f g) : Cl l G (d + 1) 0 0 mX11_delaysLeft [.ref A, .int (nI T)] (sh, f, g, fR) (qi sh fR K) := by
  obtain ⟨hs, hp, hn, hP⟩ : StA sh fR A ∧ fR A 5 = some u ∧ fR (A + 40) 7 = some u ∧ StPl sh fR u := ⟨hr.1, hr.2.2.1, hr.2.2.2.2.1, hr.pl.1⟩
  refine VX11_delaysLeft hs hp hn hP ?_
  have loop : ∀ r n, r + n = 9 → LpX11_delaysLeft_4 l G d (qi sh fR K) sh fR A u f g (nI T) (nI (bitsS q p n)) (nI (n + 1)) := by
    intro r
    induction r with
    | zero =>
      intro n hn'
      have : n = 9 := by omega
      subst this
      exact VX11_delaysLeft_4 hs hp hn hP ⟨fun _ => ⟨_, _, _, rfl, rfl, H⟩, fun c => absurd (by decide) c⟩
    | succ r ih =>
      intro n hn'
      obtain ⟨r1, r2, r3⟩ := row_ok hs (e := n + 1) (by omega)
      have hb := (bitsS_at q p n).1
      have := ih (n + 1) (by omega)
      refine VX11_delaysLeft_4 hs hp hn hP ?_
      rw [clN (by omega)]
      refine ⟨fun c => absurd (nI_le (show n + 1 ≤ 9 by omega) (by decide)) (Int32.not_le.mpr c), fun _ => ⟨inbN (by omega) (by decide), _, r1, r2, r3, D_fitsMet hr t ok (by omega) hT hmet (tb (n + 1) (by omega) (by omega)) ⟨fun c => VX11_delaysLeft_30 hs hp hn hP ?_, fun c w11 hw => VX11_delaysLeft_30 hs hp hn hP ?_⟩⟩⟩
      · have e : bitsS q p (n + 1) = bitsS q p n := by
          show bitsS q p n + _ = _
          rw [if_neg (by rw [bI_0.mp c]; decide), Nat.add_zero]
        rw [e] at this
        rw [nI_add]
        exact this
      · have e : bitsS q p (n + 1) = bitsS q p n + 2 ^ (n + 1) := by
          show bitsS q p n + _ = _
          rw [if_pos (bI_ne0 c)]
        rw [e] at this
        rw [hw, pk_bit (by omega) hb, nI_add]
        exact this
  exact loop 9 0 rfl
theorem P_delays {a : Int32} (h : PSt sh fR f A Z) (hz : zOK Z) : Cl l G (d + 7) 0 0 mX11_delays [.ref A, .int a] (sh, f, g, fR) (RP A sh fR f g Z (delaysS Z a)) := by
  obtain ⟨u, v, hr, hs, hp, hn, hP, hx⟩ := h.at
  refine VX11_delaysF hs hp hn hP ?_
  refine D_isPathP hs hp hn hP hx hz (fun q p ht hp6 hp4 e => ⟨fun _ => ?_, fun c => absurd c (by decide)⟩) (fun hno => ⟨fun c => absurd rfl c, fun _ => .is h ?_⟩)
  · subst e
    obtain ⟨h4, na, -, -, t⟩ := hx.td ht
    have ok := hz.2.2.2.2 q ht
    have h6 := ok.1.2.2.2.2.2.1
    have h0 := ok.2.2.2.2.1.1
    unfold delaysS
    rw [ht]
    dsimp only
    rw [ixS_in hp6 (by omega)]
    refine D_lastMet hr t ok (fun m hm hml => ?_)
    refine D_ticksComing hr t ok hm ?_
    have hT : minS m (999 - q.2.2.1.1 0) ≤ 60 ∧ q.2.2.1.1 0 + minS m (999 - q.2.2.1.1 0) ≤ 999 := by unfold minS; split <;> omega
    have hmet : ∀ r ∈ q.2.2.2.2, r.1 ≤ minS m (999 - q.2.2.1.1 0) ↔ q.2.2.1.1 0 + r.1 ≤ 999 := fun r hr' => by
      have := hml r hr'
      unfold minS
      split <;> omega
    generalize minS m (999 - q.2.2.1.1 0) = T at *
    refine D_foresee hr hx ht ok hp6 hT.1 hT.2 (fun f1 i1 tb => ?_)
    have hx1 := FrT.px hr.try (PSx.try hr hx) i1
    obtain ⟨-, na1, -, -, t1⟩ := hx1.td ht
    exact D_delaysLeft hr.try t1 ok hT.1 hmet tb (FrT.rp hr hx i1 rfl)
  · unfold delaysS
    cases ht : Z.2.2.2.2 with
    | none => rfl
    | some q => dsimp only; rw [hno q ht]
theorem pk_two {b e o : Nat} (hb : b < 2 ^ 31) (he : e ≤ 9) (ho : o ≤ 9) : ((nI b >>> (nI e &&& 31)) &&& (nI b >>> (nI o &&& 31))) &&& nI 1 = nI ((b / 2 ^ e % 2) * (b / 2 ^ o % 2)) := by
  have h1 : b / 2 ^ e ≤ b := Nat.div_le_self _ _
  have h2 : b / 2 ^ o ≤ b := Nat.div_le_self _ _
  rw [pk_sh9 hb he, pk_sh9 hb ho, pk_andNN (by omega) (by omega), pk_andN (Nat.lt_of_le_of_lt Nat.and_le_left (by omega)) 1 (by decide)]
  congr 1
  rw [Nat.and_mod_two_pow]
  rcases Nat.mod_two_eq_zero_or_one (b / 2 ^ e) with z | z <;> rcases Nat.mod_two_eq_zero_or_one (b / 2 ^ o) with y | y <;> (rw [show 2 ^ 1 = 2 from rfl, z, y]; rfl)
def likeN (q : Td) (p n i e k : Nat) : Nat := (List.range k).countP (fun o => canS q p e && canS q p (o + 1) && (gotS q.1 q.2.1 q.2.2.1 p e n i == gotS q.1 q.2.1 q.2.2.1 p (o + 1) n i))
theorem likeN_le (q : Td) (p n i e k : Nat) : likeN q p n i e k ≤ k := by
  unfold likeN
  have := List.countP_le_length (p := fun o => canS q p e && canS q p (o + 1) && (gotS q.1 q.2.1 q.2.2.1 p e n i == gotS q.1 q.2.1 q.2.2.1 p (o + 1) n i)) (l := List.range k)
  rw [List.length_range] at this
  exact this
theorem likeN_succ (q : Td) (p n i e k : Nat) : likeN q p n i e (k + 1) = likeN q p n i e k + (if canS q p e && canS q p (k + 1) && (gotS q.1 q.2.1 q.2.2.1 p e n i == gotS q.1 q.2.1 q.2.2.1 p (k + 1) n i) then 1 else 0) := by
  unfold likeN
  rw [List.range_succ, List.countP_append, List.countP_singleton]
theorem maxS_cm (a b : Nat) : maxS a b = maxS b a := by
  unfold maxS
  split <;> split <;> omega
def mostN (q : Td) (p n i k : Nat) : Nat := forN k (fun e m => maxS (likeS q p n i (e + 1)) m) 0
theorem mostN_le (q : Td) (p n i k : Nat) : mostN q p n i k ≤ 9 := by
  induction k with
  | zero => exact Nat.zero_le _
  | succ k ih =>
    show maxS (likeS q p n i (k + 1)) (mostN q p n i k) ≤ 9
    have : likeS q p n i (k + 1) ≤ 9 := likeN_le q p n i (k + 1) 9
    unfold maxS
    split <;> omega
theorem D_mostAlike {K : Int32 → FI → FL → Prop} {v T j : Nat} (hr : PRs sh fR A u v) (hj : j < 2 * (T + 1)) (hT : T ≤ 60) (tb : ∀ e, 1 ≤ e → e ≤ 9 → TbC f A q p e (2 * (T + 1))) (H : K (nI (mostS q p (j / 2) (j % 2))) f g) : Cl l G (d + 1) 0 0 mX11_mostAlike [.ref A, .int (nI (bitsS q p 9)), .int (nI j)] (sh, f, g, fR) (qi sh fR K) := by
  obtain ⟨hs, hp, hn, hP⟩ : StA sh fR A ∧ fR A 5 = some u ∧ fR (A + 40) 7 = some u ∧ StPl sh fR u := ⟨hr.1, hr.2.2.1, hr.2.2.2.2.1, hr.pl.1⟩
  obtain ⟨hb, hbit⟩ := bitsS_at q p 9
  refine VX11_mostAlike hs hp hn hP ?_
  have loop : ∀ r n, r + n = 9 → LpX11_mostAlike_5 l G d (qi sh fR K) sh fR A u f g (nI (bitsS q p 9)) (nI j) (nI (mostN q p (j / 2) (j % 2) n)) (nI (n + 1)) := by
    intro r
    induction r with
    | zero =>
      intro n hn'
      have : n = 9 := by omega
      subst this
      exact VX11_mostAlike_5 hs hp hn hP ⟨fun _ => ⟨_, _, _, rfl, rfl, H⟩, fun c => absurd (by decide) c⟩
    | succ r ih =>
      intro n hn'
      refine VX11_mostAlike_5 hs hp hn hP ⟨fun c => absurd (nI_le (show n + 1 ≤ 9 by omega) (by decide)) (Int32.not_le.mpr c), fun _ => ?_⟩
      have inner : ∀ s k, s + k = 9 → LpX11_mostAlike_18 l G d (qi sh fR K) sh fR A u f g (nI (bitsS q p 9)) (nI j) (nI (mostN q p (j / 2) (j % 2) n)) (nI (n + 1)) (nI (likeN q p (j / 2) (j % 2) (n + 1) k)) (nI (k + 1)) := by
        intro s
        induction s with
        | zero =>
          intro k hk
          have : k = 9 := by omega
          subst this
          have m9 := mostN_le q p (j / 2) (j % 2) n
          have l9 := likeN_le q p (j / 2) (j % 2) (n + 1) 9
          refine VX11_mostAlike_18 hs hp hn hP ⟨fun _ => D_maxN (by omega) (by omega) ?_, fun c => absurd (by decide) c⟩
          rw [nI_add, maxS_cm]
          exact ih (n + 1) (by omega)
        | succ s ih2 =>
          intro k hk
          have nx := ih2 (k + 1) (by omega)
          rw [likeN_succ] at nx
          obtain ⟨r1, r2, r3⟩ := row_ok hs (e := n + 1) (by omega)
          obtain ⟨s1, s2, s3⟩ := row_ok hs (e := k + 1) (by omega)
          obtain ⟨t1, t2⟩ := tb (n + 1) (by omega) (by omega) j hj
          obtain ⟨u1, u2⟩ := tb (k + 1) (by omega) (by omega) j hj
          refine VX11_mostAlike_18 hs hp hn hP ?_
          rw [pk_two (by omega) (by omega) (by omega), hbit (n + 1) (by omega) (by omega), hbit (k + 1) (by omega) (by omega)]
          rw [clN (show n + 1 < 2 ^ 31 by omega), clN (show k + 1 < 2 ^ 31 by omega), clN (show j < 2 ^ 31 by omega)]
          refine ⟨fun c => absurd (nI_le (show k + 1 ≤ 9 by omega) (by decide)) (Int32.not_le.mpr c), fun _ => ⟨fun c => VX11_mostAlike_76 hs hp hn hP ?_, fun c => ⟨inbN (by omega) (by decide), _, r1, r2, r3, inbN (by omega) (by decide), inbN (by omega) (by decide), _, s1, s2, s3, inbN (by omega) (by decide), ?_⟩⟩⟩
          · rw [nI_add]
            have e : (canS q p (n + 1) && canS q p (k + 1) && (gotS q.1 q.2.1 q.2.2.1 p (n + 1) (j / 2) (j % 2) == gotS q.1 q.2.1 q.2.2.1 p (k + 1) (j / 2) (j % 2))) = false := by
              cases h1 : canS q p (n + 1) with
              | false => rfl
              | true =>
                cases h2 : canS q p (k + 1) with
                | false => rfl
                | true => rw [h1, h2] at c; exact absurd rfl c
            rw [e, if_neg (by decide), Nat.add_zero] at nx
            exact nx
          · have h12 : canS q p (n + 1) = true ∧ canS q p (k + 1) = true := by
              cases h1 : canS q p (n + 1) with
              | false => rw [h1] at c; exact absurd c (by cases canS q p (k + 1) <;> decide)
              | true =>
                cases h2 : canS q p (k + 1) with
                | false => rw [h1, h2] at c; exact absurd c (by decide)
                | true => exact ⟨rfl, rfl⟩
            rw [h12.1, h12.2] at nx
            rw [t1, u1]
            refine ⟨fun c2 => VX11_mostAlike_76 hs hp hn hP ?_, fun c2 => VX11_mostAlike_76 hs hp hn hP ?_⟩
            · rw [show (gotS q.1 q.2.1 q.2.2.1 p (n + 1) (j / 2) (j % 2) == gotS q.1 q.2.1 q.2.2.1 p (k + 1) (j / 2) (j % 2)) = false from by simp; exact fun z => c2 (by rw [z]), Bool.and_false, if_neg (by decide), Nat.add_zero] at nx
              rw [nI_add]
              exact nx
            · rw [show (gotS q.1 q.2.1 q.2.2.1 p (n + 1) (j / 2) (j % 2) == gotS q.1 q.2.1 q.2.2.1 p (k + 1) (j / 2) (j % 2)) = true from by simp; exact (nI_eq (by omega) (by omega)).mp c2] at nx
              rw [nI_add, nI_add]
              exact nx
      exact inner 9 0 rfl
  exact loop 9 0 rfl
theorem tellS_ok (q : Td) (p : Nat) : ∀ n, 1 ≤ n → ∃ b m, tellS q p n = some (b, m) ∧ b < n + 2 ∧ m ≤ 9
  | 0, h => by omega
  | n + 1, _ => by
    have hm : mostS q p ((n + 2) / 2) ((n + 2) % 2) ≤ 9 := mostN_le q p _ _ 9
    unfold tellS
    rcases Nat.eq_zero_or_pos n with z | z
    · subst z
      exact ⟨_, _, rfl, by omega, hm⟩
    · obtain ⟨b, m, e, hb, hm'⟩ := tellS_ok q p n z
      rw [e]
      dsimp only
      split
      · exact ⟨_, _, rfl, by omega, hm⟩
      · exact ⟨_, _, rfl, by omega, hm'⟩
theorem P_tells {a c : Int32} (h : PSt sh fR f A Z) (hz : zOK Z) : Cl l G (d + 7) 0 0 mX11_tells [.ref A, .int a, .int c] (sh, f, g, fR) (RP A sh fR f g Z (tellsS Z a c)) := by
  obtain ⟨u, v, hr, hs, hp, hn, hP, hx⟩ := h.at
  refine VX11_tellsF hs hp hn hP ?_
  refine D_isPathP hs hp hn hP hx hz (fun q p ht hp6 hp4 e => ⟨fun c => absurd c (by decide), fun _ => ?_⟩) (fun hno => ⟨fun _ => .is h ?_, fun c => absurd rfl c⟩)
  · subst e
    obtain ⟨h4, na, -, -, t⟩ := hx.td ht
    have ok := hz.2.2.2.2 q ht
    have h6 := ok.1.2.2.2.2.2.1
    have h0 := ok.2.2.2.2.1.1
    obtain ⟨m, hC, -⟩ := id t.2.2.1
    unfold tellsS
    rw [ht]
    dsimp only
    rw [ixS_in hp6 (by omega)]
    dsimp only
    rcases pk_ix c (n := 3) (by decide) with z | z | ⟨i, hi, rfl⟩
    · rw [ixS_lo z]
      exact ⟨fun _ => .rf h, fun c => absurd z c⟩
    · rw [ixS_hi z]
      exact ⟨fun _ => .rf h, fun _ => ⟨fun _ => .rf h, fun c => absurd (Int32.lt_of_lt_of_le (by decide) z) c⟩⟩
    · rw [ixS_in hi (by decide), hC.t8]
      dsimp only
      refine ⟨fun c => absurd c (nI_pos (by omega)), fun _ => ⟨fun c => absurd (nI_le (show i ≤ 2 by omega) (by decide)) (Int32.not_le.mpr c), fun _ => ⟨fun c => ?_, fun c => .is h ?_⟩⟩⟩
      · have hlt := (nI_ltI (by omega) (by decide)).mp c
        refine D_ticksComing hr t ok (by decide) ?_
        have hT : minS 60 (999 - q.2.2.1.1 0) ≤ 60 ∧ q.2.2.1.1 0 + minS 60 (999 - q.2.2.1.1 0) ≤ 999 ∧ 1 ≤ minS 60 (999 - q.2.2.1.1 0) := by unfold minS; split <;> omega
        have hmet : ∀ r ∈ q.2.2.2.2, r.1 ≤ minS 60 (999 - q.2.2.1.1 0) ↔ q.2.2.1.1 0 + r.1 ≤ 999 := fun r hr' => by
          have := (ok.2.2.2.2.2.2.2.2 r hr').1
          unfold minS
          split <;> omega
        generalize minS 60 (999 - q.2.2.1.1 0) = T at *
        refine D_foresee hr hx ht ok hp6 hT.1 hT.2.1 (fun f1 i1 tb => ?_)
        have hr2 := hr.try
        have hx1 := FrT.px hr2 (PSx.try hr hx) i1
        obtain ⟨-, na1, -, -, t1⟩ := hx1.td ht
        have hb := (bitsS_at q p 9).1
        have h2 : (nI 2 : Int32) = nI 2 := rfl
        refine D_delaysLeft hr2 t1 ok hT.1 hmet tb ⟨fun c0 => ?_, fun c0 => FrT.rp hr hx i1 ?_⟩
        · have hb0 : bitsS q p 9 ≠ 0 := fun z => c0 (by rw [z]; rfl)
          rw [if_neg hb0]
          refine D_mostAlike (j := 2) hr2 (by omega) hT.1 tb ?_
          have loop : ∀ r k b m', r + k = 2 * T → 1 ≤ k → tellS q p k = some (b, m') → LpX11_tellsF_75 l G d (RP A sh fR f g Z (match tellS q p (2 * T) with | none => -1 | some (b, m) => if i = 0 then nI (b / 2) else if i = 1 then nI (b % 2) else nI m)) sh (up2 fR (A + 72) 7 (some u)) A u f1 g (nI i) (nI T) (nI (bitsS q p 9)) (nI b) (nI m') (nI (k + 2)) := by
            intro r
            induction r with
            | zero =>
              intro k b m' hk hk1 hb'
              have : k = 2 * T := by omega
              subst this
              obtain ⟨b2, m2, e2, hb2, hm2⟩ := tellS_ok q p (2 * T) hk1
              rw [e2] at hb'
              cases hb'
              rw [e2]
              refine VX11_tellsF_75 hr2.1 hr2.2.2.1 hr2.2.2.2.2.1 hr2.pl.1 ?_
              rw [nI_add, pk_mul, pk_div (by omega) (by decide) (by decide), show nI b - nI (b / 2) * nI 2 = nI (b % 2) from by rw [← pk_div (by omega) (by decide) (by decide)]; exact pk_rem (by omega) (by decide) (by decide)]
              refine ⟨fun _ => ⟨fun z => FrT.rp hr hx i1 ?_, fun z => FrT.rp hr hx i1 ?_, fun z => FrT.rp hr hx i1 ?_⟩, fun c => absurd (nI_le (by omega) (by omega)) c⟩
              · have := (nI_eq (by omega) (by decide)).mp z
                subst this
                rfl
              · have := (nI_eq (by omega) (by decide)).mp z
                subst this
                rfl
              · dsimp only
                rw [if_neg (fun z0 => z.1 (by rw [z0])), if_neg (fun z0 => z.2 (by rw [z0]))]
            | succ r ih =>
              intro k b m' hk hk1 hb'
              obtain ⟨b2, m2, e2, hb2, hm2⟩ := tellS_ok q p k hk1
              have e3 := e2
              rw [hb'] at e3
              cases e3
              have e4 : tellS q p (k + 1) = if mostS q p ((k + 2) / 2) ((k + 2) % 2) < m' then some (k + 2, mostS q p ((k + 2) / 2) ((k + 2) % 2)) else some (b, m') := by
                show (match tellS q p k with | none => some (k + 2, mostS q p ((k + 2) / 2) ((k + 2) % 2)) | some (b, m) => if mostS q p ((k + 2) / 2) ((k + 2) % 2) < m then some (k + 2, mostS q p ((k + 2) / 2) ((k + 2) % 2)) else some (b, m)) = _
                rw [hb']
              have hmo : mostS q p ((k + 2) / 2) ((k + 2) % 2) ≤ 9 := mostN_le q p _ _ 9
              refine VX11_tellsF_75 hr2.1 hr2.2.2.1 hr2.2.2.2.2.1 hr2.pl.1 ?_
              rw [nI_add, pk_mul]
              refine ⟨fun c => absurd c (nI_ge (by omega) (by omega)), fun _ => D_mostAlike hr2 (by omega) hT.1 tb ⟨fun c => VX11_tellsF_110 hr2.1 hr2.2.2.1 hr2.2.2.2.2.1 hr2.pl.1 ?_, fun c => VX11_tellsF_110 hr2.1 hr2.2.2.1 hr2.2.2.2.2.1 hr2.pl.1 ?_⟩⟩
              · rw [if_neg (fun z => absurd c (nI_ge z (by omega)))] at e4
                rw [nI_add]
                exact ih (k + 1) b m' (by omega) (by omega) e4
              · rw [if_pos (Nat.not_le.mp (fun z => c (nI_le z (by omega))))] at e4
                rw [nI_add]
                exact ih (k + 1) _ _ (by omega) (by omega) e4
          exact loop (2 * T - 1) 1 2 _ (by omega) (by decide) rfl
        · rw [if_pos ((nI_eq (b := 0) (by omega) (by decide)).mp c0)]
      · have hge : ¬ q.2.2.1.1 0 < 999 := fun z => c (nI_lt z (by decide))
        rw [show minS 60 (999 - q.2.2.1.1 0) = 0 from by unfold minS; split <;> omega]
        split <;> rfl
  · unfold tellsS
    cases ht : Z.2.2.2.2 with
    | none => rfl
    | some q => dsimp only; rw [hno q ht]
end TJ
