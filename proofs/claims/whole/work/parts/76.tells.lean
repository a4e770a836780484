/-! trials of the class: delays, tells -/
theorem pk_orN {a b : Nat} (ha : a < 2 ^ 31) (hb : b < 2 ^ 31) : nI a ||| nI b = nI (a ||| b) := by
  apply Int32.toBitVec_inj.mp
  apply BitVec.eq_of_toNat_eq
  rw [Int32.toBitVec_or, BitVec.toNat_or]
  have h := Nat.or_lt_two_pow (show a < 2 ^ 32 by omega) (show b < 2 ^ 32 by omega)
  show (BitVec.ofNat 32 a).toNat ||| (BitVec.ofNat 32 b).toNat = (BitVec.ofNat 32 _).toNat
  rw [BitVec.toNat_ofNat, BitVec.toNat_ofNat, BitVec.toNat_ofNat, Nat.mod_eq_of_lt (show a < 2 ^ 32 by omega), Nat.mod_eq_of_lt (show b < 2 ^ 32 by omega), Nat.mod_eq_of_lt h]
theorem pk_andNN {a b : Nat} (ha : a < 2 ^ 31) (hb : b < 2 ^ 31) : nI a &&& nI b = nI (a &&& b) := by
  apply Int32.toBitVec_inj.mp
  apply BitVec.eq_of_toNat_eq
  rw [Int32.toBitVec_and, BitVec.toNat_and]
  have h : a &&& b < 2 ^ 32 := Nat.lt_of_le_of_lt Nat.and_le_left (by omega)
  show (BitVec.ofNat 32 a).toNat &&& (BitVec.ofNat 32 b).toNat = (BitVec.ofNat 32 _).toNat
  rw [BitVec.toNat_ofNat, BitVec.toNat_ofNat, BitVec.toNat_ofNat, Nat.mod_eq_of_lt (show a < 2 ^ 32 by omega), Nat.mod_eq_of_lt (show b < 2 ^ 32 by omega), Nat.mod_eq_of_lt h]
theorem pk_bit {a e : Nat} (he : e ≤ 9) (ha : a < 2 ^ e) : nI a ||| (nI 1 <<< (nI e &&& 31)) = nI (a + 2 ^ e) := by
  have hp : 2 ^ e ≤ 512 := Nat.le_trans (Nat.pow_le_pow_right (by decide) he) (by decide)
  rw [pk_shlN (n := 1) _ e (by rcases (show e = 0 ∨ e = 1 ∨ e = 2 ∨ e = 3 ∨ e = 4 ∨ e = 5 ∨ e = 6 ∨ e = 7 ∨ e = 8 ∨ e = 9 by omega) with rfl | rfl | rfl | rfl | rfl | rfl | rfl | rfl | rfl | rfl <;> decide) (by omega), Nat.one_mul, pk_orN (by omega) (by omega), Nat.or_comm]
  have h := Nat.two_pow_add_eq_or_of_lt ha 1
  rw [Nat.mul_one] at h
  rw [← h, Nat.add_comm]
theorem pk_sh9 {n e : Nat} (hn : n < 2 ^ 31) (he : e ≤ 9) : nI n >>> (nI e &&& 31) = nI (n / 2 ^ e) := pk_shrN hn _ e (by rcases (show e = 0 ∨ e = 1 ∨ e = 2 ∨ e = 3 ∨ e = 4 ∨ e = 5 ∨ e = 6 ∨ e = 7 ∨ e = 8 ∨ e = 9 by omega) with rfl | rfl | rfl | rfl | rfl | rfl | rfl | rfl | rfl | rfl <;> decide)
theorem bitsS_at (q : Td) (p : Nat) (n : Nat) : bitsS q p n < 2 ^ (n + 1) ∧ ∀ e, 1 ≤ e → e ≤ n → bitsS q p n / 2 ^ e % 2 = if canS q p e then 1 else 0 := by
  induction n with
  | zero => exact ⟨by show 0 < 2; decide, fun e h1 h2 => by omega⟩
  | succ n ih =>
    obtain ⟨h1, h2⟩ := ih
    have e1 : bitsS q p (n + 1) = bitsS q p n + (if canS q p (n + 1) then 2 ^ (n + 1) else 0) := rfl
    have e2 : 2 ^ (n + 1 + 1) = 2 ^ (n + 1) * 2 := Nat.pow_succ 2 (n + 1)
    refine ⟨?_, fun e he1 he2 => ?_⟩
    · rw [e1, e2]
      split <;> omega
    · rcases (show e ≤ n ∨ e = n + 1 by omega) with z | z
      · rw [← h2 e he1 z, e1]
        split
        · have hd : 2 ^ (n + 1) = 2 ^ e * (2 ^ (n - e) * 2) := by
            rw [← Nat.pow_succ, ← Nat.pow_add]
            congr 1
            omega
          rw [hd, Nat.add_mul_div_left _ _ (Nat.two_pow_pos e)]
          omega
        · rw [Nat.add_zero]
      · subst z
        rw [e1]
        split
        · rw [Nat.add_div_right _ (Nat.two_pow_pos _), Nat.div_eq_of_lt h1]
        · rw [Nat.add_zero, Nat.div_eq_of_lt h1]
section TI
variable {l : Launch} {G : Gx} {d : Nat} {sh : Sh} {fR : FRt} {A x u : Nat} {f : FI} {g : FL} {Z : Zs} {q : Td} {p : Nat}
theorem D_lastMet {K : Int32 → FI → FL → Prop} {v na : Nat} (hr : PRs sh fR A u v) (t : PTd fR f A u na q) (ok : tdOK q) (H : ∀ m, m ≤ 60 → (∀ r ∈ q.2.2.2.2, r.1 ≤ m) → K (nI m) f g) : Cl l G (d + 1) 0 0 mX11_lastMetTick [.ref A] (sh, f, g, fR) (qi sh fR K) := by
  obtain ⟨hs, hp, hn, hP⟩ : StA sh fR A ∧ fR A 5 = some u ∧ fR (A + 40) 7 = some u ∧ StPl sh fR u := ⟨hr.1, hr.2.2.1, hr.2.2.2.2.1, hr.pl.1⟩
  obtain ⟨-, -, -, -, -, t6, t7⟩ := t
  have hl := ok.2.2.2.2.2.2.2.1
  have hb := ok.2.2.2.2.2.2.2.2
  generalize q.2.2.2.2 = ms at *
  refine VX11_lastMetTick hs hp hn hP ?_
  have loop : ∀ (rest done : List (Nat × Nat × Nat)) (m : Nat), ms = done ++ rest → m ≤ 60 → (∀ r ∈ done, r.1 ≤ m) → LpX11_lastMetTick_4 l G d (qi sh fR K) sh fR A u f g (nI m) (nI done.length) := by
    intro rest
    induction rest with
    | nil =>
      intro done m e hm hd
      rw [List.append_nil] at e
      subst e
      refine VX11_lastMetTick_4 hs hp hn hP ?_
      rw [t6]
      exact ⟨fun _ => ⟨_, _, _, rfl, rfl, H m hm hd⟩, fun c => absurd (nI_le (Nat.le_refl _) (by omega)) c⟩
    | cons r rest ih =>
      intro done m e hm hd
      have hk : ms[done.length]? = some r := by rw [e]; exact at_len
      have hlt := (List.getElem?_eq_some_iff.mp hk).1
      have hb' := hb r (List.mem_of_getElem? hk)
      refine VX11_lastMetTick_4 hs hp hn hP ?_
      rw [t6, pk_mul, clN (by omega), (t7 _ r hk).1]
      refine ⟨fun c => absurd c (nI_ge hlt (by omega)), fun _ => ⟨inbN (by omega) (by decide), D_maxN (by omega) (by omega) ?_⟩⟩
      have := ih (done ++ [r]) (maxS m r.1) (by rw [e]; simp) (by unfold maxS; split <;> omega) (fun y hy => ?_)
      · rw [List.length_append, List.length_singleton] at this
        rw [nI_add]
        exact this
      · rcases List.mem_append.mp hy with z | z
        · have := hd y z
          unfold maxS
          split <;> omega
        · rw [List.mem_singleton.mp z]
          unfold maxS
          split <;> omega
  exact loop ms [] 0 rfl (by decide) (fun r hr => by cases hr)
theorem D_ticksComing {K : Int32 → FI → FL → Prop} {v na m : Nat} (hr : PRs sh fR A u v) (t : PTd fR f A u na q) (ok : tdOK q) (hm : m ≤ 60) (H : K (nI (minS m (999 - q.2.2.1.1 0))) f g) : Cl l G (d + 1) 0 0 mX11_ticksComing [.ref A, .int (nI m)] (sh, f, g, fR) (qi sh fR K) := by
  obtain ⟨hs, hp, hn, hP⟩ : StA sh fR A ∧ fR A 5 = some u ∧ fR (A + 40) 7 = some u ∧ StPl sh fR u := ⟨hr.1, hr.2.2.1, hr.2.2.2.2.1, hr.pl.1⟩
  obtain ⟨k, hC, -⟩ := t.2.2.1
  have h0 := ok.2.2.2.2.1.1
  refine VX11_ticksComing hs hp hn hP ?_
  rw [hC.t8, pk_sub h0]
  exact D_minN (by omega) (by omega) ⟨_, _, _, rfl, rfl, H⟩
theorem D_fitsMet {K : Int32 → FI → FL → Prop} {v na e T : Nat} (hr : PRs sh fR A u v) (t : PTd fR f A u na q) (ok : tdOK q) (he : e < 10) (hT : T ≤ 60) (hmet : ∀ r ∈ q.2.2.2.2, r.1 ≤ T ↔ q.2.2.1.1 0 + r.1 ≤ 999) (tb : TbC f A q p e (2 * (T + 1))) (H : K (bI (canS q p e)) f g) : Cl l G d 0 0 mX11_fitsMet [.ref A, .ref (A + 107 + e), .int (nI T)] (sh, f, g, fR) (qi sh fR K) := by
  obtain ⟨hs, hp, hn, hP⟩ : StA sh fR A ∧ fR A 5 = some u ∧ fR (A + 40) 7 = some u ∧ StPl sh fR u := ⟨hr.1, hr.2.2.1, hr.2.2.2.2.1, hr.pl.1⟩
  obtain ⟨-, -, -, -, -, t6, t7⟩ := t
  obtain ⟨-, r2, -⟩ := row_ok hs he
  have hl := ok.2.2.2.2.2.2.2.1
  have hb := ok.2.2.2.2.2.2.2.2
  refine VX11_fitsMet hs hp hn hP r2 ?_
  have no : canS q p e = false → qi sh fR K (some (.int (nI 0))) (sh, f, g, fR) := fun h => ⟨_, _, _, rfl, rfl, by rw [h] at H; exact H⟩
  have loop : ∀ (rest done : List (Nat × Nat × Nat)), q.2.2.2.2 = done ++ rest → (∀ r ∈ done, (decide (q.2.2.1.1 0 + r.1 ≤ 999) && (gotS q.1 q.2.1 q.2.2.1 p e r.1 r.2.1 == r.2.2)) = true) → LpX11_fitsMet_2 l G d (qi sh fR K) sh fR A u (A + 107 + e) f g (nI T) (nI (3 * done.length)) := by
    intro rest
    induction rest with
    | nil =>
      intro done ed hd
      rw [List.append_nil] at ed
      refine VX11_fitsMet_2 hs hp hn hP r2 ?_
      rw [t6, pk_mul, ed]
      refine ⟨fun _ => ⟨_, _, _, rfl, rfl, ?_⟩, fun c => absurd (nI_le (Nat.le_refl _) (by rw [ed] at hl; omega)) c⟩
      have : canS q p e = true := by
        unfold canS
        rw [ed]
        exact List.all_eq_true.mpr hd
      rw [this] at H
      exact H
    | cons r rest ih =>
      intro done ed hd
      have hk : q.2.2.2.2[done.length]? = some r := by rw [ed]; exact at_len
      have hlt := (List.getElem?_eq_some_iff.mp hk).1
      have hmem := List.mem_of_getElem? hk
      obtain ⟨b1, b2, b3⟩ := hb r hmem
      obtain ⟨e1, e2, e3⟩ := t7 _ r hk
      have bad : (decide (q.2.2.1.1 0 + r.1 ≤ 999) && (gotS q.1 q.2.1 q.2.2.1 p e r.1 r.2.1 == r.2.2)) = false → canS q p e = false := fun hf => by
        unfold canS
        rw [List.all_eq_false]
        exact ⟨r, hmem, by rw [hf]; decide⟩
      refine VX11_fitsMet_2 hs hp hn hP r2 ?_
      rw [t6, pk_mul, clN (show 3 * done.length < 2 ^ 31 by omega), nI_add, nI_add, clN (show 3 * done.length + 1 < 2 ^ 31 by omega), clN (show 3 * done.length + 2 < 2 ^ 31 by omega), e1, e2, e3, pk_mul, nI_add, clN (by omega), nI_add]
      refine ⟨fun c => absurd c (nI_ge (by omega) (by omega)), fun _ => ⟨inbN (by omega) (by decide), fun c => no (bad ?_), fun c => ⟨inbN (by omega) (by decide), inbN (by omega) (by decide), inbN (by omega) (by decide), inbN (by omega) (by decide), ?_⟩⟩⟩
      · have := (nI_ltI (by omega) (by omega)).mp c
        have hh := hmet r hmem
        rw [decide_eq_false (by omega)]
        rfl
      · have hle : r.1 ≤ T := Nat.not_lt.mp (fun z => c (nI_lt z (by omega)))
        have h9 := (hmet r hmem).mp hle
        obtain ⟨tb1, tb2⟩ := tb (2 * r.1 + r.2.1) (by omega)
        rw [show (2 * r.1 + r.2.1) / 2 = r.1 by omega, show (2 * r.1 + r.2.1) % 2 = r.2.1 by omega] at tb1 tb2
        rw [tb1]
        refine ⟨fun c2 => ?_, fun c2 => no (bad ?_)⟩
        · have := ih (done ++ [r]) (by rw [ed]; simp) (fun y hy => ?_)
          · rw [List.length_append, List.length_singleton, Nat.mul_add] at this
            exact this
          · rcases List.mem_append.mp hy with z | z
            · exact hd y z
            · rw [List.mem_singleton.mp z, decide_eq_true h9]
              simp only [Bool.true_and, beq_iff_eq]
              exact (nI_eq (by omega) (by omega)).mp c2
        · rw [show (gotS q.1 q.2.1 q.2.2.1 p e r.1 r.2.1 == r.2.2) = false from by simp; exact fun z => c2 (by rw [z]), Bool.and_false]
  exact loop q.2.2.2.2 [] rfl (fun r hr => by cases hr)
end TI
