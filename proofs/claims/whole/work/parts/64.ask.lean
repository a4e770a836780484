/-! the class' calls: segments -/
theorem i32_nn {a : Int32} (c : ¬ a < 0) : a = nI a.toNatClampNeg ∧ a.toNatClampNeg < 2 ^ 31 := by
  rcases pk_ix a (n := 2147483647) (by decide) with q | q | ⟨j, hj, e⟩
  · exact absurd q c
  · have h2 : a.toInt = 2147483647 := by
      have h3 := Int32.le_iff_toInt_le.mp q
      have h4 := a.toInt_lt
      rw [show (nI 2147483647).toInt = 2147483647 from by decide] at h3
      omega
    have : a = nI 2147483647 := Int32.toInt_inj.mp h2
    rw [this]
    decide
  · rw [e, clN (by omega)]
    exact ⟨rfl, by omega⟩
theorem sumS_le (key a n : Nat) : sumS key a n ≤ 250 * n := by
  induction n with
  | zero => exact Nat.le_refl _
  | succ n ih =>
    show sumS key a n + _ % 251 ≤ _
    have := Nat.mod_lt ((a + n) * (a + n) + 7 * (a + n) + key) (show 0 < 251 by decide)
    omega
def flies (s : Sg) : Bool := s.2.2.2.2.2.2.1
section PC
variable {l : Launch} {G : Gx} {d : Nat} {sh : Sh} {fR : FRt} {A x u win : Nat} {f : FI} {g : FL} {Z : Zs} {π : Pl}
theorem D_flyingRow {K : Int32 → FI → FL → Prop} {a : Int32} {t : Int} {lg : List Sg} (hs : StW sh fR x) (hg : PWg f x t lg) (H1 : ∀ i s k, lg[i]? = some s → a = nI k → k < 2 ^ 31 → (lg.filter flies)[k]? = some s → K (nI i) f g) (H0 : (∀ k, a = nI k → k < 2 ^ 31 → (lg.filter flies)[k]? = none) → K (-1) f g) : Cl l G d 0 0 mX2_flyingRow [.ref (x + 5), .int a] (sh, f, g, fR) (qi sh fR K) := by
  obtain ⟨g1, g2, g3⟩ := hg
  refine VX2_flyingRow hs ?_
  by_cases hneg : a < 0
  · refine VX2_flyingRow_4 hs ?_
    have : K (-1) f g := H0 (fun k e hk => absurd (e ▸ hneg) (nI_pos hk))
    exact ⟨fun _ => ⟨_, _, _, rfl, rfl, this⟩, fun _ => ⟨fun _ => ⟨_, _, _, rfl, rfl, this⟩, fun c => absurd hneg c⟩⟩
  · obtain ⟨e, hk⟩ := i32_nn hneg
    have loop : ∀ (rest done : List Sg) (k : Nat), lg = done ++ rest → k < 2 ^ 31 → (∀ i s, lg[i]? = some s → (rest.filter flies)[k]? = some s → K (nI i) f g) → ((rest.filter flies)[k]? = none → K (-1) f g) → LpX2_flyingRow_4 l G d (qi sh fR K) sh fR x f g (nI k) (nI done.length) := by
      intro rest
      induction rest with
      | nil =>
        intro done k ed hk h1 h0
        rw [List.append_nil] at ed
        subst ed
        refine VX2_flyingRow_4 hs ?_
        rw [g1]
        exact ⟨fun _ => ⟨_, _, _, rfl, rfl, h0 rfl⟩, fun c => absurd (nI_le (Nat.le_refl _) (by omega)) c⟩
      | cons s rest ih =>
        intro done k ed hk h1 h0
        have hi : lg[done.length]? = some s := by rw [ed]; exact at_len
        have hlt : done.length < lg.length := (List.getElem?_eq_some_iff.mp hi).1
        have hf : f (x + 13) done.length = bI (flies s) := (g3 _ s hi).2.2.2.2.2.2.2
        have nx : ∀ k', k' < 2 ^ 31 → (∀ i s, lg[i]? = some s → (rest.filter flies)[k']? = some s → K (nI i) f g) → ((rest.filter flies)[k']? = none → K (-1) f g) → LpX2_flyingRow_34 l G d (qi sh fR K) sh fR x f g (nI k') (nI done.length) := fun k' hk' a1 a0 => by
          refine VX2_flyingRow_34 hs ?_
          have := ih (done ++ [s]) k' (by rw [ed]; simp) hk' a1 a0
          rw [List.length_append, List.length_singleton] at this
          rw [nI_add]
          exact this
        refine VX2_flyingRow_4 hs ?_
        rw [g1, clN (by omega), hf]
        refine ⟨fun c => absurd c (nI_ge hlt (by omega)), fun _ => ⟨fun c => absurd c (nI_pos hk), fun _ => ⟨inbN (by omega) (by decide), fun c => ?_, fun c => ⟨fun ck => ?_, fun ck => ?_⟩⟩⟩⟩
        · have e0 : flies s = false := bI_0.mp c
          rw [List.filter_cons_of_neg (by rw [e0]; decide)] at h1 h0
          exact nx k hk h1 h0
        · have e1 : flies s = true := bI_ne0 c
          rw [List.filter_cons_of_pos e1] at h1 h0
          obtain ⟨k', rfl⟩ : ∃ k', k = k' + 1 := ⟨k - 1, by
            have : k ≠ 0 := fun z => ck (by rw [z]; rfl)
            omega⟩
          rw [show nI (k' + 1) + (-1) = nI k' from by rw [show (-1 : Int32) = - nI 1 from rfl, ← Int32.sub_eq_add_neg, pk_sub (by omega)]; rfl]
          exact nx k' (by omega) (fun i s' a b => h1 i s' a (by rw [List.getElem?_cons_succ]; exact b)) (fun a => h0 (by rw [List.getElem?_cons_succ]; exact a))
        · have e1 : flies s = true := bI_ne0 c
          have hk0 : k = 0 := (nI_eq (b := 0) hk (by decide)).mp ck
          subst hk0
          rw [List.filter_cons_of_pos e1] at h1
          exact ⟨_, _, _, rfl, rfl, h1 _ s hi rfl⟩
    rw [e]
    refine loop lg [] _ rfl hk (fun i s a b => H1 i s _ a e hk b) (fun c => H0 (fun k ek hk' => ?_))
    have : a.toNatClampNeg = k := (nI_eq hk hk').mp (e.symm.trans ek)
    rw [← this]
    exact c
theorem D_sumOf {K : Int32 → FI → FL → Prop} {a n : Nat} (hU : StPl sh fR u) (h4 : f u 4 = nI (π.1 4)) (hk : π.1 4 ≤ 999) (ha : a + n ≤ 1000) (H : K (nI (sumS (π.1 4) a n % 251)) f g) : Cl l G d 0 0 mX6_sumOf [.ref u, .int (nI a), .int (nI n)] (sh, f, g, fR) (qi sh fR K) := by
  have loop : ∀ r k, r + k = n → LpX6_sumOf_5 l G d (qi sh fR K) sh fR u f g (nI a) (nI n) (nI (sumS (π.1 4) a k)) (nI (a + k)) := by
    intro r
    induction r with
    | zero =>
      intro k hk
      have e : k = n := by omega
      subst e
      have := sumS_le (π.1 4) a k
      refine VX6_sumOf_5 hU ?_
      rw [nI_add, pk_rem (by omega) (by decide) (by decide)]
      exact ⟨fun _ => ⟨_, _, _, rfl, rfl, H⟩, fun c => absurd (nI_le (Nat.le_refl _) (by omega)) c⟩
    | succ r ih =>
      intro k hk
      refine VX6_sumOf_5 hU ?_
      have := Nat.mul_le_mul (show a + k ≤ 1000 by omega) (show a + k ≤ 1000 by omega)
      have hsl := sumS_le (π.1 4) a k
      rw [nI_add, nI_add, h4, pk_mul, pk_mul, nI_add, nI_add, pk_rem (a := sumS (π.1 4) a k) (by omega) (by decide) (by decide), pk_rem (by omega) (by decide) (by decide), nI_add]
      refine ⟨fun c => absurd c (nI_ge (by omega) (by omega)), fun _ w2 hw => ?_⟩
      rw [hw]
      exact ih (k + 1) (by omega)
  refine VX6_sumOf hU ?_
  exact loop n 0 rfl
theorem P_segment {a b : Int32} (h : PSt sh fR f A Z) (hz : zOK Z) : Cl l G (d + 1) 0 0 mX11_segment [.ref A, .int a, .int b] (sh, f, g, fR) (RP A sh fR f g Z (segmentS Z a b)) := by
  obtain ⟨u, v, hr, hs, hp, hn, hP, hx⟩ := h.at
  refine VX11_segment hs hp hn hP ?_
  unfold segmentS
  cases ht : Z.2.2.2.2 with
  | none => exact ⟨fun c => absurd (hx.no ht) c, fun _ => .rf h⟩
  | some q =>
    obtain ⟨h4, na, -, -, t⟩ := hx.td ht
    have hq := hz.2.2.2.2 q ht
    obtain ⟨m, hC, hI⟩ := t.2.2.1
    have hW : StW sh fR (A + 40) := hs.2.2.2.1
    have hg := hC.2.2.2.2.1
    have hsg := hq.2.2.2.2.1.2.1.2.2.1
    have hlen := hg.2.1
    have efly : (q.2.2.1.2.2.1.filter flies).length = flyA q.2.2.1 := by rw [← List.countP_eq_length_filter]; rfl
    have hfl : flyA q.2.2.1 ≤ 500 := Nat.le_trans (by rw [← efly]; exact List.length_filter_le _ _) hlen
    have πl := hq.1.1
    have πk := hq.1.2.2.2.1
    dsimp only
    refine ⟨fun _ => ?_, fun c => absurd c h4⟩
    refine D_flyingRow hW hg (fun i s k hi ea hk hs' => ⟨fun _ => ?_, fun c => ?_⟩) (fun hno => ⟨fun c => absurd rfl c, fun _ => .is h ?_⟩)
    · have hkl : k < flyA q.2.2.1 := by
        have := (List.getElem?_eq_some_iff.mp hs').1
        omega
      have hil := (List.getElem?_eq_some_iff.mp hi).1
      obtain ⟨c1, c2, c3, c4, c5, -⟩ := hg.2.2 i s hi
      obtain ⟨-, -, -, hsc, -⟩ := hsg s (List.mem_of_getElem? hi)
      subst ea
      rw [ixS_in hkl (by omega)]
      dsimp only
      rw [show (List.filter (fun s : Sg => s.2.2.2.2.2.2.1) q.2.2.1.2.2.1)[k]? = some s from hs', clN (by omega)]
      dsimp only
      have ib : inb (nI i) 512 := inbN (by omega) (by decide)
      have ex : ∀ (j : Nat) (y : Int32), j < 6 → b = nI j → y = nI (segN q.1 s j) → RP A sh fR f g Z (match ixS b 6 with | none => -1 | some j => nI (segN q.1 s j)) (some (.int y)) (sh, f, g, fR) := fun j y hj eb e2 => by
        rw [eb, ixS_in hj (by decide)]
        exact .is h e2
      refine ⟨fun z => ⟨ib, ex 0 _ (by decide) z c1⟩, fun z => ⟨ib, ex 1 _ (by decide) z c2⟩, fun z => ⟨ib, ex 2 _ (by decide) z c3⟩, fun z => ⟨ib, ex 3 _ (by decide) z c4⟩, fun z => ⟨ib, ex 4 _ (by decide) z c5⟩, fun z => ⟨ib, ib, ?_⟩, fun z => ?_⟩
      · rw [c3, c4]
        exact D_sumOf hP (t.1.1 4 (by decide)) πk (by omega) (ex 5 _ (by decide) z rfl)
      · rcases pk_ix b (n := 6) (by decide) with y | y | ⟨i, hi, rfl⟩
        · rw [ixS_lo y]; exact .rf h
        · rw [ixS_hi y]; exact .rf h
        · exfalso
          obtain ⟨z0, z1, z2, z3, z4, z5⟩ := z
          have nn : ∀ k, ¬ nI i = nI k → i ≠ k := fun k z e => z (by rw [e])
          have := nn _ z0; have := nn _ z1; have := nn _ z2; have := nn _ z3; have := nn _ z4; have := nn _ z5
          omega
    · have hil := (List.getElem?_eq_some_iff.mp hi).1
      exact absurd c (nI_m1 (by omega))
    · rcases pk_ix a (n := flyA q.2.2.1) (by omega) with y | y | ⟨k, hk, rfl⟩
      · rw [ixS_lo y]
      · rw [ixS_hi y]
      · have := List.getElem?_eq_none_iff.mp (hno k rfl (by omega))
        omega
end PC
