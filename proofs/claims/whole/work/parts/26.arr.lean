/-! the reference's tick: what arrives -/
section C4
variable {l : Launch} {G : Gx} {d : Nat} {sh : Sh} {fR : FRt} {B v b win : Nat} {f : FI} {g : FL} {w : Wd} {m : List (Nat × Nat)} {π : Pl} {dl : Nat → Nat}
theorem bI_and0 (x : Int32) : x &&& nI 0 = bI false := by
  show x &&& 0 = 0
  simp
theorem bI_and1 (c : Bool) : bI c &&& nI 1 = bI c := by cases c <;> decide
theorem C_areTaken {K : Int32 → FI → FL → Prop} {k : Nat} {s : Sg} (hs : StM sh fR B) (hv : v < 22) (hg : RMg f B v w.2.2.1) (ht : RMt f B v w.2.2.2.2.2.1) (hk : w.2.2.1[k]? = some s) (hb : s.2.2.1 + s.2.2.2.1 ≤ 200) (H : K (bI (allTk w s.2.2.1 s.2.2.2.1)) f g) : Cl l G (d + 1) 0 0 mX12_areTaken [.ref B, .int (nI v), .int (nI k), .int (nI 0)] (sh, f, g, fR) (qi sh fR K) := by
  have hlt : k < 480 := Nat.lt_of_lt_of_le (List.getElem?_eq_some_iff.mp hk).1 hg.2.1
  have e2 : f (B + 24) (8 * (480 * v + k) + 2) = nI s.2.2.1 := hg.2.2 k s hk 2 (by decide)
  have e3 : f (B + 24) (8 * (480 * v + k) + 3) = nI s.2.2.2.1 := hg.2.2 k s hk 3 (by decide)
  have loop : ∀ n j, n + j = s.2.2.2.1 → LpX12_areTaken_12 l G d (qi sh fR K) sh fR B f g (nI v) (nI k) (nI 0) (bI (allTk w s.2.2.1 j)) (nI (s.2.2.1 + j)) := by
    intro n
    induction n with
    | zero =>
      intro j hj
      rw [Nat.zero_add] at hj
      subst hj
      refine VX12_areTaken_12 hs ?_
      simp (disch := omega) only [pk_mul, nI_add, clN]
      rw [e2, e3, nI_add]
      exact ⟨inbN (by omega) (by decide), inbN (by omega) (by decide), fun _ => ⟨bI_01 _, _, _, _, rfl, rfl, H⟩, fun z => absurd (nI_le (Nat.le_refl _) (by omega)) z⟩
    | succ n ih =>
      intro j hj
      have ih' := ih (j + 1) (by omega)
      have e7 : f (B + 27) (200 * v + (s.2.2.1 + j)) = bI (w.2.2.2.2.2.1 (s.2.2.1 + j)) := ht _ (by omega)
      have nx : ∀ x, x = bI (allTk w s.2.2.1 (j + 1)) → LpX12_areTaken_77 l G d (qi sh fR K) sh fR B f g (nI v) (nI k) (nI 0) x (nI (s.2.2.1 + j)) := by
        intro x hx
        refine VX12_areTaken_77 hs ?_
        rw [hx, nI_add]
        exact ih'
      refine VX12_areTaken_12 hs ?_
      simp (disch := omega) only [pk_mul, nI_add, clN]
      rw [e2, e3, nI_add, e7]
      refine ⟨inbN (by omega) (by decide), inbN (by omega) (by decide), fun z => absurd z (nI_ge (by omega) (by omega)), fun _ => ⟨inbN (by omega) (by decide), fun c x hx => ⟨fun _ => nx x ?_, fun z => absurd rfl z⟩, fun c x hx => ⟨fun _ => nx x ?_, fun z => absurd rfl z⟩⟩⟩
      · have z : w.2.2.2.2.2.1 (s.2.2.1 + j) = false := by
          cases hz : w.2.2.2.2.2.1 (s.2.2.1 + j) with
          | false => rfl
          | true => exact absurd (bI_1.mpr hz) c
        rw [hx, bI_and0]
        simp [allTk, z]
      · have z := bI_1.mp c
        rw [hx, bI_and1]
        simp [allTk, z]
  refine VX12_areTaken hs ?_
  simp (disch := omega) only [pk_mul, nI_add, clN]
  refine ⟨inbN (by omega) (by decide), fun x hx => ?_⟩
  rw [hx, e2]
  exact loop s.2.2.2.1 0 rfl
theorem C_takes {K : Int32 → FI → FL → Prop} {k : Nat} {s : Sg} (hs : StM sh fR B) (hv : v < 22) (hR : RM f B v w m) (hk : w.2.2.1[k]? = some s) (hb : s.2.2.1 + s.2.2.2.1 ≤ 200) (H : ∀ (f' : FI) x, RM f' B v (takS w s.2.2.1 s.2.2.2.1) m → (∀ r i, ¬ (r = B + 27 ∧ 200 * v ≤ i ∧ i < 200 * v + 200) → f' r i = f r i) → K x f' g) : Cl l G (d + 1) 0 0 mX12_areTaken [.ref B, .int (nI v), .int (nI k), .int (nI 1)] (sh, f, g, fR) (qi sh fR K) := by
  have hg := hR.2.2.1
  have hlt : k < 480 := Nat.lt_of_lt_of_le (List.getElem?_eq_some_iff.mp hk).1 hg.2.1
  have e2 : f (B + 24) (8 * (480 * v + k) + 2) = nI s.2.2.1 := hg.2.2 k s hk 2 (by decide)
  have e3 : f (B + 24) (8 * (480 * v + k) + 3) = nI s.2.2.2.1 := hg.2.2 k s hk 3 (by decide)
  have loop : ∀ n j (f0 : FI) (c : Bool), n + j = s.2.2.2.1 → (∀ r i, ¬ (r = B + 27 ∧ 200 * v ≤ i ∧ i < 200 * v + 200) → f0 r i = f r i) → RMt f0 B v (fun b => (decide (s.2.2.1 ≤ b) && decide (b < s.2.2.1 + j)) || w.2.2.2.2.2.1 b) → LpX12_areTaken_12 l G d (qi sh fR K) sh fR B f0 g (nI v) (nI k) (nI 1) (bI c) (nI (s.2.2.1 + j)) := by
    intro n
    induction n with
    | zero =>
      intro j f0 c hj e0 ht
      rw [Nat.zero_add] at hj
      subst hj
      refine VX12_areTaken_12 hs ?_
      simp (disch := omega) only [pk_mul, nI_add, clN]
      rw [e0 _ _ (by omega), e2, e0 _ _ (by omega), e3, nI_add]
      refine ⟨inbN (by omega) (by decide), inbN (by omega) (by decide), fun _ => ⟨bI_01 _, _, _, _, rfl, rfl, H f0 _ ?_ e0⟩, fun z => absurd (nI_le (Nat.le_refl _) (by omega)) z⟩
      exact hR.rept (fun jj a b c i => e0 _ _ (by omega)) ht
    | succ n ih =>
      intro j f0 c hj e0 ht
      have e7 : f0 (B + 27) (200 * v + (s.2.2.1 + j)) = bI _ := ht _ (by omega)
      have nx : ∀ c' : Bool, ∀ x, x = bI c' → LpX12_areTaken_77 l G d (qi sh fR K) sh fR B (up2 f0 (B + 27) (200 * v + (s.2.2.1 + j)) (nI 1)) g (nI v) (nI k) (nI 1) x (nI (s.2.2.1 + j)) := by
        intro c' x hx
        refine VX12_areTaken_77 hs ?_
        rw [hx, nI_add]
        refine ih (j + 1) _ c' (by omega) (fun r i hz => ?_) (fun b hb => ?_)
        · rw [up2_ne (by omega)]
          exact e0 r i hz
        · by_cases eb : b = s.2.2.1 + j
          · subst eb
            rw [up2_eq]
            simp [bI]
          · rw [up2_k (by omega), ht b hb]
            have : (decide (s.2.2.1 ≤ b) && decide (b < s.2.2.1 + j)) = (decide (s.2.2.1 ≤ b) && decide (b < s.2.2.1 + (j + 1))) := by
              rw [Bool.eq_iff_iff]
              simp only [Bool.and_eq_true, decide_eq_true_eq]
              omega
            dsimp only
            rw [this]
      refine VX12_areTaken_12 hs ?_
      simp (disch := omega) only [pk_mul, nI_add, clN]
      rw [e0 _ (8 * (480 * v + k) + 2) (by omega), e2, e0 _ (8 * (480 * v + k) + 3) (by omega), e3, nI_add]
      refine ⟨inbN (by omega) (by decide), inbN (by omega) (by decide), fun z => absurd z (nI_ge (by omega) (by omega)), fun _ => ⟨inbN (by omega) (by decide), fun _ x hx => ⟨fun z => absurd z (by decide), fun _ => ⟨inbN (by omega) (by decide), nx false x ?_⟩⟩, fun _ x hx => ⟨fun z => absurd z (by decide), fun _ => ⟨inbN (by omega) (by decide), nx c x ?_⟩⟩⟩⟩
      · rw [hx, bI_and0]
      · rw [hx, bI_and1]
  refine VX12_areTaken hs ?_
  simp (disch := omega) only [pk_mul, nI_add, clN]
  refine ⟨inbN (by omega) (by decide), fun x hx => ?_⟩
  rw [hx, e2]
  refine loop s.2.2.2.1 0 f true (by omega) (fun _ _ _ => rfl) (fun b hb => ?_)
  rw [hR.2.2.2.2.2.1 b hb]
  congr 1
  have : (decide (s.2.2.1 ≤ b) && decide (b < s.2.2.1 + 0)) = false := by
    rw [Bool.eq_false_iff]
    simp only [ne_eq, Bool.and_eq_true, decide_eq_true_eq]
    omega
  dsimp only
  rw [this]
  rfl
def rsL (t : Nat) (D : List Sg) : List Sg := D.filter (fun s => due t s && !s.2.2.2.2.2.2.2)
def wrL (t : Nat) (D : List Sg) : List Nat := (D.filter (fun s => due t s && s.2.2.2.2.2.2.2)).map (fun s => s.1)
/-- the lists of those that arrived in this tick -/
def QA (f : FI) (B : Nat) (lg rs : List Sg) (wr : List Nat) : Prop := f B 57 = nI rs.length ∧ f B 59 = nI wr.length ∧ (∀ (k : Nat) (s : Sg), rs[k]? = some s → ∃ i, f (B + 32) k = nI i ∧ lg[i]? = some s) ∧ ∀ (k p : Nat), wr[k]? = some p → f (B + 33) k = nI p
theorem arr1_n (s : Sg) (w1 : Wd) (i : Nat) (hi : i < 10) : (arr1 win w1 s).1 i = w1.1 i := by
  have e : ∀ c, (refS w1 c).1 i = w1.1 i := fun c => by
    show fu w1.1 (10 + c) _ i = _
    unfold fu
    rw [if_neg (by omega)]
  unfold arr1
  split
  · exact e 1
  · split
    · exact e 2
    · split
      · exact e 3
      · rfl
theorem arr1_sg (s : Sg) (w1 : Wd) (lg : List Sg) : arr1 win (wsg w1 lg) s = wsg (arr1 win w1 s) lg := by
  unfold arr1
  have : allTk (wsg w1 lg) s.2.2.1 s.2.2.2.1 = allTk w1 s.2.2.1 s.2.2.2.1 := by
    generalize s.2.2.2.1 = n
    induction n with
    | zero => rfl
    | succ n ih =>
      unfold allTk
      rw [ih]
      rfl
  rw [this]
  show (if _ then _ else if w1.1 4 + win < _ then _ else _) = _
  split
  · rfl
  · split
    · rfl
    · split <;> rfl
theorem C_arrives {K : FI → FL → Prop} (hs : StM sh fR B) (hv : v < 22) (hR : RM f B v w m) (h0 : w.1 0 ≤ 1000) (h4 : w.1 4 ≤ 1000) (hok : ∀ s ∈ w.2.2.1, sOK s ∧ s.2.2.1 + s.2.2.2.1 ≤ 200) (hw : f B 52 = nI win) (hwin : win ≤ 99)
    (H : ∀ f' : FI, RM f' B v (arrS win w) m → FrQ B v f f' → QA f' B w.2.2.1 (rsL (w.1 0) w.2.2.1) (wrL (w.1 0) w.2.2.1) → K f' g) : Cl l G (d + 2) 0 0 mX12_arrives [.ref B, .int (nI v)] (sh, f, g, fR) (qv sh fR K) := by
  have hl := hR.2.2.1.2.1
  have loop : ∀ (R D : List Sg) (f0 : FI) (wk : Wd), w.2.2.1 = D ++ R → wk = (D.filter (due (w.1 0))).foldl (arr1 win) w → RM f0 B v (wsg wk (D.map (fun s => if due (w.1 0) s then sgAr s none else s) ++ R)) m → FrQ B v f f0 → QA f0 B w.2.2.1 (rsL (w.1 0) D) (wrL (w.1 0) D) → LpX12_arrives_12 l G d (qv sh fR K) sh fR B f0 g (nI v) (nI D.length) := by
    intro R
    induction R with
    | nil =>
      intro D f0 wk e hwk hR0 hF hQ
      rw [List.append_nil] at e hR0
      obtain ⟨n6, -, -⟩ := hR0.2.2.1
      replace n6 : f0 (B + 23) (40 * v + 6) = nI (D.map (fun s => if due (w.1 0) s then sgAr s none else s)).length := n6
      rw [List.length_map] at n6
      rw [e] at hl
      refine VX12_arrives_12 hs ?_
      simp (disch := omega) only [pk_mul, nI_add, clN]
      rw [n6]
      refine ⟨inbN (by omega) (by decide), fun _ => ⟨_, _, rfl, rfl, H f0 ?_ hF ?_⟩, fun z => absurd (nI_le (Nat.le_refl _) (by omega)) z⟩
      · unfold arrS
        rw [e, ← hwk]
        exact hR0
      · rw [e] at hQ ⊢
        exact hQ
    | cons s R ih =>
      intro D f0 wk e hwk hR0 hF hQ
      have hmem : s ∈ w.2.2.1 := by rw [e]; simp
      have hsk : w.2.2.1[D.length]? = some s := by rw [e]; exact at_len
      obtain ⟨⟨q1, q2, q3, q4, q5, q6⟩, q7⟩ := hok s hmem
      have hDl : D.length + 1 + R.length ≤ 480 := by
        have : w.2.2.1.length = D.length + (R.length + 1) := by rw [e]; simp
        omega
      have e0 : wk.1 0 = w.1 0 ∧ wk.1 4 = w.1 4 := by
        rw [hwk]
        generalize D.filter (due (w.1 0)) = X
        clear hwk hR0 hQ
        have : ∀ (X : List Sg) (w1 : Wd) (i : Nat), i < 10 → (X.foldl (arr1 win) w1).1 i = w1.1 i := by
          intro X
          induction X with
          | nil => intro w1 i hi; rfl
          | cons x X ihx => intro w1 i hi; rw [List.foldl_cons, ihx _ i hi, arr1_n x w1 i hi]
        exact ⟨this X w 0 (by decide), this X w 4 (by decide)⟩
      have ih2 := ih (D ++ [s])
      rw [List.length_append, List.length_singleton] at ih2
      generalize hDm : D.map (fun s => if due (w.1 0) s then sgAr s none else s) = Dm at hR0
      have hDml : Dm.length = D.length := by rw [← hDm, List.length_map]
      have hkD : (Dm ++ s :: R)[D.length]? = some s := by rw [← hDml]; exact at_len
      obtain ⟨n6, -, hg⟩ := hR0.2.2.1
      replace n6 : f0 (B + 23) (40 * v + 6) = nI (Dm ++ s :: R).length := n6
      replace hg : ∀ i, i < 8 → f0 (B + 24) (8 * (480 * v + D.length) + i) = sE s i := hg D.length s hkD
      have hlen : (Dm ++ s :: R).length = D.length + (R.length + 1) := by rw [List.length_append, hDml]; rfl
      rw [hlen] at n6
      have n0 : f0 (B + 23) (40 * v + 0) = nI (w.1 0) := by rw [← e0.1]; exact hR0.1 0 (by unfold nset; omega)
      have n4 : f0 (B + 23) (40 * v + 4) = nI (w.1 4) := by rw [← e0.2]; exact hR0.1 4 (by unfold nset; omega)
      have n11 : f0 (B + 23) (40 * v + 11) = nI (wk.1 11) := hR0.1 11 (by unfold nset; omega)
      have n12 : f0 (B + 23) (40 * v + 12) = nI (wk.1 12) := hR0.1 12 (by unfold nset; omega)
      have hrl : (rsL (w.1 0) D).length ≤ D.length := List.length_filter_le _ _
      have hwl : (wrL (w.1 0) D).length ≤ D.length := by unfold wrL; rw [List.length_map]; exact List.length_filter_le _ _
      have h52 : f0 B 52 = nI win := by rw [hF _ _ (by unfold tchQ tch; omega)]; exact hw
      refine VX12_arrives_12 hs ?_
      simp (disch := omega) only [pk_mul, nI_add, clN, Nat.reduceAdd]
      rw [hQ.1, hQ.2.1]
      simp (disch := omega) only [pk_mul, nI_add, clN, Nat.reduceAdd]
      rw [n6, hg 5 (by decide), n0, up2_k (show ¬ 8 * (480 * v + D.length) + 7 = 8 * (480 * v + D.length) + 5 by omega), hg 7 (by decide), up2_k (show ¬ 8 * (480 * v + D.length) + 2 = 8 * (480 * v + D.length) + 5 by omega), hg 2 (by decide), up2_k (show ¬ 8 * (480 * v + D.length) + 3 = 8 * (480 * v + D.length) + 5 by omega), hg 3 (by decide), up2_k (show ¬ 8 * (480 * v + D.length) + 0 = 8 * (480 * v + D.length) + 5 by omega), hg 0 (by decide), n4, h52, n11, n12]
      have t1 : ∀ k, s.2.2.2.2.2.1 = some k → k < 2 ^ 31 := fun k hk => by have := q6 k hk; omega
      refine ⟨inbN (by omega) (by decide), fun z => absurd z (nI_ge (by omega) (by omega)), fun _ => ⟨inbN (by omega) (by decide), inbN (by omega) (by decide), fun c1 => ⟨inbN (by omega) (by decide), inbN (by omega) (by decide), ?_, ?_⟩, fun c1 => ?_⟩⟩
      · intro c2
        have hdue : due (w.1 0) s = true := by
          unfold due
          have := (oI_some t1 (by omega)).mp c1
          rw [this]
          simp
        have hwr : s.2.2.2.2.2.2.2 = false := by
          cases hz : s.2.2.2.2.2.2.2 with
          | false => rfl
          | true => exact absurd (bI_1.mpr hz) c2
        have er : rsL (w.1 0) (D ++ [s]) = rsL (w.1 0) D ++ [s] := by unfold rsL; rw [List.filter_append]; simp [hdue, hwr]
        have ew : wrL (w.1 0) (D ++ [s]) = wrL (w.1 0) D := by unfold wrL; rw [List.filter_append]; simp [hwr]
        have ea : ((D ++ [s]).filter (due (w.1 0))).foldl (arr1 win) w = arr1 win wk s := by rw [List.filter_append, List.foldl_append, ← hwk]; simp [hdue]
        have em : (D ++ [s]).map (fun s => if due (w.1 0) s then sgAr s none else s) ++ R = Dm ++ sgAr s none :: R := by rw [List.map_append, hDm]; simp [hdue]
        rw [er, ew, ea, em] at ih2
        have hR1 : RM (up2 (up2 (up2 f0 (B + 24) (8 * (480 * v + D.length) + 5) (-1)) (B + 32) (rsL (w.1 0) D).length (nI D.length)) B 57 (nI ((rsL (w.1 0) D).length + 1))) B v (wsg wk (Dm ++ sgAr s none :: R)) m := by
          have := ((hR0.sgar hkD).oth (r := B + 32) (k := (rsL (w.1 0) D).length) (x := nI D.length) (by omega)).oth (r := B) (k := 57) (x := nI ((rsL (w.1 0) D).length + 1)) (by omega)
          have e5 : (Dm ++ s :: R).set D.length (sgAr s none) = Dm ++ sgAr s none :: R := by
            rw [← hDml, List.set_append_right _ _ (Nat.le_refl _), Nat.sub_self]
            rfl
          rw [show (wsg wk (Dm ++ s :: R)).2.2.1.set D.length (sgAr s none) = Dm ++ sgAr s none :: R from e5] at this
          exact this
        have hF1 : FrQ B v f (up2 (up2 (up2 f0 (B + 24) (8 * (480 * v + D.length) + 5) (-1)) (B + 32) (rsL (w.1 0) D).length (nI D.length)) B 57 (nI ((rsL (w.1 0) D).length + 1))) := ((hF.up (by unfold tchQ tch; omega)).up (by unfold tchQ tch; omega)).up (by unfold tchQ tch; omega)
        have hQ1 : QA (up2 (up2 (up2 f0 (B + 24) (8 * (480 * v + D.length) + 5) (-1)) (B + 32) (rsL (w.1 0) D).length (nI D.length)) B 57 (nI ((rsL (w.1 0) D).length + 1))) B w.2.2.1 (rsL (w.1 0) D ++ [s]) (wrL (w.1 0) D) := by
          refine ⟨by rw [up2_eq, List.length_append, List.length_singleton], ?_, fun k x hk => ?_, fun k x hk => ?_⟩
          · rw [up2_k (by decide), up2_r (by omega), up2_r (by omega)]
            exact hQ.2.1
          · rw [up2_r (by omega)]
            by_cases ek : k < (rsL (w.1 0) D).length
            · rw [List.getElem?_append_left ek] at hk
              rw [up2_k (by omega), up2_r (by omega)]
              exact hQ.2.2.1 k x hk
            · rw [List.getElem?_append_right (by omega)] at hk
              have e3 : k = (rsL (w.1 0) D).length := by
                have := (List.getElem?_eq_some_iff.mp hk).1
                simp at this
                omega
              subst e3
              simp at hk
              subst hk
              exact ⟨D.length, up2_eq, hsk⟩
          · rw [up2_r (by omega), up2_r (by omega), up2_r (by omega)]
            exact hQ.2.2.2 k x hk
        generalize up2 (up2 (up2 f0 (B + 24) (8 * (480 * v + D.length) + 5) (-1)) (B + 32) (rsL (w.1 0) D).length (nI D.length)) B 57 (nI ((rsL (w.1 0) D).length + 1)) = f1 at hR1 hF1 hQ1 ⊢
        have fin : ∀ f2 : FI, RM f2 B v (wsg (arr1 win wk s) (Dm ++ sgAr s none :: R)) m → (∀ r k, ¬ (r = B + 23 ∧ 40 * v ≤ k ∧ k < 40 * v + 40) → ¬ (r = B + 27 ∧ 200 * v ≤ k ∧ k < 200 * v + 200) → f2 r k = f1 r k) → LpX12_arrives_182 l G d (qv sh fR K) sh fR B f2 g (nI v) (nI D.length) := by
          intro f2 h1 h2
          refine VX12_arrives_182 hs ?_
          rw [nI_add]
          refine ih2 f2 _ (by rw [e]; simp) rfl h1 (fun r k hz => ?_) ⟨?_, ?_, fun k x hk => ?_, fun k x hk => ?_⟩
          · rw [h2 r k (fun z => hz (by unfold tchQ tch; omega)) (fun z => hz (by unfold tchQ tch; omega))]
            exact hF1 r k hz
          · rw [h2 _ _ (by omega) (by omega)]; exact hQ1.1
          · rw [h2 _ _ (by omega) (by omega)]; exact hQ1.2.1
          · rw [h2 _ _ (by omega) (by omega)]; exact hQ1.2.2.1 k x hk
          · rw [h2 _ _ (by omega) (by omega)]; exact hQ1.2.2.2 k x hk
        have hs1 : (wsg wk (Dm ++ sgAr s none :: R)).2.2.1[D.length]? = some (sgAr s none) := by
          show (Dm ++ sgAr s none :: R)[D.length]? = _
          rw [← hDml]
          exact at_len
        have n13 : f1 (B + 23) (40 * v + 13) = nI (wk.1 13) := hR1.1 13 (by unfold nset; omega)
        have eall : allTk (wsg wk (Dm ++ sgAr s none :: R)) s.2.2.1 s.2.2.2.1 = allTk wk s.2.2.1 s.2.2.2.1 := by
          generalize s.2.2.2.1 = n
          induction n with
          | zero => rfl
          | succ n ihn =>
            unfold allTk
            rw [ihn]
            rfl
        refine ⟨inbN (by omega) (by decide), inbN (by omega) (by decide), inbN (by omega) (by decide), inbN (by omega) (by decide), ?_, ?_⟩
        · intro c3
          have c4 : s.2.2.1 + s.2.2.2.1 ≤ w.1 4 + win := by
            replace c3 : nI s.2.2.1 + nI s.2.2.2.1 ≤ nI (w.1 4) + nI win := c3
            rw [nI_add, nI_add] at c3
            exact (nI_leI (by omega) (by omega)).mp c3
          refine C_areTaken hs hv hR1.2.2.1 hR1.2.2.2.2.2.1 hs1 q7 ⟨fun c5 => ?_, fun c5 => ⟨inbN (by omega) (by decide), inbN (by omega) (by decide), fin _ ?_ (fun r k z1 z2 => ?_)⟩⟩
          · have z5 : allTk wk s.2.2.1 s.2.2.2.1 = false := by rw [← eall]; exact bI_0.mp c5
            refine C_takes hs hv hR1 hs1 q7 (fun f2 x h1 h2 => fin f2 ?_ (fun r k z1 z2 => h2 r k z2))
            have ea2 : arr1 win wk s = takS wk s.2.2.1 s.2.2.2.1 := by
              unfold arr1
              rw [hwr, e0.2, if_neg (by decide), if_neg (by omega), z5, if_neg (by decide)]
            rw [ea2]
            exact h1
          · have z5 : allTk wk s.2.2.1 s.2.2.2.1 = true := by
              rw [← eall]
              cases hz : allTk (wsg wk (Dm ++ sgAr s none :: R)) s.2.2.1 s.2.2.2.1 with
              | true => rfl
              | false => exact absurd (bI_0.mpr hz) c5
            have ea2 : arr1 win wk s = wsc wk 13 (wk.1 13 + 1) := by
              unfold arr1
              rw [hwr, e0.2, if_neg (by decide), if_neg (by omega), z5, if_pos rfl]
              rfl
            rw [ea2, n13, nI_add]
            exact hR1.setn (by unfold nset; omega)
          · rw [up2_ne (by omega)]
        · intro c3
          have c4 : w.1 4 + win < s.2.2.1 + s.2.2.2.1 := Nat.not_le.mp (fun z => c3 (by
            show nI s.2.2.1 + nI s.2.2.2.1 ≤ nI (w.1 4) + nI win
            rw [nI_add, nI_add]
            exact (nI_leI (by omega) (by omega)).mpr z))
          refine ⟨inbN (by omega) (by decide), inbN (by omega) (by decide), fin _ ?_ (fun r k z1 z2 => ?_)⟩
          · have ea2 : arr1 win wk s = wsc wk 12 (wk.1 12 + 1) := by
              unfold arr1
              rw [hwr, e0.2, if_neg (by decide), if_pos (by omega)]
              rfl
            rw [ea2, nI_add]
            exact hR1.setn (by unfold nset; omega)
          · rw [up2_ne (by omega)]
      · intro c2
        have hdue : due (w.1 0) s = true := by
          unfold due
          have := (oI_some t1 (by omega)).mp c1
          rw [this]
          simp
        have hwr : s.2.2.2.2.2.2.2 = true := bI_1.mp c2
        have er : rsL (w.1 0) (D ++ [s]) = rsL (w.1 0) D := by unfold rsL; rw [List.filter_append]; simp [hwr]
        have ew : wrL (w.1 0) (D ++ [s]) = wrL (w.1 0) D ++ [s.1] := by unfold wrL; rw [List.filter_append, List.map_append]; simp [hdue, hwr]
        have ea : ((D ++ [s]).filter (due (w.1 0))).foldl (arr1 win) w = arr1 win wk s := by rw [List.filter_append, List.foldl_append, ← hwk]; simp [hdue]
        have em : (D ++ [s]).map (fun s => if due (w.1 0) s then sgAr s none else s) ++ R = Dm ++ sgAr s none :: R := by rw [List.map_append, hDm]; simp [hdue]
        rw [er, ew, ea, em] at ih2
        refine ⟨inbN (by omega) (by decide), inbN (by omega) (by decide), inbN (by omega) (by decide), inbN (by omega) (by decide), ?_⟩
        refine VX12_arrives_182 hs ?_
        rw [nI_add, nI_add]
        refine ih2 _ _ (by rw [e]; simp) rfl ?_ ((((hF.up (by unfold tchQ tch; omega)).up (by unfold tchQ tch; omega)).up (by unfold tchQ tch; omega)).up (by unfold tchQ tch; omega)) ⟨?_, ?_, fun k x hk => ?_, fun k x hk => ?_⟩
        · have ea2 : arr1 win wk s = wsc wk 11 (wk.1 11 + 1) := by
            unfold arr1
            rw [hwr, if_pos rfl]
            rfl
          have e5 : (Dm ++ s :: R).set D.length (sgAr s none) = Dm ++ sgAr s none :: R := by
            rw [← hDml, List.set_append_right _ _ (Nat.le_refl _), Nat.sub_self]
            rfl
          have h1 := ((hR0.sgar hkD).setn (i := 11) (x := wk.1 11 + 1) (by unfold nset; omega))
          rw [show (wsg wk (Dm ++ s :: R)).2.2.1.set D.length (sgAr s none) = Dm ++ sgAr s none :: R from e5] at h1
          rw [ea2]
          exact (h1.oth (r := B + 33) (by omega)).oth (r := B) (by omega)
        · rw [up2_k (by decide), up2_r (by omega), up2_r (by omega), up2_r (by omega)]
          exact hQ.1
        · rw [up2_eq, List.length_append, List.length_singleton]
        · rw [up2_r (by omega), up2_r (by omega), up2_r (by omega), up2_r (by omega)]
          exact hQ.2.2.1 k x hk
        · rw [up2_r (by omega)]
          by_cases ek : k < (wrL (w.1 0) D).length
          · rw [List.getElem?_append_left ek] at hk
            rw [up2_k (by omega), up2_r (by omega), up2_r (by omega)]
            exact hQ.2.2.2 k x hk
          · rw [List.getElem?_append_right (by omega)] at hk
            have e3 : k = (wrL (w.1 0) D).length := by
              have := (List.getElem?_eq_some_iff.mp hk).1
              simp at this
              omega
            subst e3
            simp at hk
            subst hk
            exact up2_eq
      · have hdue : due (w.1 0) s = false := by
          unfold due
          rw [Bool.eq_false_iff]
          intro z
          exact c1 ((oI_some t1 (by omega)).mpr (by simpa using z))
        have er : rsL (w.1 0) (D ++ [s]) = rsL (w.1 0) D := by unfold rsL; rw [List.filter_append]; simp [hdue]
        have ew : wrL (w.1 0) (D ++ [s]) = wrL (w.1 0) D := by unfold wrL; rw [List.filter_append]; simp [hdue]
        have ea : ((D ++ [s]).filter (due (w.1 0))).foldl (arr1 win) w = wk := by rw [List.filter_append, List.foldl_append, ← hwk]; simp [hdue]
        have em : (D ++ [s]).map (fun s => if due (w.1 0) s then sgAr s none else s) ++ R = Dm ++ s :: R := by rw [List.map_append, hDm]; simp [hdue]
        rw [er, ew, ea, em] at ih2
        refine VX12_arrives_182 hs ?_
        rw [nI_add]
        exact ih2 f0 _ (by rw [e]; simp) rfl hR0 hF hQ
  refine VX12_arrives hs ?_
  refine loop w.2.2.1 [] _ w rfl rfl ?_ ?_ ⟨?_, ?_, fun k s hk => by simp [rsL] at hk, fun k p hk => by simp [wrL] at hk⟩
  · exact (hR.oth (r := B) (by omega)).oth (r := B) (by omega)
  · exact (FrQ.rf.up (by unfold tchQ tch; omega)).up (by unfold tchQ tch; omega)
  · rw [up2_k (by decide), up2_eq]
    rfl
  · rw [up2_eq]
    rfl
end C4
