/-! the reference's tick as a whole -/
section C14
variable {l : Launch} {G : Gx} {d : Nat} {sh : Sh} {fR : FRt} {B v b win : Nat} {f : FI} {g : FL} {w : Wd} {m : List (Nat × Nat)} {π : Pl} {dl : Nat → Nat}
theorem tickS_eq {dr : Bool} {x : Nat} : tickS π win dl dr w x = lastS π dl dr ((wrL ((hearS π (joinsS π w)).1 0) (hearS π (joinsS π w)).2.2.1).foldl dieS (midS π win dl (hearS π (joinsS π w)))) x := rfl
def jn1 (π : Pl) (p : Nat) (w : Wd) : Wd := match π.2.2.2.1 p with
  | some (t, tok) => if t = w.1 0 then (joinS π w p tok).1 else w
  | none => w
theorem joinsS_eq : joinsS π w = forN (π.1 6) (jn1 π) w := rfl
theorem joinS_o {p tok : Nat} : (joinS π w p tok).1.1 0 = w.1 0 ∧ (joinS π w p tok).1.1 2 = w.1 2 ∧ (joinS π w p tok).1.2.2 = w.2.2 := by
  unfold joinS
  split <;> exact ⟨rfl, rfl, rfl⟩
theorem PI.join {p tok : Nat} (hP : PI π w m) : PI π (joinS π w p tok).1 m := by
  obtain ⟨-, e2, e3⟩ := joinS_o (π := π) (w := w) (p := p) (tok := tok)
  unfold PI ndS at hP ⊢
  rw [e2, e3]
  exact hP
theorem C_ticksOn {K : FI → FL → Prop} {x : Nat} {dr : Bool} (hs : StM sh fR B) (hv : v < 22) (hπ : πOK π) (hdl : ∀ p, p < π.1 6 → 1 ≤ dl p ∧ dl p ≤ 9) (hR : RM f B v w m) (hT : TM f B b π win dl) (hW : WI π (400 * w.1 0) (w.1 0) (fun _ => w.1 0) (w.1 0) w) (hP : PI π w m) (ht : w.1 0 < 1000) (h60 : f B 60 = bI dr) (hg : g B 51 = lN x) (hx : x < 2147483648)
    (H : ∀ (f' : FI) (g' : FL) (m' : List (Nat × Nat)), RM f' B v (tickS π win dl dr w x).1 m' → TkR f' g' B dr (tickS π win dl dr w x) → WI π (400 * (w.1 0 + 1)) (w.1 0 + 1) (fun _ => w.1 0 + 1) (w.1 0 + 1) (tickS π win dl dr w x).1 → PI π (tickS π win dl dr w x).1 m' → (tickS π win dl dr w x).1.1 0 = w.1 0 + 1 → FrS B v f f' → FrL B g g' → K f' g') : Cl l G (d + 6) 0 0 mX12_ticksOn [.ref B, .int (nI v)] (sh, f, g, fR) (qv sh fR K) := by
  have h4 := hπ.2.2.2.2.2.1
  have hb := hT.1.2.1
  have hwin := hT.2.2.2.1
  generalize hT0 : w.1 0 = T0 at hW ht H
  have mid : ∀ (f0 : FI) (wj : Wd), wj = joinsS π w → RM f0 B v wj m → TM f0 B b π win dl → WI π (400 * T0) T0 (fun _ => T0) T0 wj → PI π wj m → wj.1 0 = T0 → TkZ f0 g B dr x → FrS B v f f0 → Cl l G (d + 5) 0 0 mX12_hears [.ref B, .int (nI v)] (sh, f0, g, fR) (qv sh fR fun f3 g4 => Cl l G (d + 5) 0 0 mX12_arrives [.ref B, .int (nI v)] (sh, f3, g4, fR) (qv sh fR fun f5 g6 => Cl l G (d + 5) 0 0 mX12_readsOn [.ref B, .int (nI v)] (sh, f5, g6, fR) (qi sh fR fun x9 f7 g8 => Cl l G (d + 5) 0 0 mX12_setsOut [.ref B, .int (nI v), .int x9] (sh, f7, g8, fR) (qv sh fR fun f10 g11 => LpX12_ticksOn_100 l G d (qv sh fR K) sh fR B f10 g11 (nI v) (nI 0))))) := by
    intro f0 wj hwj hR0 hT0' hWj hPj h0 hz hF
    have hNj := hWj.wN hπ (by omega)
    refine C_hears (I := HI π (400 * T0) T0 (fun _ => T0) T0 wj) hs hv hR0 hNj.2.2.2 hT0'.1 hπ (HI.st hWj) (fun w1 a hI ha hd => hI.nx hWj ha hd) (fun w1 hI => hI.wn hWj hπ (by omega)) (fun f1 q1 q2 => ?_)
    obtain ⟨e1, e2, e3, e4, e5, e6, e7⟩ := hWj.hears
    have hP1 := hPj.hears hWj
    have h01 : (hearS π wj).1 0 = T0 := (e4 0 (by decide) (by decide)).trans h0
    have hT1 := hT0'.fr q2
    generalize hw1 : hearS π wj = w1 at q1 e1 e2 e3 e4 e5 e6 e7 hP1 h01
    have hN1 := e1.wN hπ (by omega)
    have hl1 := e1.ans hπ (fun _ => Nat.le_refl _) (Nat.le_refl _)
    have hA1 : ∀ a ∈ w1.2.2.2.2.1, w1.1 0 + 1 ≤ a.2.2.2.2.1 := fun a ha => by
      have h1 := (e1.2.2.2.2.2.1 a ha).2.2.2.2.1.1
      have h2 := (e2 a ha).2
      omega
    have h41 : w1.1 4 ≤ π.1 1 := e1.1.2.2.2.2
    have h200 := hπ.1.2
    refine C_arrives hs hv q1 (by omega) (by omega) (fun s hs => ⟨hN1.2.2.1 s hs, by have := (e1.2.2.1 s hs).2.2.2.1; omega⟩) hT1.2.1 hwin (fun f2 r1 r2 r3 => ?_)
    obtain ⟨b1, b2, b3, b4, b5⟩ := arrS_o (win := win) w1
    have hT2 := hT1.frS r2.s
    refine C_readsOn hs hv r1 (by rw [b1 0 (by decide)]; omega) (by rw [b1 4 (by decide)]; omega) hT2.1 hπ (fun f3 g3 s1 s2 s3 => ?_)
    have hF3 : Fr B v f2 f3 := fun r k z => s2 r k (fun q => z (by unfold tch; omega)) (fun q => z (by unfold tch; omega))
    have hT3 := hT2.fr hF3
    have hm := manyS_le (π := π) (w := arrS win w1)
    have hll := lack_le (π := π) (w := arrS win w1) (by rw [b1 4 (by decide)]; exact h41)
    have hlg := lack_ge (π := π) (w := arrS win w1)
    have hrsl : (rsL (w1.1 0) w1.2.2.1).length ≤ w1.2.2.1.countP (fun s => s.2.2.2.2.2.1.isSome) := by
      unfold rsL
      rw [← List.countP_eq_length_filter]
      refine countP_mono (fun s _ hz => ?_)
      simp only [Bool.and_eq_true] at hz
      rw [beq_iff_eq.mp (show (s.2.2.2.2.2.1 == some (w1.1 0)) = true from hz.1)]
      rfl
    refine C_setsOut (rs := rsL (w1.1 0) w1.2.2.1) hs hv s1 ?_ ?_ ?_ hT3 hπ (by omega) ?_ ?_ ?_ (by have := List.length_filter_le (fun s => due (w1.1 0) s && !s.2.2.2.2.2.2.2) w1.2.2.1; have := q1.2.2.1.2.1; unfold rsL; omega) (fun f4 u1 u2 => ?_)
    · show (arrS win w1).1 0 ≤ 1000
      rw [b1 0 (by decide)]; omega
    · show (arrS win w1).1 4 + manyS π (arrS win w1) ≤ 1000
      omega
    · intro p i
      show (arrS win w1).2.1 p i ≤ _
      rw [b2]
      exact hN1.2.1 p i
    · show (arrS win w1).2.2.2.2.1.length + _ < 520
      rw [b5]
      omega
    · rw [hF3 _ _ (by unfold tch; omega)]
      exact r3.1
    · intro k s hk
      obtain ⟨i, y1, y2⟩ := r3.2.2.1 k s hk
      obtain ⟨v1, v2, -⟩ := updS_f (w1.1 0) s
      refine ⟨i, updS (w1.1 0) s, by rw [hF3 _ _ (by unfold tch; omega)]; exact y1, ?_, v1, v2, ?_⟩
      · show (arrS win w1).2.2.1[i]? = _
        rw [b3, List.getElem?_map, y2]
        rfl
      · have := (e1.2.2.1 s (List.mem_of_getElem? y2)).1
        omega
    · have hF4 : Fr B v f3 f4 := fun r k z => u2 r k (fun q => z (by unfold tch; omega)) (fun q => z (by unfold tch; omega))
      have hWm : WI π (400 * T0) (T0 + 1) (fun _ => T0) (T0 + 1) (midS π win dl w1) := by
        have := WI.mid (win := win) (dl := dl) (w := w1) (by rw [h01]; exact e1) hA1 (by omega) hπ hdl hwin
        rw [h01] at this
        exact this
      have et : tickS π win dl dr w x = lastS π dl dr ((wrL (w1.1 0) w1.2.2.1).foldl dieS (midS π win dl w1)) x := by
        rw [tickS_eq, ← hwj, hw1]
      rw [et] at H
      have hz4 : TkZ f4 g3 B dr x := (((hz.fr q2 (fun _ _ _ => rfl)).frQ r2 (fun _ _ _ => rfl)).fr hF3 s3).fr hF4 (fun _ _ _ => rfl)
      have := L_100 (l := l) (G := G) (d := d) (w := midS π win dl w1) (wr := wrL (w1.1 0) w1.2.2.1) (g := g) hs hv hπ hdl ht ?_ ?_ H (wrL (w1.1 0) w1.2.2.1) [] f4 g3 (midS π win dl w1) m rfl rfl u1 (hT3.fr hF4) hWm hP1.mid ((mid_o (π := π) (win := win) (dl := dl) (w := w1)).1.trans h01) hz4 ?_ ?_ (hF.tr (q2.s.tr (r2.s.tr (hF3.tr hF4).s))) (FrL.of s3)
      · exact this
      · intro p hp
        obtain ⟨s, hs, e⟩ := List.mem_map.mp hp
        have := (e1.2.2.1 s (List.mem_filter.mp hs).1).1
        omega
      · unfold wrL
        rw [List.length_map]
        have := List.length_filter_le (fun s => due (w1.1 0) s && s.2.2.2.2.2.2.2) w1.2.2.1
        have := q1.2.2.1.2.1
        omega
      · rw [hF4 _ _ (by unfold tch; omega), hF3 _ _ (by unfold tch; omega)]
        exact r3.2.1
      · intro k p hk
        rw [hF4 _ _ (by unfold tch; omega), hF3 _ _ (by unfold tch; omega)]
        exact r3.2.2.2 k p hk
  have loop : ∀ n p (f0 : FI) (wj : Wd), n + p = π.1 6 → wj = forN p (jn1 π) w → RM f0 B v wj m → TM f0 B b π win dl → WI π (400 * T0) T0 (fun _ => T0) T0 wj → PI π wj m → wj.1 0 = T0 → TkZ f0 g B dr x → FrS B v f f0 → LpX12_ticksOn_17 l G d (qv sh fR K) sh fR B f0 g (nI v) (nI p) := by
    intro n
    induction n with
    | zero =>
      intro p f0 wj hp hwj hR0 hT0' hWj hPj h0 hz hF
      rw [Nat.zero_add] at hp
      subst hp
      refine VX12_ticksOn_17 hs ?_
      rw [hT0'.1.1, clN (by omega), hT0'.1.2.2.2.2.2.2.2.1]
      exact ⟨inbN (by omega) (by decide), fun _ => mid f0 wj hwj hR0 hT0' hWj hPj h0 hz hF, fun z => absurd (nI_le (Nat.le_refl _) (by omega)) z⟩
    | succ n ih =>
      intro p f0 wj hp hwj hR0 hT0' hWj hPj h0 hz hF
      have hNj := hWj.wN hπ (by omega)
      have hj := hT0'.1.2.2.2.2.2.2.2.2.2.1 p (by omega)
      have stay : jn1 π p wj = wj → LpX12_ticksOn_72 l G d (qv sh fR K) sh fR B f0 g (nI v) (nI p) := by
        intro e
        refine VX12_ticksOn_72 hs ?_
        rw [nI_add]
        refine ih (p + 1) f0 wj (by omega) ?_ hR0 hT0' hWj hPj h0 hz hF
        show wj = jn1 π p (forN p (jn1 π) w)
        rw [← hwj, e]
      refine VX12_ticksOn_17 hs ?_
      rw [hT0'.1.1]
      simp (disch := omega) only [pk_mul, nI_add, clN]
      rw [hT0'.1.2.2.2.2.2.2.2.1, hR0.1 0 (by unfold nset; omega)]
      refine ⟨inbN (by omega) (by decide), fun z => absurd z (nI_ge (by omega) (by omega)), fun _ => ⟨inbN (by omega) (by decide), inbN (by omega) (by decide), fun c1 => stay ?_, fun c1 => ⟨inbN (by omega) (by decide), ?_⟩⟩⟩
      · unfold jn1
        unfold PMj at hj
        cases hq : π.2.2.2.1 p with
        | none => rfl
        | some q =>
          obtain ⟨t, tok⟩ := q
          rw [hq] at hj
          dsimp only at hj ⊢
          rw [if_neg]
          intro z
          exact c1 (by rw [hj.1, z])
      · unfold PMj at hj
        cases hq : π.2.2.2.1 p with
        | none =>
          rw [hq] at hj
          dsimp only at hj
          rw [hj] at c1
          exact absurd c1.symm (nI_m1 (by omega))
        | some q =>
          obtain ⟨t, tok⟩ := q
          rw [hq] at hj
          dsimp only at hj
          have hb2 := hπ.2.2.2.2.2.2.2.1 p t tok hq
          rw [hj.1] at c1
          have zt : t = wj.1 0 := (nI_eq (by omega) (by omega)).mp c1
          rw [hj.2]
          refine C_isJoining hs hv hR0 hNj hT0'.1 hπ (by omega) (by omega) (fun f1 q1 q2 => ?_)
          refine VX12_ticksOn_72 hs ?_
          rw [nI_add]
          refine ih (p + 1) f1 (joinS π wj p tok).1 (by omega) ?_ q1 (hT0'.fr q2) hWj.join hPj.join (joinS_o.1.trans h0) (hz.fr q2 (fun _ _ _ => rfl)) (hF.tr q2.s)
          show _ = jn1 π p (forN p (jn1 π) w)
          rw [← hwj]
          unfold jn1
          rw [hq]
          dsimp only
          rw [if_pos zt]
  refine VX12_ticksOn hs ?_
  refine loop (π.1 6) 0 _ w rfl rfl ?_ (hT.frS (v := v) (((FrS.rf.up ?_).up ?_).up ?_)) hW hP hT0 ⟨?_, ?_, ?_, ?_, hg, hx⟩ (((FrS.rf.up ?_).up ?_).up ?_)
  · exact ((hR.oth (r := B) (by omega)).oth (r := B) (by omega)).oth (r := B) (by omega)
  · unfold tchS tchQ tch; omega
  · unfold tchS tchQ tch; omega
  · unfold tchS tchQ tch; omega
  · rw [up2_k (by decide), up2_k (by decide), up2_k (by decide)]; exact h60
  · rw [up2_k (by decide), up2_k (by decide), up2_eq]
  · rw [up2_k (by decide), up2_eq]
  · exact up2_eq
  · unfold tchS tchQ tch; omega
  · unfold tchS tchQ tch; omega
  · unfold tchS tchQ tch; omega
end C14
