/-! the class: spoil, join -/
section BE
variable {l : Launch} {G : Gx} {d : Nat} {sh : Sh} {fR : FRt} {A u v : Nat} {f f' : FI} {g : FL} {Z : Zs} {q : Td}
theorem gW.spoil {π : Pl} {w : Wd} {p : Nat} (h : gW π w) : gW π (wpt w p 5 1) := by
  refine ⟨h.1, h.2.1.pt (by decide) (by decide) ?_, h.2.2⟩
  have b := h.2.1.2.1 p
  unfold pB at b ⊢
  have e : ∀ i, i ≠ 5 → (wpt w p 5 1).2.1 p i = w.2.1 p i := fun i hi => up2_k hi
  have e5 : (wpt w p 5 1).2.1 p 5 = 1 := up2_eq
  rw [e 0 (by decide), e 1 (by decide), e 2 (by decide), e 3 (by decide), e 4 (by decide), e5]
  obtain ⟨b1, b2, b3, b4, b5, b6, b7, b8, b9⟩ := b
  exact ⟨b1, b2, b3, b4, b5, b6, by decide, b8, fun i hi => by rw [e i (by omega)]; exact b9 i hi⟩
theorem joinS_0 {π : Pl} {w : Wd} {p tok : Nat} : (joinS π w p tok).1.1 0 = w.1 0 ∧ (joinS π w p tok).1.2.2 = w.2.2 := by
  unfold joinS
  split
  · refine ⟨?_, rfl⟩
    simp [refS, wsc, fu]
  · exact ⟨rfl, rfl⟩
theorem gW.join {π : Pl} {w : Wd} {p tok : Nat} (h : gW π w) : gW π (joinS π w p tok).1 := by
  obtain ⟨e0, e2⟩ := joinS_0 (π := π) (w := w) (p := p) (tok := tok)
  refine ⟨by rw [e0]; exact h.1, by rw [e0]; exact h.2.1.join, ?_⟩
  rw [e2]
  exact h.2.2
theorem P_spoil {a : Int32} (h : PSt sh fR f A Z) (hz : zOK Z) : Cl l G (d + 4) 32 8095 mX11_spoil [.ref A, .int a] (sh, f, g, fR) (RG A sh fR f g (spoilS Z a).1 (spoilS Z a).2) := by
  obtain ⟨u, v, hr, hs, hp, hn, hP, hx⟩ := h.at
  have rf : ∀ {y : Int32}, RG A sh fR f g (zRef Z 3) y (some (.int y)) (sh, up2 f (A + 2) 3 (f (A + 2) 3 + nI 1), g, fR) := .ref hr hx hz (by decide)
  refine VGX11_spoil hs hp hn hP ?_
  refine D_isPathP hs hp hn hP hx hz (fun q p hq hp6 hp4 e => ⟨fun c => absurd c (by decide), fun _ => ?_⟩) (fun hno => ⟨fun _ => ?_, fun c => absurd rfl c⟩)
  · subst e
    obtain ⟨h4, na, -, -, t⟩ := hx.td hq
    have ok := hz.2.2.2.2 q hq
    have h64 := ok.1.2.2.2.2.2.1
    have hg := ok.2.2.2.2.1
    have hW : StW sh fR (A + 40) := hs.2.2.2.1
    obtain ⟨s1, s2, s3⟩ := rt_ok hW hp4
    obtain ⟨m, hC, hI⟩ := t.2.2.1
    have b5 := (hg.x.qN p).2.2.2.2.2
    obtain ⟨-, -, -, -, -, -, -, y7⟩ := hC.rt hp4
    have e : spoilS Z (nI p) = if freS q.2.2.1 p ∧ q.2.2.1.2.1 p 5 = 0 then (actZ Z q (wpt q.2.2.1 p 5 1), nI 1) else (zRef Z 3, nI 0) := by
      unfold spoilS
      rw [hq]
      dsimp only
      rw [ixS_in hp6 (by omega)]
    rw [e, clN (by omega)]
    refine ⟨inbN hp4 (by decide), _, s1, s2, s3, D_isAlive hW hC hg.x.qN hp4 ⟨fun c => ?_, fun c => ⟨inbN hp4 (by decide), _, s1, s2, s3, fun c5 => ?_, fun c5 => ?_⟩⟩⟩
    · rw [if_neg (by rw [bI_0.mp c]; exact fun z => by cases z.1)]
      exact rf
    · rw [y7] at c5
      have h0 : q.2.2.1.2.1 p 5 = 0 := (nI_eq (b := 0) (by omega) (by decide)).mp c5
      rw [if_pos ⟨bI_ne0 c, h0⟩]
      refine D_beginAct hr hx hz hq (fun sh1 f1 g1 fR1 r1 x1 i1 j1 l1 => ?_)
      obtain ⟨-, -, hu1, hu2, -, -⟩ := r1.pl
      have hA := r1.1.2.2.1
      obtain ⟨-, na1, -, -, t1⟩ := x1.td rfl
      obtain ⟨m1, hC1, hI1⟩ := t1.2.2.1
      obtain ⟨v1, v2, v3⟩ := rt_ok r1.1.2.2.2.1 hp4
      have a2 : HW (up2 f1 (A + 40 + 28 + p) 7 (nI 1)) (A + 40) q.1 q.2.1 (wpt q.2.2.1 p 5 1) := ⟨m1, hC1.setp (p := p) (i := 5) (v := 1) hp4 (by decide), hI1⟩
      have x2 : PSx fR1 (up2 f1 (A + 40 + 28 + p) 7 (nI 1)) A u (tdW (actZ Z q q.2.2.1) (qU q) Z.2.2.1 (wpt q.2.2.1 p 5 1)) := x1.wd r1 rfl (fun r k a _ _ _ _ _ => up2_r (by omega)) (by rw [up2_r (by omega)]; exact x1.2.2.1) a2
      exact ⟨inbN hp4 (by decide), _, v1, v2, v3, _, _, _, _, rfl, rfl, ⟨u, v, r1, x2⟩, hz.act hq hg.spoil hz.2.2.1, i1.go (fun r k z => up2_r (by omega)), j1, l1⟩
    · rw [y7] at c5
      rw [if_neg (fun z => c5 (by rw [z.2]; rfl))]
      exact rf
  · have e : spoilS Z a = (zRef Z 3, nI 0) := by
      unfold spoilS
      cases ht : Z.2.2.2.2 with
      | none => rfl
      | some q => dsimp only; rw [hno q ht]
    rw [e]
    exact rf
theorem P_join {a c : Int32} (h : PSt sh fR f A Z) (hz : zOK Z) : Cl l G (d + 4) 32 8095 mX11_join [.ref A, .int a, .int c] (sh, f, g, fR) (RG A sh fR f g (joinZ Z a c).1 (joinZ Z a c).2) := by
  obtain ⟨u, v, hr, hs, hp, hn, hP, hx⟩ := h.at
  have rf : ∀ {y : Int32}, RG A sh fR f g (zRef Z 3) y (some (.int y)) (sh, up2 f (A + 2) 3 (f (A + 2) 3 + nI 1), g, fR) := .ref hr hx hz (by decide)
  refine VGX11_join hs hp hn hP ?_
  refine D_isPathP hs hp hn hP hx hz (fun q p hq hp6 hp4 e => ⟨fun c => absurd c (by decide), fun _ => ?_⟩) (fun hno => ⟨fun _ => ?_, fun c => absurd rfl c⟩)
  · subst e
    obtain ⟨h4, na, -, -, t⟩ := hx.td hq
    have ok := hz.2.2.2.2 q hq
    have h64 := ok.1.2.2.2.2.2.1
    have hg := ok.2.2.2.2.1
    have hW : StW sh fR (A + 40) := hs.2.2.2.1
    obtain ⟨s1, s2, s3⟩ := rt_ok hW hp4
    obtain ⟨m, hC, hI⟩ := t.2.2.1
    obtain ⟨b0, b1, -⟩ := hg.x.qN p
    have e : joinZ Z (nI p) c = match ixS c 1000 with | none => (zRef Z 3, nI 0) | some k => if q.2.2.1.2.1 p 0 = 1 ∨ q.2.2.1.2.1 p 1 = 1 then (zRef Z 3, nI 0) else (actZ Z q (joinS q.1 q.2.2.1 p k).1, bI (joinS q.1 q.2.2.1 p k).2) := by
      unfold joinZ
      rw [hq]
      dsimp only
      rw [ixS_in hp6 (by omega)]
      dsimp only
      cases ixS c 1000 <;> rfl
    rw [e, clN (by omega)]
    rcases pk_ix c (n := 1000) (by decide) with z | z | ⟨k, hk, rfl⟩
    · rw [ixS_lo z]
      exact ⟨fun _ => rf, fun c => absurd z c⟩
    · rw [ixS_hi z]
      exact ⟨fun _ => rf, fun _ => ⟨fun _ => rf, fun c => absurd (Int32.lt_of_lt_of_le (by decide) z) c⟩⟩
    · rw [ixS_in hk (by decide)]
      dsimp only
      refine ⟨fun c => absurd c (nI_pos (by omega)), fun _ => ⟨fun c => absurd (nI_le (show k ≤ 999 by omega) (by decide)) (Int32.not_le.mpr c), fun _ => ⟨inbN hp4 (by decide), _, s1, s2, s3, D_isNew hW hC hg.x.qN hp4 ⟨fun c => ?_, fun c => ?_⟩⟩⟩⟩
      · have hb := bI_ne0 c
        simp only [Bool.and_eq_true, beq_iff_eq] at hb
        rw [if_neg (by omega)]
        refine D_beginAct hr hx hz hq (fun sh1 f1 g1 fR1 r1 x1 i1 j1 l1 => ?_)
        obtain ⟨-, -, hu1, hu2, -, -⟩ := r1.pl
        have hA := r1.1.2.2.1
        obtain ⟨-, na1, -, -, t1⟩ := x1.td rfl
        obtain ⟨m1, hC1, hI1⟩ := t1.2.2.1
        have ej := joinS_0 (π := q.1) (w := q.2.2.1) (p := p) (tok := k)
        refine D_tryToken (d := d + 2) r1.1.2.2.2.1 r1.2.2.2.2.1 r1.pl.1 hC1 t1.1 hg.x.qN ok.1 hp4 (by omega) (fun f2 c2 e2 => ⟨bI_01 _, ?_⟩)
        have a2 : HW f2 (A + 40) q.1 q.2.1 (joinS q.1 q.2.2.1 p k).1 := ⟨m1, by rw [ej.1, ej.2]; exact c2, hI1.join⟩
        have x2 : PSx fR1 f2 A u (tdW (actZ Z q q.2.2.1) (qU q) Z.2.2.1 (joinS q.1 q.2.2.1 p k).1) := x1.wd r1 rfl (fun r k a _ _ _ _ _ => e2.2 r k (by omega)) (by rw [e2.2 _ _ (by omega)]; exact x1.2.2.1) a2
        exact ⟨_, _, _, _, rfl, rfl, ⟨u, v, r1, x2⟩, hz.act hq hg.join hz.2.2.1, i1.go (fun r k z => e2.2 r k (by omega)), j1, l1⟩
      · have hb := bI_0.mp c
        rw [if_pos]
        · exact rf
        · rcases (show q.2.2.1.2.1 p 0 = 0 ∨ q.2.2.1.2.1 p 0 = 1 by omega) with z0 | z0
          · rcases (show q.2.2.1.2.1 p 1 = 0 ∨ q.2.2.1.2.1 p 1 = 1 by omega) with z1 | z1
            · rw [z0, z1] at hb; cases hb
            · exact Or.inr z1
          · exact Or.inl z0
  · have e : joinZ Z a c = (zRef Z 3, nI 0) := by
      unfold joinZ
      cases ht : Z.2.2.2.2 with
      | none => rfl
      | some q => dsimp only; rw [hno q ht]
    rw [e]
    exact rf
/-- what does not grow -/
theorem FrP.len {sh' : Sh} {fR' : FRt} (h : FrP A sh fR f sh' fR' f') : sh.length ≤ sh'.length := by
  rcases Nat.lt_or_ge sh'.length sh.length with z | z
  · have := h.2 sh'.length z
    rw [List.getElem?_eq_none (Nat.le_refl _), List.getElem?_eq_getElem z] at this
    cases this
  · exact z
theorem RP.rg {Z' : Zs} {y : Int32} {r : Option Value} {h : Hp} (hz : zOK Z') (H : RP A sh fR f g Z' y r h) : RG A sh fR f g Z' y r h := by
  obtain ⟨sh', f', fR', rfl, rfl, h1, h2⟩ := H
  exact ⟨_, _, _, _, rfl, rfl, h1, hz, h2, fun _ _ _ => rfl, h2.len⟩
end BE
