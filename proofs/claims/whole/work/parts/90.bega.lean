/-! an act begins: the class' beginAct; what an act leaves -/
section BB
variable {l : Launch} {G : Gx} {d : Nat} {sh : Sh} {fR : FRt} {A u v : Nat} {f : FI} {g : FL} {Z : Zs} {q : Td}
theorem D_beginAct {K : Sh → FI → FL → FRt → Prop} (hr : PRs sh fR A u v) (hx : PSx fR f A u Z) (hz : zOK Z) (hq : Z.2.2.2.2 = some q) (H : ∀ (sh' : Sh) (f' : FI) (g' : FL) (fR' : FRt), PRs sh' fR' A u v → PSx fR' f' A u (actZ Z q q.2.2.1) → FrP A sh fR f sh' fR' f' → (∀ r k, r < sh.length → g' r k = g r k) → sh.length ≤ sh'.length → K sh' f' g' fR') : Cl l G (d + 3) 32 8095 mX11_beginAct [.ref A] (sh, f, g, fR) (qg A u K) := by
  obtain ⟨hs, hp, hn, hP⟩ : StA sh fR A ∧ fR A 5 = some u ∧ fR (A + 40) 7 = some u ∧ StPl sh fR u := ⟨hr.1, hr.2.2.1, hr.2.2.2.2.1, hr.pl.1⟩
  obtain ⟨h4, na, hna, h11, t⟩ := hx.td hq
  have ok := hz.2.2.2.2 q hq
  have h8 := hr.2.2.2.2.2.2.2.1
  refine VX11_beg0 hs hp hn hP ?_
  rw [h11, clN (by omega)]
  refine ⟨inbN hna (by decide), fun hno => ?_, fun r2 hr2 => ?_⟩
  · generalize hlen : sh.length = x at *
    have hx0 : 0 < x := by omega
    rw [gh_nil hlen]
    refine S_new (pc := 20) (ci := 10) (kc := 31) (ks := 8079) dX11_beginAct_20 rfl (gw 246 rfl rfl) (gw 247 rfl rfl) (gw 10 rfl rfl) ?_
    refine G_nw hlen rfl ?_
    show WP _ _ _ _ _ 31 8079 23 [some (.ref A)] [.ref (x + 0), .int (nI na), .ref (A + 104)] (gh sh f g fR x [(10, 16)] [])
    refine S_dup (pc := 23) dX11_beginAct_23 rfl ?_
    refine S_aload_n (pc := 24) dX11_beginAct_24 rfl rfl ?_
    have old1 : ∀ (N : List (Nat × Nat)) (R : List (Nat × Nat × Nat)) i, i < x → (gh sh f g fR x N R).1[i]? = sh[i]? := fun N R i hi => List.getElem?_append_left (by omega)
    have oldR : ∀ (N : List (Nat × Nat)) (R : List (Nat × Nat × Nat)) i k, i < x → (gh sh f g fR x N R).2.2.2 i k = fR i k := fun N R i k hi => if_neg (by omega)
    refine S_getR (pc := 25) dX11_beginAct_25 flX11_26 ((old1 _ _ A (by omega)).trans (sA_0 hs)) rfl ((oldR _ _ A 5 (by omega)).trans hp) ?_
    refine S_callI (mc := 31) (ms := 8079) (kc := 0) (ks := 0) (As := [.ref u]) (pc := 28) dX11_beginAct_28 miX10_init rfl rfl mvX10_init mlX11_44 rfl rfl (RmOK.of rfl) (I_X10 hlen hx0) ?_
    rintro _ _ ⟨rfl, rfl⟩
    refine S_aast25 (pc := 31) dX11_beginAct_31 ((old1 _ _ (A + 104) (by omega)).trans (sA_104 hs)) (by omega) (inbN hna (by decide)) (gh_at hlen rfl) ?_
    rw [clN (by omega)]
    show Bg l G d (qg A u K) (sh ++ wSh) (up2 (rf fR x 32 (RW x u)) (A + 104) na (some x)) A u (zr f x 32 0) (zr g x 32 0) 0 0
    obtain ⟨w1, w2⟩ := RW_st (fR := fR) (p := u) hlen hx0
    have zf : ∀ r k, r < sh.length → zr f x 32 0 r k = f r k := fun r k hr' => if_neg (by omega)
    have zg : ∀ r k, r < sh.length → zr g x 32 0 r k = g r k := fun r k hr' => if_neg (by omega)
    have zR : ∀ r k, r < sh.length → rf fR x 32 (RW x u) r k = fR r k := fun r k hr' => if_neg (by omega)
    have hl : (sh ++ wSh).length = x + 32 := by rw [List.length_append, hlen]; rfl
    refine D_begTail (na := na) (y := x) hr hx ok hq hna h11 t (by omega) (fun i hi => List.getElem?_append_left hi) zf zg (fun r k h1 h2 => by rw [up2_ne h2]; exact zR r k h1) ?_ (by omega) (by omega) up2_eq (Or.inr ⟨hno, by omega⟩) (fun f' fR' a1 a2 a3 => H _ _ _ _ a1 a2 a3 (fun r k z => zg r k (by omega)) (by omega))
    exact w1.old (fun _ _ _ z => z) (fun i k hi _ => up2_r (by omega))
  · obtain ⟨z1, z2, z3, -⟩ := hr.2.2.2.2.2.2.2.2.1 na r2 hna hr2
    refine ⟨z1.1 0 _ rfl, z1.2.2, ?_⟩
    exact D_begTail (na := na) (y := r2) hr hx ok hq hna h11 t (Nat.le_refl _) (fun _ _ => rfl) (fun _ _ _ => rfl) (fun _ _ _ => rfl) (fun _ _ _ _ => rfl) z1 z2 z3 hr2 (Or.inl hr2) (fun f' fR' a1 a2 a3 => H _ _ _ _ a1 a2 a3 (fun _ _ _ => rfl) (Nat.le_refl _))
/-- as RP; what an act leaves -/
def RG (A : Nat) (sh : Sh) (fR : FRt) (f : FI) (g : FL) (Z' : Zs) (y : Int32) : Option Value → Hp → Prop := fun r h => ∃ sh' f' g' fR', r = some (.int y) ∧ h = (sh', f', g', fR') ∧ PSt sh' fR' f' A Z' ∧ zOK Z' ∧ FrP A sh fR f sh' fR' f' ∧ (∀ r k, r < sh.length → g' r k = g r k) ∧ sh.length ≤ sh'.length
end BB
