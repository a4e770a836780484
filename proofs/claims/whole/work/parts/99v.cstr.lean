/-! the class' stream -/
def strZ (Z : Zs) (dl : Nat → Nat) : Zs × Int32 := match txtD Z.1 with
  | .error x => (([], fu Z.2.1 1 (Z.2.1 1 + 1), Z.2.2.1, some x, Z.2.2.2.2), -1)
  | .ok π => (([], Z.2.1, Z.2.2.1, none, some (π, dl, beginW π, [], [])), nI (π.1 0))
def dlOK (Z : Zs) (dl : Nat → Nat) : Prop := ∀ π, txtD Z.1 = .ok π → (∀ p, p < π.1 6 → dl p = π.2.2.1 p) ∧ ∀ p, dl p ≤ 9999
section CSR
variable {l : Launch} {G : Gx} {d : Nat} {sh : Sh} {fR : FRt} {A p q : Nat} {f f' : FI} {g : FL} {tp : List Nat} {e : Nat} {π : Pl}
theorem K_clear {K : FI → FL → Prop} (hP : StPl sh fR p) (H : ∀ f', f' p 0 = nI 0 → f' p 5 = nI 0 → f' p 6 = nI 0 → (∀ k, k < 4 → f' (p + 3) k = -1) → (∀ i, i < 4 → f' (p + 5 + 3 * i) 2 = nI 0) → (∀ r k, ¬ (p ≤ r ∧ r < p + 17) → f' r k = f r k) → K f' g) : Cl l G d 0 0 mX6_clear [.ref p] (sh, f, g, fR) (qv sh fR K) := by
  refine VX6_clear hP ?_
  have loop : ∀ n k (f0 : FI), n + k = 4 → f0 p 0 = nI 0 → f0 p 5 = nI 0 → f0 p 6 = nI 0 → (∀ i, i < k → f0 (p + 3) i = -1) → (∀ r k, ¬ (p ≤ r ∧ r < p + 17) → f0 r k = f r k) → LpX6_clear_22 l G d (qv sh fR K) sh fR p f0 g (nI k) := by
    intro n
    induction n with
    | zero =>
      intro k f0 hk a1 a2 a3 a4 a5
      have hk4 : k = 4 := by omega
      subst hk4
      refine VX6_clear_22 hP ⟨fun _ => ⟨_, _, rfl, rfl, H _ ?_ ?_ ?_ (fun i hi => ?_) (fun i hi => ?_) (fun r i z => ?_)⟩, fun z => absurd (nI_le (Nat.le_refl _) (by decide)) z⟩
      · rw [up2_k (by decide), up2_k (by decide), up2_k (by decide), up2_k (by decide)]; exact a1
      · rw [up2_k (by decide), up2_k (by decide), up2_k (by decide), up2_k (by decide)]; exact a2
      · rw [up2_k (by decide), up2_k (by decide), up2_k (by decide), up2_k (by decide)]; exact a3
      · rw [up2_r (by omega), up2_r (by omega), up2_r (by omega), up2_r (by omega)]; exact a4 i hi
      · rcases (show i = 0 ∨ i = 1 ∨ i = 2 ∨ i = 3 by omega) with rfl | rfl | rfl | rfl
        · rw [up2_r (by omega), up2_r (by omega), up2_r (by omega)]; exact up2_eq
        · rw [up2_r (by omega), up2_r (by omega)]; exact up2_eq
        · rw [up2_r (by omega)]; exact up2_eq
        · exact up2_eq
      · rw [up2_r (by omega), up2_r (by omega), up2_r (by omega), up2_r (by omega)]; exact a5 r i z
    | succ n ih =>
      intro k f0 hk a1 a2 a3 a4 a5
      refine VX6_clear_22 hP ⟨fun z => absurd z (nI_ge (by omega) (by decide)), fun _ => ⟨inbN (by omega) (by decide), ?_⟩⟩
      rw [clN (by omega), nI_add]
      refine ih (k + 1) _ (by omega) ?_ ?_ ?_ (fun i hi => ?_) (fun r i z => ?_)
      · rw [up2_r (by omega)]; exact a1
      · rw [up2_r (by omega)]; exact a2
      · rw [up2_r (by omega)]; exact a3
      · by_cases z : i = k
        · rw [z, up2_eq]
        · rw [up2_k z]; exact a4 i (by omega)
      · rw [up2_r (by omega)]; exact a5 r i z
  refine loop 4 0 _ rfl ?_ ?_ ?_ (fun i hi => absurd hi (Nat.not_lt_zero _)) (fun r i z => ?_)
  · rw [up2_k (by decide), up2_k (by decide), up2_k (by decide), up2_eq]
  · rw [up2_k (by decide), up2_eq]
  · exact up2_eq
  · rw [up2_r (by omega), up2_r (by omega), up2_r (by omega), up2_r (by omega)]
theorem T_15 {K : Nat → FI → FL → Prop} {a1 : Int32} (hd : 56 ≤ d) (h9 : RP9 sh fR A p q) (hq : A + 4 ≤ q ∧ q + 3 ≤ A + 38) (hC : CK f A tp) (h5 : f (A + 38) 5 = nI 0) (H : ∀ q' f', StF sh fR q' → A + 4 ≤ q' ∧ q' + 3 ≤ A + 38 → TX f' A p tp (txtD tp) → Fz A p f f' → K q' f' g) : WP l G (Zq G 0 0 (qn sh fR (A + 38) K)) mX9_readText (rmd (d + 13) 0 0) 0 0 15 [some (.ref (A + 38)), some (.int a1), some (.ref p), none] [] (sh, f, g, (up2 fR (A + 38) 7 (some q))) := by
  have hst := h9.1.2.2.2
  have hh := h9.2
  refine VX9_readText_15 h9.1.1 h9.1.2.1 h9.1.2.2.1 hst ?_
  obtain ⟨F, hF⟩ : ∃ F : FI, F = up2 (up2 (up2 (up2 f (A + 38) 9 (nI 0)) (A + 38) 1 (nI 0)) (A + 38) 2 (-1)) (A + 38) 10 (nI 0) := ⟨_, rfl⟩
  rw [← hF]
  have kF : ∀ r k, ¬ (r = A + 38 ∧ (k = 9 ∨ k = 1 ∨ k = 2 ∨ k = 10)) → F r k = f r k := fun r k z => by
    rw [hF, up2_ne (by omega), up2_ne (by omega), up2_ne (by omega), up2_ne (by omega)]
  have F9 : F (A + 38) 9 = nI 0 := by rw [hF, up2_k (by decide), up2_k (by decide), up2_k (by decide), up2_eq]
  have F1 : F (A + 38) 1 = nI 0 := by rw [hF, up2_k (by decide), up2_k (by decide), up2_eq]
  have F10 : F (A + 38) 10 = nI 0 := by rw [hF, up2_eq]
  refine K_clear (h9.1.2.2.1.fR7 (by omega)) (fun f1 c1 c2 c3 c4 c5 c6 => ?_)
  have k1 : ∀ r k, ¬ (r = A + 38 ∧ (k = 9 ∨ k = 1 ∨ k = 2 ∨ k = 10)) → ¬ (p ≤ r ∧ r < p + 17) → f1 r k = f r k := fun r k z z2 => by rw [c6 r k z2, kF r k z]
  have hC1 : CK f1 A tp := by
    obtain ⟨e1, e2, e3, e4, e5⟩ := hC
    exact ⟨by rw [k1 _ _ (by omega) (by omega)]; exact e1, e2, fun k hk => by rw [k1 _ _ (by omega) (by omega)]; exact e3 k hk, e4, fun k o hk => by rw [k1 _ _ (by omega) (by omega)]; exact e5 k o hk⟩
  refine K_adv (d := d + 10) (b := 0) h9.1 hC1 (by rw [k1 _ _ (by omega) (by omega)]; exact h5) (Nat.zero_le _) (fun f2 a1 a2 a3 => ?_)
  have t2 : TS f2 A tp (.ok 0) := by
    refine ⟨hC1.ft a1.ft, by rw [a1 _ _ (by omega), c6 _ _ (by omega)]; exact F1, Nat.zero_le _, a3 ?_⟩
    rw [c6 _ _ (by omega), F10]
    exact ⟨fun z => by rcases z with z | z <;> exact absurd z (by decide), fun z => by unfold glu at z; simp at z⟩
  have hF2 : Fz A p f f2 := fun r k z z2 => by rw [a1 _ _ (by omega), k1 _ _ (by omega) z2]
  have h0 : CL0 f2 A p := by
    refine ⟨by rw [a1 _ _ (by omega), c6 _ _ (by omega)]; exact F9, by rw [a1 _ _ (by omega)]; exact c1, by rw [a1 _ _ (by omega)]; exact c2, by rw [a1 _ _ (by omega)]; exact c3, fun k hk => by rw [a1 _ _ (by omega)]; exact c4 k hk, fun i hi => by rw [a1 _ _ (by omega)]; exact c5 i hi⟩
  have hkk := @tkK_le tp 0
  have L73 : LpX9_readText_73 l G d (qn sh fR (A + 38) K) sh fR A p q f2 g (nI 0) := by
    refine VX9_readText_73 h9.1.1 h9.1.2.1 h9.1.2.2.1 hst ?_
    refine VX9_readStatement h9.1.1 h9.1.2.1 h9.1.2.2.1 hst ⟨fun z => absurd rfl z, fun _ => ?_⟩
    refine T_stream (d := d + 7) h9 t2 h0 (fun f3 b1 b2 => ⟨_, _, _, rfl, rfl, hst, ?_⟩)
    refine K_exSign (d := d + 9) h9.1 b1.1 (by decide) (fun f4 d1 d2 => ?_)
    have b3 := d2.kp (f' := up2 f4 p 0 (f4 p 0 + nI 1)) (fun r k z => up2_r (by omega))
    have hF4 : Fz A p f (up2 f4 p 0 (f4 p 0 + nI 1)) := ((hF2.tr b2).tr d1.fz).up (by omega)
    unfold txtD at H
    cases hy : strD tp 0 with
    | error x =>
      rw [hy] at b3 H
      exact T_er h9 b3 ⟨_, _, _, rfl, rfl, hst, H q _ hst hq (TS.tx b3) hF4⟩
    | ok y =>
      rw [hy, bd_ok] at H
      rw [hy] at b3 b1
      have b3 : TS (up2 f4 p 0 (f4 p 0 + nI 1)) A tp (exS tp 59 y.1) := b3
      cases hz : exS tp 59 y.1 with
      | error x =>
        rw [hz] at b3 H
        exact T_er h9 b3 ⟨_, _, _, rfl, rfl, hst, H q _ hst hq (TS.tx b3) hF4⟩
      | ok e' =>
        rw [hz, bd_ok] at H
        rw [hz] at b3
        rw [nI_add]
        have hsy := (strD_ok (Nat.zero_le _) hy).1
        obtain ⟨-, o3, c3⟩ := b1
        have c3 : CPr f3 p y.2 := c3
        have c4 : CPr f4 p y.2 := c3.kp (fun r k x y => d1 _ _ (by omega))
        have k3 : ∀ r i, ¬ (r = p ∧ i = 0) → up2 f4 p 0 (f4 p 0 + nI 1) r i = f4 r i := fun r i z => up2_ne z
        refine T_lp hd 39 1 q _ e' _ h9 hq rfl (by decide) ⟨b3, ?_, ⟨fun i hi => ?_, fun i hi => ?_, fun i hi => ?_, fun i hi => ?_⟩, fun i hi => ?_, fun i hi hi2 => ?_⟩ hsy.num0 hF4 H
        · rw [k3 _ _ (by omega), d1 _ _ (by omega)]; exact o3
        · show up2 f4 p 0 (f4 p 0 + nI 1) p i = nI (fu y.2.1 0 (y.2.1 0 + 1) i)
          by_cases zi : i = 0
          · rw [zi, fu_eq, up2_eq, c4.1.1 0 (by decide), nI_add]
          · rw [fu_ne zi, up2_k zi]; exact c4.1.1 i hi
        · rw [k3 _ _ (by omega)]; exact c4.1.2.1 i hi
        · have := c4.1.2.2.1 i hi
          show CPj _ p i (y.2.2.2.2.1 i)
          unfold CPj at this ⊢
          rw [k3 _ _ (by omega), k3 _ _ (by omega)]
          exact this
        · have := c4.1.2.2.2 i hi
          show CPf _ (p + 5 + 3 * i) (y.2.2.2.2.2 i)
          unfold CPf at this ⊢
          cases hf : y.2.2.2.2.2 i with
          | none =>
            rw [hf] at this
            show up2 f4 p 0 _ (p + 5 + 3 * i) 2 = nI 0
            rw [k3 _ _ (by omega)]; exact this
          | some ops =>
            rw [hf] at this
            exact FmC.congr this (fun k => k3 _ _ (by omega)) (fun k => k3 _ _ (by omega))
        · rw [k3 _ _ (by omega)]; exact c4.2.1 i hi
        · rw [k3 _ _ (by omega)]; exact c4.2.2 i hi hi2
  refine VX9_readText_48 h9.1.1 h9.1.2.1 h9.1.2.2.1 hst ⟨fun z => absurd z (by decide), fun _ => ⟨fun z => absurd t2.2.1 z, fun _ => ⟨fun _ => L73, fun _ => ⟨fun _ => L73, fun z => absurd (by decide) z⟩⟩⟩⟩
theorem StA.chg {fR' : FRt} (h : StA sh fR A) (e : ∀ r k, ¬ (r = A + 38 ∧ (k = 6 ∨ k = 7)) → ¬ (r = A ∧ (k = 5 ∨ k = 6)) → ¬ (r = A + 40 ∧ k = 7) → fR' r k = fR r k) : StA sh fR' A := by
  obtain ⟨h1, h2, h3, h4, h5, h6, h7⟩ := h
  have hd : ∀ q ∈ aFR, ¬ (q.1 = 38 ∧ (q.2.1 = 6 ∨ q.2.1 = 7)) ∧ ¬ (q.1 = 0 ∧ (q.2.1 = 5 ∨ q.2.1 = 6)) ∧ ¬ (q.1 = 40 ∧ q.2.1 = 7) := by decide
  refine ⟨h1, fun q hq => ?_, h3, h4.old (fun _ _ _ z => z) (fun i k hi hk => e _ _ (by omega) (by omega) (by omega)), h5.old (fun _ _ _ z => z) (fun i k hi hk => e _ _ (by omega) (by omega) (by omega)), h6.old (fun _ _ _ z => z) (fun i k hi => e _ _ (by omega) (by omega) (by omega)), h7.old (fun _ _ _ z => z) (fun i k hi => e _ _ (by omega) (by omega) (by omega))⟩
  obtain ⟨d1, d2, d3⟩ := hd q hq
  rw [e _ _ (by omega) (by omega) (by omega)]
  exact h2 q hq
theorem K_text {K : Nat → FI → FL → Prop} {v : Nat} (hd : 56 ≤ d) (hs : StA sh fR A) (hV : StPl sh fR v) (hq : StF sh fR q) (hf7 : fR (A + 38) 7 = some q) (hv : A + 4 ≤ v ∧ v + 17 ≤ A + 38) (hq2 : A + 4 ≤ q ∧ q + 3 ≤ A + 38) (h16 : tp.length ≤ 1600) (hb : ∀ b ∈ tp, b < 256) (htp : ∀ k, k < tp.length → f (A + 1) k = nI (bt tp k)) (hO : POw f A) (H : ∀ q' f', StF sh (up2 fR (A + 38) 6 (some v)) q' → A + 4 ≤ q' ∧ q' + 3 ≤ A + 38 → TX f' A v tp (txtD tp) → Fz A v f f' → K q' f' g) : Cl l G (d + 13) 0 0 mX9_readText [.ref (A + 38), .int (nI tp.length), .ref v] (sh, f, g, fR) (qn sh (up2 fR (A + 38) 6 (some v)) (A + 38) K) := by
  have hs1 : StA sh (up2 fR (A + 38) 6 (some v)) A := hs.chg (fun r k z _ _ => up2_ne (by omega))
  have h9 : RP9 sh (up2 fR (A + 38) 6 (some v)) A v q := ⟨⟨hs1, up2_eq, hV.old (fun _ _ _ z => z) (fun i k hi => up2_ne (by omega)), hq.old (fun _ _ _ z => z) (fun i k hi => up2_ne (by omega))⟩, hv⟩
  have e7 : (up2 fR (A + 38) 6 (some v)) (A + 38) 7 = some q := by rw [up2_k (by decide)]; exact hf7
  refine Cl.of (L0 := [some (.ref (A + 38)), some (.int (nI tp.length)), some (.ref v), none]) miX9_readText rfl rfl ?_
  refine S_aload_n (pc := 0) dX9_readText_0 rfl rfl ?_
  refine S_iload_n (pc := 1) dX9_readText_1 rfl rfl ?_
  refine S_putI (pc := 2) dX9_readText_2 flX9_43 (sA_38 hs) (Nat.succ_pos _) (nf_9_4) rfl rfl (fun _ => rfl) ?_
  refine S_aload_n (pc := 5) dX9_readText_5 rfl rfl ?_
  refine S_iconst (pc := 6) dX9_readText_6 ic0 ?_
  refine S_putI (pc := 7) dX9_readText_7 flX9_46 (sA_38 hs) (Nat.succ_pos _) (nf_9_5) rfl rfl (fun _ => rfl) ?_
  refine S_aload_n (pc := 10) dX9_readText_10 rfl rfl ?_
  refine S_aload_n (pc := 11) dX9_readText_11 rfl rfl ?_
  refine S_putR (pc := 12) dX9_readText_12 flX9_18 (sA_38 hs) (Nat.succ_pos _) (nf_9_6) (fun _ => rfl) (fun _ => rfl) (fun _ => rfl) ?_
  show WP l G _ mX9_readText _ 0 0 15 [some (.ref (A + 38)), some (.int (nI tp.length)), some (.ref v), none] [] (sh, up2 (up2 f (A + 38) 4 (nI tp.length)) (A + 38) 5 (nI 0), g, up2 fR (A + 38) 6 (some v))
  have key := T_15 (l := l) (G := G) (K := K) (a1 := nI tp.length) (f := up2 (up2 f (A + 38) 4 (nI tp.length)) (A + 38) 5 (nI 0)) (g := g) hd h9 hq2 ⟨by rw [up2_k (by decide), up2_eq], h16, fun k hk => by rw [up2_r (by omega), up2_r (by omega)]; exact htp k hk, hb, fun k o hk => by rw [up2_r (by omega), up2_r (by omega)]; exact hO k o hk⟩ up2_eq (fun q' f' a1 a2 a3 a4 => H q' f' a1 a2 a3 (fun r k z z2 => by rw [a4 r k z z2, up2_r z, up2_r z]))
  rw [up2_self e7] at key
  exact key
end CSR
