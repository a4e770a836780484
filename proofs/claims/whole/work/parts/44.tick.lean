/-! the reference's tick as a whole: the paths that die by wrong segments -/
section C13
variable {l : Launch} {G : Gx} {d : Nat} {sh : Sh} {fR : FRt} {B v b win : Nat} {f : FI} {g : FL} {w : Wd} {m : List (Nat × Nat)} {π : Pl} {dl : Nat → Nat}
theorem L_100 {K : FI → FL → Prop} {T0 x : Nat} {dr : Bool} {wr : List Nat} (hs : StM sh fR B) (hv : v < 22) (hπ : πOK π) (hdl : ∀ p, p < π.1 6 → 1 ≤ dl p ∧ dl p ≤ 9) (hT0 : T0 < 1000) (hwr : ∀ p ∈ wr, p < 4) (hwl : wr.length ≤ 480)
    (H : ∀ (f' : FI) (g' : FL) (m' : List (Nat × Nat)), RM f' B v (lastS π dl dr (wr.foldl dieS w) x).1 m' → TkR f' g' B dr (lastS π dl dr (wr.foldl dieS w) x) → WI π (400 * (T0 + 1)) (T0 + 1) (fun _ => T0 + 1) (T0 + 1) (lastS π dl dr (wr.foldl dieS w) x).1 → PI π (lastS π dl dr (wr.foldl dieS w) x).1 m' → (lastS π dl dr (wr.foldl dieS w) x).1.1 0 = T0 + 1 → FrS B v f f' → FrL B g g' → K f' g') :
    ∀ (R D : List Nat) (f0 : FI) (g0 : FL) (wk : Wd) (m : List (Nat × Nat)), wr = D ++ R → wk = D.foldl dieS w → RM f0 B v wk m → TM f0 B b π win dl → WI π (400 * T0) (T0 + 1) (fun _ => T0) (T0 + 1) wk → PI π wk m → wk.1 0 = T0 → TkZ f0 g0 B dr x → f0 B 59 = nI wr.length → (∀ (k p : Nat), wr[k]? = some p → f0 (B + 33) k = nI p) → FrS B v f f0 → FrL B g g0 → LpX12_ticksOn_100 l G d (qv sh fR K) sh fR B f0 g0 (nI v) (nI D.length) := by
  intro R
  induction R with
  | nil =>
    intro D f0 g0 wk m e hwk hR hT hW hP h0 hz h59 h33 hF hG
    rw [List.append_nil] at e
    subst e
    refine VX12_ticksOn_100 hs ?_
    rw [h59]
    refine ⟨fun _ => ?_, fun z => absurd (nI_le (Nat.le_refl _) (by omega)) z⟩
    refine L_127 (w := wr.foldl dieS w) hs hv hπ hdl hT0 H (π.1 6) 0 f0 g0 wk m rfl hwk hR hT ?_ hP h0 hz hF hG
    exact hW.le (Nat.le_refl _) (fun q => by rw [if_neg (by omega)]; exact Nat.le_refl _) (Nat.le_refl _)
  | cons p R ih =>
    intro D f0 g0 wk m e hwk hR hT hW hP h0 hz h59 h33 hF hG
    have hk : wr[D.length]? = some p := by rw [e]; exact at_len
    have hlen : wr.length = D.length + (R.length + 1) := by rw [e]; simp
    have hp4 := hwr p (List.mem_of_getElem? hk)
    have hN := hW.wN hπ (by omega)
    refine VX12_ticksOn_100 hs ?_
    rw [h59, clN (by omega), h33 _ p hk]
    refine ⟨fun z => absurd z (nI_ge (by omega) (by omega)), fun _ => ⟨inbN (by omega) (by decide), ?_⟩⟩
    refine C_dies hs hv hR (fun s hs => (hN.2.2.1 s hs).1) hp4 (hN.2.1 p 1) ?_ (fun f1 q1 q2 => ?_)
    · have := hP.2.2
      have hle : flyS wk p ≤ wk.2.2.1.countP (fun s => s.2.2.2.2.2.2.1) := countP_mono (fun s _ hz => by
        simp only [Bool.and_eq_true] at hz
        exact hz.1)
      omega
    · have := ih (D ++ [p]) f1 g0 (dieS wk p) (dieM wk p m) (by rw [e]; simp) (by rw [List.foldl_append, ← hwk]; rfl) q1 (hT.fr q2) (hW.die (by omega)) (hP.die hW) (by rw [dieS_1]; exact h0) (hz.fr q2 (fun _ _ _ => rfl)) (by rw [q2 _ _ (by unfold tch; omega)]; exact h59) (fun k p hkp => by rw [q2 _ _ (by unfold tch; omega)]; exact h33 k p hkp) (hF.tr q2.s) hG
      rw [List.length_append, List.length_singleton] at this
      rw [nI_add]
      exact this
end C13
