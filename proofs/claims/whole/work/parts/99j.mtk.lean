/-! the reference: tokens -/
def MK (f : FI) (B : Nat) (tp : List Nat) : Prop := f B 2 = nI tp.length ∧ tp.length ≤ 1600 ∧ (∀ k, k < tp.length → f (B + 1) k = nI (bt tp k)) ∧ ∀ b ∈ tp, b < 256
def MTk (f : FI) (g : FL) (B : Nat) (tp : List Nat) (e : Nat) : Prop := f B 4 = nI (tkS tp e) ∧ f B 12 = (if tkK tp e = 4 then nI (tkB tp e) else -1) ∧ (tkK tp e ≠ 4 → f B 3 = nI (tkK tp e) ∧ f B 5 = nI (tkE tp e) ∧ (tkK tp e = 1 → g B 7 = lN (packM (tkW tp e)) ∧ f B 6 = nI 0) ∧ (tkK tp e = 2 ∨ tkK tp e = 3 → f B 6 = nI (tkV tp e))) ∧ (0 < e → ∃ v, v ≤ 9999 ∧ f B 6 = nI v) ∧ (tkK tp e = 4 → ¬ f B 3 = 0) ∧ f B 9 = -1
def Fh (B : Nat) (f f' : FI) : Prop := ∀ r k, ¬ (r = B ∧ (k = 3 ∨ k = 4 ∨ k = 5 ∨ k = 6 ∨ k = 12)) → f' r k = f r k
def Fg (B : Nat) (g g' : FL) : Prop := ∀ r k, ¬ (r = B ∧ k = 7) → g' r k = g r k
theorem Fh.rf {B : Nat} {f : FI} : Fh B f f := fun _ _ _ => rfl
theorem Fg.rf {B : Nat} {f : FL} : Fg B f f := fun _ _ _ => rfl
theorem Fh.tr {B : Nat} {f f' f'' : FI} (h : Fh B f f') (h' : Fh B f' f'') : Fh B f f'' := fun r k z => (h' r k z).trans (h r k z)
theorem Fg.tr {B : Nat} {f f' f'' : FL} (h : Fg B f f') (h' : Fg B f' f'') : Fg B f f'' := fun r k z => (h' r k z).trans (h r k z)
theorem Fh.up {B k : Nat} {f f' : FI} {v : Int32} (h : Fh B f f') (hk : k = 3 ∨ k = 4 ∨ k = 5 ∨ k = 6 ∨ k = 12) : Fh B f (up2 f' B k v) := fun r i z => by
  rw [up2_ne (fun z2 => z ⟨z2.1, by omega⟩)]
  exact h r i z
theorem Fg.up {B : Nat} {f f' : FL} {v : Int64} (h : Fg B f f') : Fg B f (up2 f' B 7 v) := fun r i z => by
  rw [up2_ne z]
  exact h r i z
theorem MK.fh {B : Nat} {f f' : FI} {tp : List Nat} (h : MK f B tp) (e : Fh B f f') : MK f' B tp := by
  obtain ⟨c1, c2, c3, c4⟩ := h
  exact ⟨by rw [e _ _ (by omega)]; exact c1, c2, fun k hk => by rw [e _ _ (by omega)]; exact c3 k hk, c4⟩
theorem pk_lshlN {n : Nat} (s : Int64) (k : Nat) (hs : (s.toBitVec.smod 64).toNat = k) (h : n * 2 ^ k < 2 ^ 64) : lN n <<< s = lN (n * 2 ^ k) := by
  apply Int64.toBitVec_inj.mp
  apply BitVec.eq_of_toNat_eq
  have hn : n < 2 ^ 64 := Nat.lt_of_le_of_lt (Nat.le_mul_of_pos_right n (Nat.two_pow_pos k)) h
  show ((lN n).toBitVec <<< (s.toBitVec.smod 64).toNat).toNat = (BitVec.ofNat 64 _).toNat
  rw [hs, BitVec.toNat_shiftLeft, Nat.shiftLeft_eq]
  show (BitVec.ofNat 64 n).toNat * 2 ^ k % 2 ^ 64 = _
  rw [BitVec.toNat_ofNat, BitVec.toNat_ofNat, Nat.mod_eq_of_lt hn]
theorem pk_lorN {a b : Nat} (ha : a < 2 ^ 64) (hb : b < 2 ^ 64) : lN a ||| lN b = lN (a ||| b) := by
  apply Int64.toBitVec_inj.mp
  apply BitVec.eq_of_toNat_eq
  rw [Int64.toBitVec_or, BitVec.toNat_or]
  have h := Nat.or_lt_two_pow ha hb
  show (BitVec.ofNat 64 a).toNat ||| (BitVec.ofNat 64 b).toNat = (BitVec.ofNat 64 _).toNat
  rw [BitVec.toNat_ofNat, BitVec.toNat_ofNat, BitVec.toNat_ofNat, Nat.mod_eq_of_lt ha, Nat.mod_eq_of_lt hb, Nat.mod_eq_of_lt h]
theorem pk_word {a b : Nat} (ha : a < 256 ^ 6) (hb : b < 256) : (lN a <<< ((nI 8).toInt64 &&& 63)) ||| (nI b).toInt64 = lN (a * 256 + b) := by
  have h6 : (256 : Nat) ^ 6 = 281474976710656 := by decide
  rw [h6] at ha
  rw [nI_l (n := b) (by omega), pk_lshlN (n := a) _ 8 (by decide) (by omega), pk_lorN (by omega) (by omega)]
  have h := Nat.two_pow_add_eq_or_of_lt (show b < 2 ^ 8 by omega) a
  rw [Nat.mul_comm a, ← h]
section MTK
variable {l : Launch} {G : Gx} {d : Nat} {sh : Sh} {fR : FRt} {B : Nat} {f : FI} {g : FL} {tp : List Nat}
theorem M_isLt {K : Int32 → FI → FL → Prop} {c : Nat} (hs : StM sh fR B) (hc : c < 256) (H : K (bI (isLt c)) f g) : Cl l G d 0 0 mX12_isLetter [.int (nI c)] (sh, f, g, fR) (qi sh fR K) := by
  refine VX12_isLetter hs ?_
  rw [nI_ltI (by omega) (by decide), nI_ltI (by decide) (by omega)]
  refine ⟨fun z => ?_, fun z => ⟨fun z2 => ?_, fun z2 => ?_⟩⟩
  · rw [show isLt c = false by unfold isLt; simp; omega] at H; exact ⟨_, _, _, rfl, rfl, H⟩
  · rw [show isLt c = false by unfold isLt; simp; omega] at H; exact ⟨_, _, _, rfl, rfl, H⟩
  · rw [show isLt c = true by unfold isLt; simp; omega] at H; exact ⟨_, _, _, rfl, rfl, H⟩
theorem M_isDg {K : Int32 → FI → FL → Prop} {c : Nat} (hs : StM sh fR B) (hc : c < 256) (H : K (bI (isDg c)) f g) : Cl l G d 0 0 mX12_isDigit [.int (nI c)] (sh, f, g, fR) (qi sh fR K) := by
  refine VX12_isDigit hs ?_
  rw [nI_ltI (by omega) (by decide), nI_ltI (by decide) (by omega)]
  refine ⟨fun z => ?_, fun z => ⟨fun z2 => ?_, fun z2 => ?_⟩⟩
  · rw [show isDg c = false by unfold isDg; simp; omega] at H; exact ⟨_, _, _, rfl, rfl, H⟩
  · rw [show isDg c = false by unfold isDg; simp; omega] at H; exact ⟨_, _, _, rfl, rfl, H⟩
  · rw [show isDg c = true by unfold isDg; simp; omega] at H; exact ⟨_, _, _, rfl, rfl, H⟩
theorem L_ah5 {Q : Option Value → Hp → Prop} (hs : StM sh fR B) (hM : MK f B tp) : ∀ n b, tp.length - b = n → b ≤ tp.length → LpX12_ahead_41 l G d Q sh fR B f g (nI (tkS tp b)) → LpX12_ahead_5 l G d Q sh fR B f g (nI b) := by
  intro n
  have h16 := hM.2.1
  induction n with
  | zero =>
    intro b hn hb H
    refine VX12_ahead_5 hs ?_
    rw [hM.1]
    rw [tkS_stop (Or.inl (by omega))] at H
    exact ⟨fun _ => H, fun c => absurd (nI_le (by omega) (by omega)) c⟩
  | succ n ih =>
    intro b hn hb H
    have hlt : b < tp.length := by omega
    have hbb := bt_lt hM.2.2.2 b
    have go : isBl (bt tp b) = true → LpX12_ahead_35 l G d Q sh fR B f g (nI b) := fun c => by
      refine VX12_ahead_35 hs ?_
      rw [nI_add]
      exact ih (b + 1) (by omega) (by omega) (by rw [tkS_step hlt c]; exact H)
    refine VX12_ahead_5 hs ?_
    rw [hM.1, clN (by omega), hM.2.2.1 b hlt, nI_eq (by omega) (by decide), nI_eq (by omega) (by decide)]
    refine ⟨fun c => absurd c (nI_ge hlt (by omega)), fun _ => ⟨inbN (by omega) (by decide), fun c => go (isBl_i.mpr (Or.inl c)), fun c => ⟨inbN (by omega) (by decide), fun c2 => ?_, fun c2 => go (isBl_i.mpr (Or.inr c2))⟩⟩⟩
    rw [tkS_stop (Or.inr (by unfold isBl; simp [c, c2]))] at H
    exact H
/-- behind too many letters or digits: nothing more is taken -/
theorem L_ahL {Q : Option Value → Hp → Prop} {bL : Bool} {m : Nat} (hs : StM sh fR B) (hm : m < 7) : ∀ k n i f, tp.length - i = k → i ≤ tp.length → m < n → n + k ≤ 2000 → MK f B tp → (∀ f', (∀ r k, ¬ (r = B ∧ k = 5) → f' r k = f r k) → Q none (sh, f', g, fR)) → LpX12_ahead_204 l G d Q sh fR B f g (nI i) (bI bL) (bI (!bL)) (nI m) (nI n) := by
  intro k
  induction k with
  | zero =>
    intro n i f hk hi hmn hn2 hM H
    have h16 := hM.2.1
    refine VX12_ahead_204 hs ?_
    rw [hM.1]
    exact ⟨fun _ => H _ (fun r k z => up2_ne z), fun c => absurd (nI_le (by omega) (by omega)) c⟩
  | succ k ih =>
    intro n i f hk hi hmn hn2 hM H
    have h16 := hM.2.1
    have hlt : i < tp.length := by omega
    have hbb := bt_lt hM.2.2.2 i
    have go : LpX12_ahead_243 l G d Q sh fR B f g (nI i) (bI bL) (bI (!bL)) (nI m) (nI n) := by
      refine VX12_ahead_243 hs ⟨fun _ => ?_, fun c => absurd ((nI_eq (by omega) (by omega)).mp c) (by omega)⟩
      refine VX12_ahead_263 hs ⟨fun _ => ?_, fun c => absurd (nI_le (by omega) (by omega)) c⟩
      refine VX12_ahead_293 hs ⟨fun _ => ?_, fun c => absurd (nI_le (by omega) (by omega)) c⟩
      refine VX12_ahead_325 hs ?_
      rw [nI_add, nI_add]
      exact ih (n + 1) (i + 1) f (by omega) (by omega) (by omega) (by omega) hM H
    refine VX12_ahead_204 hs ?_
    rw [hM.1, clN (by omega), hM.2.2.1 i hlt]
    refine ⟨fun c => absurd c (nI_ge hlt (by omega)), fun _ => bI_cs (fun _ => ⟨inbN (by omega) (by decide), M_isDg hs hbb (bI_cs (fun _ => H _ (fun r k z => up2_ne z)) (fun _ => go))⟩) (fun _ => ⟨inbN (by omega) (by decide), M_isLt hs hbb (bI_cs (fun _ => H _ (fun r k z => up2_ne z)) (fun _ => go))⟩)⟩
theorem L_ahW {Q : Option Value → Hp → Prop} {v12 : Int32} (hs : StM sh fR B) : ∀ k n i a f g, n + k = 6 → i ≤ tp.length → a < 256 ^ n → MK f B tp → f B 12 = v12 → g B 7 = lN a → (∀ f' g', Fh B f f' → Fg B g g' → f' B 3 = f B 3 → f' B 4 = f B 4 → f' B 6 = f B 6 → g' B 7 = lN ((ltrs tp k i).foldl (fun a c => a * 256 + (c + 96)) a) → f' B 12 = (if isLt (bt tp (i + cnt isLt tp k i)) = true ∧ v12 = -1 then nI (i + cnt isLt tp k i) else v12) → (isLt (bt tp (i + cnt isLt tp k i)) = false → f' B 5 = nI (i + cnt isLt tp k i)) → Q none (sh, f', g', fR)) → LpX12_ahead_204 l G d Q sh fR B f g (nI i) (nI 1) (nI 0) (nI 6) (nI n) := by
  intro k
  induction k with
  | zero =>
    intro n i a f g hn hi ha hM h12 h7 H
    have h16 := hM.2.1
    have hn6 : n = 6 := by omega
    subst hn6
    refine VX12_ahead_204 hs ?_
    rw [hM.1]
    by_cases hlt : i < tp.length
    · have hbb := bt_lt hM.2.2.2 i
      rw [clN (by omega), hM.2.2.1 i hlt]
      refine ⟨fun c => absurd c (nI_ge hlt (by omega)), fun _ => ⟨fun c => absurd c (by decide), fun _ => ⟨inbN (by omega) (by decide), M_isLt hs hbb (bI_cs (fun c => ?_) (fun c => ?_))⟩⟩⟩
      · refine H _ _ (Fh.rf.up (by decide)) Fg.rf (up2_k (by decide)) (up2_k (by decide)) (up2_k (by decide)) h7 ?_ (fun _ => by rw [up2_eq]; rfl)
        rw [up2_k (by decide), h12, if_neg]
        intro z
        rw [show i + cnt isLt tp 0 i = i from rfl, c] at z
        cases z.1
      · have fin : ∀ F : FI, (∀ r k, ¬ (r = B ∧ k = 12) → F r k = f r k) → F B 12 = (if v12 = -1 then nI i else v12) → LpX12_ahead_263 l G d Q sh fR B F g (nI i) (nI 1) (nI 0) (nI 6) (nI 6) := by
          intro F hF hF2
          have hF' : Fh B f F := fun r k z => hF r k (fun y => z ⟨y.1, by omega⟩)
          refine VX12_ahead_263 hs ⟨fun _ => ?_, fun c => absurd (nI_le (Nat.le_refl _) (by decide)) c⟩
          refine VX12_ahead_293 hs ⟨fun _ => ?_, fun c => absurd (nI_le (Nat.le_refl _) (by decide)) c⟩
          refine VX12_ahead_325 hs ?_
          rw [nI_add, nI_add]
          refine L_ahL (bL := true) hs (by decide) _ 7 (i + 1) F rfl (by omega) (by decide) (by omega) (hM.fh hF') (fun f' e => ?_)
          have he : Fh B F f' := fun r k z => e r k (fun y => z ⟨y.1, by omega⟩)
          refine H f' g (hF'.tr he) Fg.rf (by rw [e _ _ (by omega), hF _ _ (by omega)]) (by rw [e _ _ (by omega), hF _ _ (by omega)]) (by rw [e _ _ (by omega), hF _ _ (by omega)]) h7 ?_ (fun z => ?_)
          · rw [e _ _ (by omega), hF2, show i + cnt isLt tp 0 i = i from rfl]
            by_cases c2 : v12 = -1
            · rw [if_pos c2, if_pos ⟨c, c2⟩]
            · rw [if_neg c2, if_neg (fun y => c2 y.2)]
          · rw [show i + cnt isLt tp 0 i = i from rfl, c] at z; cases z
        refine VX12_ahead_243 hs ⟨fun c => absurd rfl c, fun _ => ?_⟩
        rw [h12]
        refine ⟨fun c2 => fin f (fun _ _ _ => rfl) (by rw [if_neg c2]; exact h12), fun c2 => fin _ (fun r k z => up2_ne z) (by rw [if_pos c2, up2_eq])⟩
    · have hb : bt tp (i + cnt isLt tp 0 i) = 0 := bt_out (by show tp.length ≤ i; omega)
      refine ⟨fun _ => H _ _ (Fh.rf.up (by decide)) Fg.rf (up2_k (by decide)) (up2_k (by decide)) (up2_k (by decide)) h7 ?_ (fun _ => by rw [up2_eq]; rfl), fun c => absurd (nI_le (by omega) (by omega)) c⟩
      rw [up2_k (by decide), h12, hb, if_neg (fun z => by cases z.1)]
  | succ k ih =>
    intro n i a f g hn hi ha hM h12 h7 H
    have h16 := hM.2.1
    refine VX12_ahead_204 hs ?_
    rw [hM.1]
    by_cases hlt : i < tp.length
    · have hbb := bt_lt hM.2.2.2 i
      rw [clN (by omega), hM.2.2.1 i hlt]
      refine ⟨fun c => absurd c (nI_ge hlt (by omega)), fun _ => ⟨fun c => absurd c (by decide), fun _ => ⟨inbN (by omega) (by decide), M_isLt hs hbb (bI_cs (fun c => ?_) (fun c => ?_))⟩⟩⟩
      · have hc : cnt isLt tp (k + 1) i = 0 := by unfold cnt; rw [c]; rfl
        have e0 : i + cnt isLt tp (k + 1) i = i := by omega
        rw [e0, c] at H
        refine H _ _ (Fh.rf.up (by decide)) Fg.rf (up2_k (by decide)) (up2_k (by decide)) (up2_k (by decide)) ?_ ?_ (fun _ => by rw [up2_eq])
        · unfold ltrs; rw [c]; exact h7
        · rw [up2_k (by decide), h12, if_neg (fun z => by cases z.1)]
      · have hc : cnt isLt tp (k + 1) i = cnt isLt tp k (i + 1) + 1 := by conv => lhs; unfold cnt; rw [if_pos c]
        have c0 := isLt_i.mp c
        rw [hc, show i + (cnt isLt tp k (i + 1) + 1) = i + 1 + cnt isLt tp k (i + 1) by omega] at H
        refine VX12_ahead_243 hs ⟨fun _ => ?_, fun c => absurd ((nI_eq (by omega) (by omega)).mp c) (by omega)⟩
        refine VX12_ahead_263 hs ⟨fun c => absurd c (nI_ge (by omega) (by decide)), fun _ => ⟨fun c => absurd c (by decide), fun _ => ⟨inbN (by omega) (by decide), ?_⟩⟩⟩
        have ha6 : a < 256 ^ 6 := Nat.lt_of_lt_of_le ha (Nat.pow_le_pow_right (by decide) (by omega))
        rw [clN (by omega), hM.2.2.1 i hlt, h7, pk_word ha6 hbb]
        refine VX12_ahead_293 hs ⟨fun c => absurd c (nI_ge (by omega) (by decide)), fun _ => ⟨fun _ => ?_, fun c => absurd rfl c⟩⟩
        refine VX12_ahead_325 hs ?_
        rw [nI_add, nI_add]
        refine ih (n + 1) (i + 1) (a * 256 + bt tp i) f _ (by omega) (by omega) (by rw [Nat.pow_succ]; omega) hM h12 up2_eq (fun f' g' e1 e2 e3 e4 e5 e6 e7 e8 => H f' g' e1 (Fg.rf.up.tr e2) e3 e4 e5 ?_ e7 e8)
        rw [e6]
        conv => rhs; unfold ltrs; rw [if_pos c, List.foldl_cons, show bt tp i - 96 + 96 = bt tp i by omega]
    · have hb : bt tp i = 0 := bt_out (by omega)
      have hc : cnt isLt tp (k + 1) i = 0 := by unfold cnt; rw [hb]; rfl
      have e0 : i + cnt isLt tp (k + 1) i = i := by omega
      rw [e0, hb] at H
      refine ⟨fun _ => H _ _ (Fh.rf.up (by decide)) Fg.rf (up2_k (by decide)) (up2_k (by decide)) (up2_k (by decide)) ?_ ?_ (fun _ => by rw [up2_eq]), fun c => absurd (nI_le (by omega) (by omega)) c⟩
      · unfold ltrs; rw [hb]; exact h7
      · rw [up2_k (by decide), h12, if_neg (fun z => by cases z.1)]
theorem L_ahD {Q : Option Value → Hp → Prop} {v12 : Int32} (hs : StM sh fR B) : ∀ k n i v f, n + k = 4 → i ≤ tp.length → MK f B tp → f B 12 = v12 → f B 6 = nI v → (∀ f', Fh B f f' → f' B 3 = f B 3 → f' B 4 = f B 4 → f' B 6 = nI (dgs tp k i v) → f' B 12 = (if isDg (bt tp (i + cnt isDg tp k i)) = true ∧ v12 = -1 then nI (i + cnt isDg tp k i) else v12) → (isDg (bt tp (i + cnt isDg tp k i)) = false → f' B 5 = nI (i + cnt isDg tp k i)) → Q none (sh, f', g, fR)) → LpX12_ahead_204 l G d Q sh fR B f g (nI i) (nI 0) (nI 1) (nI 4) (nI n) := by
  intro k
  induction k with
  | zero =>
    intro n i v f hn hi hM h12 h6 H
    have h16 := hM.2.1
    have hn6 : n = 4 := by omega
    subst hn6
    refine VX12_ahead_204 hs ?_
    rw [hM.1]
    by_cases hlt : i < tp.length
    · have hbb := bt_lt hM.2.2.2 i
      rw [clN (by omega), hM.2.2.1 i hlt]
      refine ⟨fun c => absurd c (nI_ge hlt (by omega)), fun _ => ⟨fun _ => ⟨inbN (by omega) (by decide), M_isDg hs hbb (bI_cs (fun c => ?_) (fun c => ?_))⟩, fun c => absurd rfl c⟩⟩
      · refine H _ (Fh.rf.up (by decide)) (up2_k (by decide)) (up2_k (by decide)) ((up2_k (by decide)).trans h6) ?_ (fun _ => by rw [up2_eq]; rfl)
        rw [up2_k (by decide), h12, if_neg]
        intro z
        rw [show i + cnt isDg tp 0 i = i from rfl, c] at z
        cases z.1
      · have fin : ∀ F : FI, (∀ r k, ¬ (r = B ∧ k = 12) → F r k = f r k) → F B 12 = (if v12 = -1 then nI i else v12) → LpX12_ahead_263 l G d Q sh fR B F g (nI i) (nI 0) (nI 1) (nI 4) (nI 4) := by
          intro F hF hF2
          have hF' : Fh B f F := fun r k z => hF r k (fun y => z ⟨y.1, by omega⟩)
          refine VX12_ahead_263 hs ⟨fun _ => ?_, fun c => absurd (nI_le (Nat.le_refl _) (by decide)) c⟩
          refine VX12_ahead_293 hs ⟨fun _ => ?_, fun c => absurd (nI_le (Nat.le_refl _) (by decide)) c⟩
          refine VX12_ahead_325 hs ?_
          rw [nI_add, nI_add]
          refine L_ahL (bL := false) hs (by decide) _ 5 (i + 1) F rfl (by omega) (by decide) (by omega) (hM.fh hF') (fun f' e => ?_)
          have he : Fh B F f' := fun r k z => e r k (fun y => z ⟨y.1, by omega⟩)
          refine H f' (hF'.tr he) (by rw [e _ _ (by omega), hF _ _ (by omega)]) (by rw [e _ _ (by omega), hF _ _ (by omega)]) (by rw [e _ _ (by omega), hF _ _ (by omega)]; exact h6) ?_ (fun z => ?_)
          · rw [e _ _ (by omega), hF2, show i + cnt isDg tp 0 i = i from rfl]
            by_cases c2 : v12 = -1
            · rw [if_pos c2, if_pos ⟨c, c2⟩]
            · rw [if_neg c2, if_neg (fun y => c2 y.2)]
          · rw [show i + cnt isDg tp 0 i = i from rfl, c] at z; cases z
        refine VX12_ahead_243 hs ⟨fun c => absurd rfl c, fun _ => ?_⟩
        rw [h12]
        refine ⟨fun c2 => fin f (fun _ _ _ => rfl) (by rw [if_neg c2]; exact h12), fun c2 => fin _ (fun r k z => up2_ne z) (by rw [if_pos c2, up2_eq])⟩
    · have hb : bt tp (i + cnt isDg tp 0 i) = 0 := bt_out (by show tp.length ≤ i; omega)
      refine ⟨fun _ => H _ (Fh.rf.up (by decide)) (up2_k (by decide)) (up2_k (by decide)) ((up2_k (by decide)).trans h6) ?_ (fun _ => by rw [up2_eq]; rfl), fun c => absurd (nI_le (by omega) (by omega)) c⟩
      rw [up2_k (by decide), h12, hb, if_neg (fun z => by cases z.1)]
  | succ k ih =>
    intro n i v f hn hi hM h12 h6 H
    have h16 := hM.2.1
    refine VX12_ahead_204 hs ?_
    rw [hM.1]
    by_cases hlt : i < tp.length
    · have hbb := bt_lt hM.2.2.2 i
      rw [clN (by omega), hM.2.2.1 i hlt]
      refine ⟨fun c => absurd c (nI_ge hlt (by omega)), fun _ => ⟨fun _ => ⟨inbN (by omega) (by decide), M_isDg hs hbb (bI_cs (fun c => ?_) (fun c => ?_))⟩, fun c => absurd rfl c⟩⟩
      · have hc : cnt isDg tp (k + 1) i = 0 := by unfold cnt; rw [c]; rfl
        have e0 : i + cnt isDg tp (k + 1) i = i := by omega
        rw [e0, c] at H
        refine H _ (Fh.rf.up (by decide)) (up2_k (by decide)) (up2_k (by decide)) ?_ ?_ (fun _ => by rw [up2_eq])
        · rw [up2_k (by decide)]; unfold dgs; rw [c]; exact h6
        · rw [up2_k (by decide), h12, if_neg (fun z => by cases z.1)]
      · have hc : cnt isDg tp (k + 1) i = cnt isDg tp k (i + 1) + 1 := by conv => lhs; unfold cnt; rw [if_pos c]
        have c0 := isDg_i.mp c
        rw [hc, show i + (cnt isDg tp k (i + 1) + 1) = i + 1 + cnt isDg tp k (i + 1) by omega] at H
        refine VX12_ahead_243 hs ⟨fun _ => ?_, fun c => absurd ((nI_eq (by omega) (by omega)).mp c) (by omega)⟩
        refine VX12_ahead_263 hs ⟨fun c => absurd c (nI_ge (by omega) (by decide)), fun _ => ⟨fun _ => ?_, fun c => absurd rfl c⟩⟩
        refine VX12_ahead_293 hs ⟨fun c => absurd c (nI_ge (by omega) (by decide)), fun _ => ⟨fun c => absurd c (by decide), fun _ => ⟨inbN (by omega) (by decide), ?_⟩⟩⟩
        refine VX12_ahead_325 hs ?_
        rw [clN (by omega), hM.2.2.1 i hlt, h6, pk_mul, nI_add, pk_sub (by omega), nI_add, nI_add]
        have hF : Fh B f (up2 f B 6 (nI (10 * v + bt tp i - 48))) := Fh.rf.up (by decide)
        refine ih (n + 1) (i + 1) (10 * v + bt tp i - 48) _ (by omega) (by omega) (hM.fh hF) ((up2_k (by decide)).trans h12) up2_eq (fun f' e1 e3 e4 e5 e7 e8 => H f' (hF.tr e1) (by rw [e3, up2_k (by decide)]) (by rw [e4, up2_k (by decide)]) ?_ e7 e8)
        rw [e5]
        conv => rhs; unfold dgs; rw [if_pos c]
    · have hb : bt tp i = 0 := bt_out (by omega)
      have hc : cnt isDg tp (k + 1) i = 0 := by unfold cnt; rw [hb]; rfl
      have e0 : i + cnt isDg tp (k + 1) i = i := by omega
      rw [e0, hb] at H
      refine ⟨fun _ => H _ (Fh.rf.up (by decide)) (up2_k (by decide)) (up2_k (by decide)) ?_ ?_ (fun _ => by rw [up2_eq]), fun c => absurd (nI_le (by omega) (by omega)) c⟩
      · rw [up2_k (by decide)]; unfold dgs; rw [hb]; exact h6
      · rw [up2_k (by decide), h12, if_neg (fun z => by cases z.1)]
end MTK
