/-! the reference: what is asked of a token, faults -/
def MS (f : FI) (g : FL) (B : Nat) (tp : List Nat) (r : Rr Nat) : Prop := MK f B tp ∧ match r with
  | .ok e => f B 8 = 0 ∧ e ≤ tp.length ∧ MTk f g B tp e
  | .error x => f B 8 = nI x.1 ∧ 0 < x.1 ∧ x.1 ≤ 6 ∧ f B 9 = nI x.2 ∧ x.2 ≤ 1600
def Fm (B : Nat) (f f' : FI) : Prop := ∀ r k, ¬ (r = B ∧ (k = 3 ∨ k = 4 ∨ k = 5 ∨ k = 6 ∨ k = 8 ∨ k = 9 ∨ k = 12)) → f' r k = f r k
theorem Fm.rf {B : Nat} {f : FI} : Fm B f f := fun _ _ _ => rfl
theorem Fm.tr {B : Nat} {f f' f'' : FI} (h : Fm B f f') (h' : Fm B f' f'') : Fm B f f'' := fun r k z => (h' r k z).trans (h r k z)
theorem Fh.fm {B : Nat} {f f' : FI} (h : Fh B f f') : Fm B f f' := fun r k z => h r k (fun q => z ⟨q.1, by omega⟩)
theorem MK.fm {B : Nat} {f f' : FI} {tp : List Nat} (h : MK f B tp) (e : Fm B f f') : MK f' B tp := by
  obtain ⟨c1, c2, c3, c4⟩ := h
  exact ⟨by rw [e _ _ (by omega)]; exact c1, c2, fun k hk => by rw [e _ _ (by omega)]; exact c3 k hk, c4⟩
def Fb (B : Nat) (f f' : FI) : Prop := ∀ r k, ¬ (r = B ∧ (k = 8 ∨ k = 9)) → f' r k = f r k
theorem Fb.fm {B : Nat} {f f' : FI} (h : Fb B f f') : Fm B f f' := fun r k z => h r k (fun q => z ⟨q.1, by omega⟩)
def lexD (tp : List Nat) (e : Nat) : Rr Nat := if tkK tp e = 4 then .error (bad tp e) else .ok e
section MLV
variable {l : Launch} {G : Gx} {d : Nat} {sh : Sh} {fR : FRt} {B : Nat} {f : FI} {g : FL} {tp : List Nat} {r : Rr Nat}
theorem MS.er8 {x : Nat × Nat} (h : MS f g B tp (.error x)) : ¬ f B 8 = 0 ∧ ¬ f B 8 ≤ 0 := by
  obtain ⟨-, h1, h2, h3, -⟩ := h
  rw [h1]
  exact ⟨nI_ne0 h2 (by omega), nI_nle h2 (by omega)⟩
theorem MS.ok8 {e : Nat} (h : MS f g B tp (.ok e)) : f B 8 = 0 ∧ f B 8 ≤ 0 := by
  obtain ⟨-, h1, -⟩ := h
  rw [h1]
  exact ⟨rfl, by decide⟩
theorem MS.len (h : MS f g B tp r) : tp.length ≤ 1600 := h.1.2.1
theorem M_blame {K : FI → FL → Prop} {k pl : Nat} {a2 : Int32} (hs : StM sh fR B) (hT : MS f g B tp r) (hk : 0 < k ∧ k ≤ 6) (ha : ∀ e, r = .ok e → a2 = nI pl ∧ pl ≤ 1600) (H : ∀ f', Fb B f f' → MS f' g B tp (bd r (fun _ => .error (k, pl))) → K f' g) : Cl l G d 0 0 mX12_blame [.ref B, .int (nI k), .int a2] (sh, f, g, fR) (qv sh fR K) := by
  refine VX12_blame hs ?_
  cases r with
  | error x => exact ⟨fun z => absurd z hT.er8.2, fun _ => ⟨_, _, rfl, rfl, H f (fun _ _ _ => rfl) hT⟩⟩
  | ok e =>
    obtain ⟨rfl, hpl⟩ := ha e rfl
    refine ⟨fun _ => ⟨_, _, rfl, rfl, ?_⟩, fun z => absurd hT.ok8.2 z⟩
    have hF : Fb B f (up2 (up2 f B 8 (nI k)) B 9 (nI pl)) := fun r i z => by
      rw [up2_ne (fun z2 => z ⟨z2.1, by omega⟩), up2_ne (fun z2 => z ⟨z2.1, by omega⟩)]
    exact H _ hF ⟨hT.1.fm hF.fm, by rw [up2_k (by decide), up2_eq], hk.1, hk.2, up2_eq, hpl⟩
theorem M_lex {K : FI → FL → Prop} (hs : StM sh fR B) (hT : MS f g B tp r) (H : ∀ f', Fm B f f' → MS f' g B tp (bd r (lexD tp)) → K f' g) : Cl l G (d + 1) 0 0 mX12_lex [.ref B] (sh, f, g, fR) (qv sh fR K) := by
  refine VX12_lex hs ?_
  cases r with
  | error x => exact ⟨fun _ => ⟨_, _, rfl, rfl, H f Fm.rf hT⟩, fun _ => M_blame (k := 1) (pl := 0) hs hT (by decide) (fun e z => by cases z) (fun f' a1 a2 => ⟨_, _, rfl, rfl, H f' a1.fm a2⟩)⟩
  | ok e =>
    have hl := hT.len
    have e2 := hT.2.2.1
    have t2 := hT.2.2.2.2.1
    rw [bd_ok] at H
    unfold lexD at H
    have hb := bad_le e2
    by_cases c : tkK tp e = 4
    · rw [if_pos c] at H t2
      have hbb : bad tp e = (1, tkB tp e) := by unfold bad; rw [if_pos c]
      rw [hbb] at hb
      dsimp only at hb
      refine ⟨fun z => absurd z (by rw [t2]; exact nI_m1 (by omega)), fun _ => M_blame (k := 1) (pl := tkB tp e) hs hT (by decide) (fun _ _ => ⟨t2, by omega⟩) (fun f' a1 a2 => ⟨_, _, rfl, rfl, H f' a1.fm ?_⟩)⟩
      rw [hbb]; exact a2
    · rw [if_neg c] at H t2
      exact ⟨fun _ => ⟨_, _, rfl, rfl, H f Fm.rf hT⟩, fun z => absurd t2 z⟩
theorem M_isSgA {K : Int32 → FI → FL → Prop} {a : Int32} (hs : StM sh fR B) (H : ∀ b : Bool, K (bI b) f g) : Cl l G d 0 0 mX12_isSign [.ref B, .int a] (sh, f, g, fR) (qi sh fR K) :=
  VX12_isSign hs ⟨fun _ => ⟨_, _, _, rfl, rfl, H false⟩, fun _ => ⟨fun _ => ⟨_, _, _, rfl, rfl, H false⟩, fun _ => ⟨_, _, _, rfl, rfl, H true⟩⟩⟩
theorem M_isWA {K : Int32 → FI → FL → Prop} {a : Int64} (hs : StM sh fR B) (H : ∀ b : Bool, K (bI b) f g) : Cl l G d 0 0 mX12_isWord [.ref B, .long a] (sh, f, g, fR) (qi sh fR K) :=
  VX12_isWord hs ⟨fun _ => ⟨_, _, _, rfl, rfl, H false⟩, fun _ => ⟨fun _ => ⟨_, _, _, rfl, rfl, H false⟩, fun _ => ⟨_, _, _, rfl, rfl, H true⟩⟩⟩
theorem M_isSg {K : Int32 → FI → FL → Prop} {c e : Nat} (hs : StM sh fR B) (hb : ∀ b ∈ tp, b < 256) (hT : MTk f g B tp e) (h4 : tkK tp e ≠ 4) (hc : c < 256) (H : K (bI (isSg tp e c)) f g) : Cl l G d 0 0 mX12_isSign [.ref B, .int (nI c)] (sh, f, g, fR) (qi sh fR K) := by
  obtain ⟨t1, t2, t3, -⟩ := hT
  obtain ⟨a1, a2, a3, a4⟩ := t3 h4
  have hk := @tkK_le tp e
  have hv := tkV_lt (e := e) hb
  refine VX12_isSign hs ?_
  rw [a1, nI_eq (by omega) (by decide)]
  refine ⟨fun z => ?_, fun z => ?_⟩
  · rw [isSg_of z] at H
    exact ⟨_, _, _, rfl, rfl, H⟩
  · rw [a4 (Or.inr z), nI_eq (by omega) (by omega)]
    refine ⟨fun z2 => ?_, fun z2 => ?_⟩
    · rw [show isSg tp e c = false by unfold isSg; simp [z2]] at H
      exact ⟨_, _, _, rfl, rfl, H⟩
    · rw [show isSg tp e c = true by unfold isSg; simp [z, z2]] at H
      exact ⟨_, _, _, rfl, rfl, H⟩
theorem M_isW {K : Int32 → FI → FL → Prop} {k n e : Nat} (hs : StM sh fR B) (hT : MTk f g B tp e) (h4 : tkK tp e ≠ 4) (hk : k < 29) (hn : packM (ow k) = n) (H : K (bI (isW tp e k)) f g) : Cl l G d 0 0 mX12_isWord [.ref B, .long (lN n)] (sh, f, g, fR) (qi sh fR K) := by
  obtain ⟨t1, t2, t3, -⟩ := hT
  obtain ⟨a1, a2, a3, a4⟩ := t3 h4
  have hk4 := @tkK_le tp e
  refine VX12_isWord hs ?_
  rw [a1, nI_eq (by omega) (by decide)]
  refine ⟨fun z => ?_, fun z => ?_⟩
  · rw [isW_of z] at H
    exact ⟨_, _, _, rfl, rfl, H⟩
  · rw [(a3 z).1, ← hn, own_i tkW_len tkW_mem hk]
    refine ⟨fun z2 => ?_, fun z2 => ?_⟩
    · rw [show isW tp e k = false by unfold isW; simp [z2]] at H
      exact ⟨_, _, _, rfl, rfl, H⟩
    · rw [show isW tp e k = true by unfold isW; simp [z, z2]] at H
      exact ⟨_, _, _, rfl, rfl, H⟩
theorem M_adv {K : FI → FL → Prop} {e : Nat} (hs : StM sh fR B) (hT : MS f g B tp (.ok e)) (h4 : tkK tp e ≠ 4) (h0 : tkK tp e ≠ 0) (H : ∀ f' g', Fm B f f' → Fg B g g' → MS f' g' B tp (.ok (tkE tp e)) → K f' g') : Cl l G (d + 1) 0 0 mX12_ahead [.ref B] (sh, f, g, fR) (qv sh fR K) := by
  obtain ⟨hC, e1, e2, t1, t2, t3, t4⟩ := hT
  obtain ⟨a1, a2, a3, a4⟩ := t3 h4
  have hk := @tkK_le tp e
  refine M_ahead hs hC a2 (tkE_le e2) (fun _ => ?_) t4.2.2 (fun f' g' b1 b2 b3 => H f' g' b1.fm b2 ⟨hC.fh b1, by rw [b1 _ _ (by omega)]; exact e1, tkE_le e2, b3⟩)
  by_cases c : tkK tp e = 1
  · exact ⟨0, by decide, (a3 c).2⟩
  · exact ⟨_, tkV_lt hC.2.2.2, a4 (by clear t4; omega)⟩
theorem M_must {K : FI → FL → Prop} {c : Nat} (hs : StM sh fR B) (hT : MS f g B tp r) (hc : c < 256) (H : ∀ f' g', Fm B f f' → Fg B g g' → MS f' g' B tp (bd r (exS tp c)) → K f' g') : Cl l G (d + 2) 0 0 mX12_must [.ref B, .int (nI c)] (sh, f, g, fR) (qv sh fR K) := by
  refine VX12_must hs ?_
  refine M_lex hs hT (fun f1 a1 a2 => ?_)
  have er : ∀ x, bd r (lexD tp) = .error x → bd r (exS tp c) = .error x := fun x hx => by
    cases r with
    | error y => exact hx
    | ok e =>
      rw [bd_ok] at hx ⊢
      unfold lexD at hx
      by_cases z : tkK tp e = 4
      · rw [if_pos z] at hx
        unfold exS
        rw [isSg_of (by omega)]
        exact hx
      · rw [if_neg z] at hx; cases hx
  cases hx : bd r (lexD tp) with
  | error x =>
    rw [hx] at a2
    rw [er x hx] at H
    refine M_isSgA hs (fun b => bI_cs' (fun _ => M_blame (k := 1) (pl := 0) hs a2 (by decide) (fun e z => by cases z) (fun f2 b1 b2 => ⟨fun _ => ⟨_, _, rfl, rfl, H f2 g (a1.tr b1.fm) Fg.rf b2⟩, fun z => absurd z b2.er8.1⟩)) (fun _ => ⟨fun _ => ⟨_, _, rfl, rfl, H f1 g a1 Fg.rf a2⟩, fun z => absurd z a2.er8.1⟩))
  | ok e =>
    rw [hx] at a2
    have hr : r = .ok e ∧ tkK tp e ≠ 4 := by
      cases r with
      | error y => cases hx
      | ok e' =>
        rw [bd_ok] at hx
        unfold lexD at hx
        by_cases z : tkK tp e' = 4
        · rw [if_pos z] at hx; cases hx
        · rw [if_neg z] at hx; cases hx; exact ⟨rfl, z⟩
    obtain ⟨rfl, h4⟩ := hr
    rw [bd_ok] at H
    unfold exS at H
    have hl := a2.len
    have hs2 := tkS_le a2.2.2.1
    refine M_isSg hs a2.1.2.2.2 a2.2.2.2 h4 hc (bI_cs' (fun z => ?_) (fun z => ?_))
    · rw [z, if_neg Bool.false_ne_true] at H
      refine M_blame (k := 1) (pl := tkS tp e) hs a2 (by decide) (fun e' z' => ⟨a2.2.2.2.1, by omega⟩) (fun f2 b1 b2 => ⟨fun _ => ⟨_, _, rfl, rfl, H f2 g (a1.tr b1.fm) Fg.rf ?_⟩, fun z => absurd z (MS.er8 b2).1⟩)
      have : bad tp e = (1, tkS tp e) := by unfold bad; rw [if_neg h4]
      rw [this]; exact b2
    · rw [z, if_pos rfl] at H
      refine ⟨fun z => absurd a2.ok8.1 z, fun _ => M_adv hs a2 h4 (by have := (isSg_K z).1; omega) (fun f2 g2 b1 b2 b3 => ⟨_, _, rfl, rfl, H f2 g2 (a1.tr b1) b2 b3⟩)⟩
theorem M_mustW {K : FI → FL → Prop} {k n : Nat} (hs : StM sh fR B) (hT : MS f g B tp r) (hk : k < 29) (hn : packM (ow k) = n) (H : ∀ f' g', Fm B f f' → Fg B g g' → MS f' g' B tp (bd r (exW tp k)) → K f' g') : Cl l G (d + 2) 0 0 mX12_mustWord [.ref B, .long (lN n)] (sh, f, g, fR) (qv sh fR K) := by
  refine VX12_mustWord hs ?_
  refine M_lex hs hT (fun f1 a1 a2 => ?_)
  have er : ∀ x, bd r (lexD tp) = .error x → bd r (exW tp k) = .error x := fun x hx => by
    cases r with
    | error y => exact hx
    | ok e =>
      rw [bd_ok] at hx ⊢
      unfold lexD at hx
      by_cases z : tkK tp e = 4
      · rw [if_pos z] at hx
        unfold exW
        rw [isW_of (by omega)]
        exact hx
      · rw [if_neg z] at hx; cases hx
  cases hx : bd r (lexD tp) with
  | error x =>
    rw [hx] at a2
    rw [er x hx] at H
    exact ⟨fun z => absurd z a2.er8.2, fun _ => ⟨_, _, rfl, rfl, H f1 g a1 Fg.rf a2⟩⟩
  | ok e =>
    rw [hx] at a2
    have hr : r = .ok e ∧ tkK tp e ≠ 4 := by
      cases r with
      | error y => cases hx
      | ok e' =>
        rw [bd_ok] at hx
        unfold lexD at hx
        by_cases z : tkK tp e' = 4
        · rw [if_pos z] at hx; cases hx
        · rw [if_neg z] at hx; cases hx; exact ⟨rfl, z⟩
    obtain ⟨rfl, h4⟩ := hr
    rw [bd_ok] at H
    unfold exW at H
    have hl := a2.len
    have hs2 := tkS_le a2.2.2.1
    refine ⟨fun _ => M_isW hs a2.2.2.2 h4 hk hn (bI_cs' (fun z => ?_) (fun z => ?_)), fun z => absurd a2.ok8.2 z⟩
    · rw [z, if_neg Bool.false_ne_true] at H
      refine M_blame (k := 1) (pl := tkS tp e) hs a2 (by decide) (fun e' z' => ⟨a2.2.2.2.1, by omega⟩) (fun f2 b1 b2 => ⟨fun _ => ⟨_, _, rfl, rfl, H f2 g (a1.tr b1.fm) Fg.rf ?_⟩, fun z => absurd z (MS.er8 b2).1⟩)
      have : bad tp e = (1, tkS tp e) := by unfold bad; rw [if_neg h4]
      rw [this]; exact b2
    · rw [z, if_pos rfl] at H
      refine ⟨fun z => absurd a2.ok8.1 z, fun _ => M_adv hs a2 h4 (by have := (isW_K z).1; omega) (fun f2 g2 b1 b2 b3 => ⟨_, _, rfl, rfl, H f2 g2 (a1.tr b1) b2 b3⟩)⟩
theorem M_num {K : Int32 → FI → FL → Prop} {lo hi : Nat} (hs : StM sh fR B) (hT : MS f g B tp r) (hlo : lo < 2 ^ 31) (hhi : hi < 2 ^ 31) (h0 : ∀ e, r = .ok e → 0 < e) (H : ∀ f' g' v, Fm B f f' → Fg B g g' → MS f' g' B tp (rF (bd r (numD tp lo hi))) → v ≤ 9999 → (∀ y, bd r (numD tp lo hi) = .ok y → v = y.2) → K (nI v) f' g') : Cl l G (d + 2) 0 0 mX12_number [.ref B, .int (nI lo), .int (nI hi)] (sh, f, g, fR) (qi sh fR K) := by
  refine VX12_number hs ?_
  refine M_lex hs hT (fun f1 a1 a2 => ?_)
  have er : ∀ x, bd r (lexD tp) = .error x → bd r (numD tp lo hi) = .error x := fun x hx => by
    cases r with
    | error y => exact congrArg _ (Except.error.inj hx)
    | ok e =>
      rw [bd_ok] at hx ⊢
      unfold lexD at hx
      by_cases z : tkK tp e = 4
      · rw [if_pos z] at hx
        unfold numD
        rw [if_neg (by omega)]
        exact congrArg _ (Except.error.inj hx)
      · rw [if_neg z] at hx; cases hx
  cases hx : bd r (lexD tp) with
  | error x =>
    rw [hx] at a2
    rw [er x hx] at H
    exact ⟨fun z => absurd z a2.er8.2, fun _ => ⟨_, _, _, rfl, rfl, H f1 g 0 a1 Fg.rf a2 (by decide) (fun y hy => by cases hy)⟩⟩
  | ok e =>
    rw [hx] at a2
    have hr : r = .ok e ∧ tkK tp e ≠ 4 := by
      cases r with
      | error y => cases hx
      | ok e' =>
        rw [bd_ok] at hx
        unfold lexD at hx
        by_cases z : tkK tp e' = 4
        · rw [if_pos z] at hx; cases hx
        · rw [if_neg z] at hx; cases hx; exact ⟨rfl, z⟩
    obtain ⟨rfl, h4⟩ := hr
    rw [bd_ok] at H
    unfold numD at H
    have hl := a2.len
    have hs2 := tkS_le a2.2.2.1
    have hbd : bad tp e = (1, tkS tp e) := by unfold bad; rw [if_neg h4]
    obtain ⟨v6, hv6, hv6'⟩ := a2.2.2.2.2.2.2.1 (h0 e rfl)
    have hk := @tkK_le tp e
    obtain ⟨t1, t2, t3, t4⟩ := a2.2.2.2
    obtain ⟨s1, s2, s3, s4⟩ := t3 h4
    have fin : ∀ (f2 : FI) (x : Nat × Nat), Fb B f1 f2 → MS f2 g B tp (.error x) → (if tkK tp e = 2 then (if lo ≤ tkV tp e ∧ tkV tp e ≤ hi then .ok (tkE tp e, tkV tp e) else .error (4, tkS tp e)) else .error (bad tp e) : Rr (Nat × Nat)) = .error x → LpX12_number_58 l G d (qi sh fR K) sh fR B f2 g := by
      intro f2 x b1 b3 hx
      rw [hx] at H
      refine VX12_number_58 hs (fun w hw => ⟨fun _ => ⟨_, _, _, rfl, rfl, ?_⟩, fun z => absurd z b3.er8.1⟩)
      rw [hw, b1 _ _ (by omega), hv6']
      exact H f2 g v6 (a1.tr b1.fm) Fg.rf b3 hv6 (fun y hy => by cases hy)
    refine ⟨fun _ => ?_, fun z => absurd a2.ok8.2 z⟩
    rw [s1, nI_eq (by omega) (by decide)]
    refine ⟨fun z => ?_, fun z => ?_⟩
    · refine VX12_number_30 hs ⟨fun y => absurd a2.ok8.1 y, fun _ => ?_⟩
      have hv := tkV_lt (e := e) a2.1.2.2.2
      rw [s4 (Or.inl z)]
      refine C_is hs (by omega) hlo hhi (bI_cs' (fun c => ?_) (fun c => ?_))
      · have c' : ¬ (lo ≤ tkV tp e ∧ tkV tp e ≤ hi) := fun y => by simp [y.1, y.2] at c
        refine M_blame (k := 4) (pl := tkS tp e) hs a2 (by decide) (fun e' z' => ⟨t1, by omega⟩) (fun f2 b1 b2 => fin f2 (4, tkS tp e) b1 b2 (by rw [if_pos z, if_neg c']))
      · have c' : lo ≤ tkV tp e ∧ tkV tp e ≤ hi := by simpa using c
        rw [if_pos z, if_pos c'] at H
        refine VX12_number_58 hs (fun w hw => ⟨fun y => absurd a2.ok8.1 y, fun _ => ?_⟩)
        rw [hw, s4 (Or.inl z)]
        exact M_adv hs a2 h4 (by omega) (fun f2 g2 b1 b2 b3 => ⟨_, _, _, rfl, rfl, H f2 g2 _ (a1.tr b1) b2 b3 hv (fun y hy => by cases hy; rfl)⟩)
    · refine M_blame (k := 1) (pl := tkS tp e) hs a2 (by decide) (fun e' z' => ⟨t1, by omega⟩) (fun f2 b1 b2 => VX12_number_30 hs ⟨fun _ => fin f2 (1, tkS tp e) b1 b2 (by rw [if_neg z, hbd]), fun y => absurd y (MS.er8 b2).1⟩)
end MLV
