/-! the class' reader: the next token -/
section ADV
variable {l : Launch} {G : Gx} {d : Nat} {sh : Sh} {fR : FRt} {A p q : Nat} {f : FI} {g : FL} {tp : List Nat}
theorem L_adv27 {Q : Option Value → Hp → Prop} {a1 a2 : Int32} (h9 : R9 sh fR A p q) : ∀ n b, tp.length - b = n → b ≤ tp.length → ∀ f, CK f A tp → f (A + 38) 5 = nI b → (∀ f', Fa A f f' → (∀ k, k ≠ 5 → f' (A + 38) k = f (A + 38) k) → f' (A + 38) 5 = nI (tkS tp b) → LpX9_advance_79 l G d Q sh fR A p q f' g a1 a2) → LpX9_advance_27 l G d Q sh fR A p q f g a1 a2 := by
  intro n
  induction n with
  | zero =>
    intro b hn hb f hC h5 H
    refine VX9_advance_27 h9.1 h9.2.1 h9.2.2.1 h9.2.2.2 ?_
    rw [hC.1, h5]
    exact ⟨fun _ => H f Fa.rf (fun _ _ => rfl) (by rw [h5, tkS_stop (Or.inl (by omega))]), fun c => absurd (nI_le (by omega) (by have := hC.2.1; omega)) c⟩
  | succ n ih =>
    intro b hn hb f hC h5 H
    have hlt : b < tp.length := by omega
    have h16 := hC.2.1
    have hbb := bt_lt hC.2.2.2.1 b
    refine VX9_advance_27 h9.1 h9.2.1 h9.2.2.1 h9.2.2.2 ?_
    have stop : isBl (bt tp b) = false → LpX9_advance_79 l G d Q sh fR A p q f g a1 a2 := fun c => H f Fa.rf (fun _ _ => rfl) (by rw [h5, tkS_stop (Or.inr c)])
    have go : isBl (bt tp b) = true → LpX9_advance_66 l G d Q sh fR A p q f g a1 a2 := fun c => by
      refine VX9_advance_66 h9.1 h9.2.1 h9.2.2.1 h9.2.2.2 ?_
      rw [h5, nI_add]
      have hF : Fa A f (up2 f (A + 38) 5 (nI (b + 1))) := Fa.rf.up (Or.inl rfl)
      refine ih (b + 1) (by omega) (by omega) _ (hC.ft hF.ft) up2_eq (fun f' e1 e2 e3 => H f' (hF.tr e1) (fun k hk => by rw [e2 k hk, up2_k hk]) (by rw [e3, tkS_step hlt c]))
    rw [hC.1, h5, clN (by omega), hC.2.2.1 b hlt, nI_eq (by omega) (by decide), nI_eq (by omega) (by decide)]
    refine ⟨fun c => absurd c (nI_ge hlt (by omega)), fun _ => ⟨inbN (by omega) (by decide), fun c => go (isBl_i.mpr (Or.inl c)), fun c => ⟨inbN (by omega) (by decide), fun c2 => stop ?_, fun c2 => go (isBl_i.mpr (Or.inr c2))⟩⟩⟩
    unfold isBl; simp [c, c2]
theorem L_170 {Q : Option Value → Hp → Prop} {nb : Bool} {s b kd : Nat} (h9 : R9 sh fR A p q) (h11 : f (A + 38) 11 = nI s) (h10 : f (A + 38) 10 = nI kd) (hk : kd ≤ 4) (hs : s < 2 ^ 31) (hb : b < 2 ^ 31) (H0 : ¬ (nb = true ∧ s = b ∧ kd ≠ 0 ∧ kd ≠ 3) → Q none (sh, f, g, (up2 fR (A + 38) 7 (some q)))) (H1 : nb = true → s = b → kd ≠ 0 → kd ≠ 3 → Q none (sh, (up2 (up2 f (A + 38) 10 (nI 4)) (A + 38) 12 (nI s)), g, (up2 fR (A + 38) 7 (some q)))) : LpX9_advance_170 l G d Q sh fR A p q f g (bI nb) (nI b) := by
  refine VX9_advance_170 h9.1 h9.2.1 h9.2.2.1 h9.2.2.2 ?_
  rw [h11, h10, nI_eq hs hb, nI_0' (by omega), nI_eq (by omega) (by decide)]
  refine bI_cs (fun c => H0 (fun z => by rw [c] at z; cases z.1)) (fun c => ⟨fun c2 => H0 (fun z => c2 z.2.1), fun c2 => ⟨fun c3 => H0 (fun z => z.2.2.1 c3), fun c3 => ⟨fun c4 => H0 (fun z => z.2.2.2 c4), fun c4 => H1 c c2 c3 c4⟩⟩⟩)
theorem K_adv {K : FI → FL → Prop} {b : Nat} (h9 : R9 sh fR A p q) (hC : CK f A tp) (h5 : f (A + 38) 5 = nI b) (hb : b ≤ tp.length) (H : ∀ f', Fa A f f' → f' (A + 38) 5 = nI (tkE tp b) → (((f (A + 38) 10 = nI 1 ∨ f (A + 38) 10 = nI 2) ↔ glu tp b = true) → CTk f' A tp b) → K f' g) : Cl l G (d + 2) 0 0 mX9_advance [.ref (A + 38)] (sh, f, g, (up2 fR (A + 38) 7 (some q))) (qv sh (up2 fR (A + 38) 7 (some q)) K) := by
  have h16 := hC.2.1
  have hsl := tkS_le hb
  have key : ∀ nb : Bool, (nb = true ↔ (f (A + 38) 10 = nI 1 ∨ f (A + 38) 10 = nI 2)) → LpX9_advance_27 l G d (qv sh (up2 fR (A + 38) 7 (some q)) K) sh fR A p q f g (bI nb) (nI b) := by
    intro nb hnb
    have hg : ((f (A + 38) 10 = nI 1 ∨ f (A + 38) 10 = nI 2) ↔ glu tp b = true) → ((nb = true ∧ tkS tp b = b) ↔ glu tp (tkS tp b) = true) := by
      intro hr
      by_cases c : tkS tp b = b
      · rw [c]
        exact ⟨fun z => hr.mp (hnb.mp z.1), fun z => ⟨hnb.mpr (hr.mpr z), rfl⟩⟩
      · exact ⟨fun z => absurd z.2 c, fun z => by rw [glu_S c] at z; cases z⟩
    refine L_adv27 h9 _ b rfl hb f hC h5 (fun f1 e1 e2 e3 => ?_)
    have hC1 := hC.ft e1.ft
    refine VX9_advance_79 h9.1 h9.2.1 h9.2.2.1 h9.2.2.2 ?_
    rw [e3, hC1.1, nI_ltI (by omega) (by omega)]
    refine ⟨fun hlt => ?_, fun hlt => ?_⟩
    · have hF : Fa A f1 (up2 f1 (A + 38) 11 (nI (tkS tp b))) := Fa.rf.up (Or.inr (by decide))
      have hE : tkE tp b = tkS tp b + tkN tp (tkS tp b) := by unfold tkE; rw [if_neg (by omega)]
      have hC2 := hC1.ft hF.ft
      refine K_isLt h9 hC2 hsl (bI_cs (fun cL => ?_) (fun cL => ?_))
      · rw [up2_k (show (5 : Nat) ≠ 11 by decide), e3]
        refine K_isDg h9 hC2 hsl (bI_cs (fun cD => ?_) (fun cD => ?_))
        · have hN : tkN tp (tkS tp b) = 1 := by unfold tkN; rw [cL, cD]; rfl
          have hK : tkK tp b = 3 := by unfold tkK; rw [if_neg (by omega), cL, cD]; rfl
          have hV : tkV tp b = bt tp (tkS tp b) := by unfold tkV; rw [cD]; rfl
          rw [up2_k (show (5 : Nat) ≠ 11 by decide), e3]
          refine ⟨inbN (by omega) (by decide), ?_⟩
          rw [clN (by omega), nI_add, up2_r (show A + 1 ≠ A + 38 by omega), hC1.2.2.1 _ hlt]
          refine L_170 (s := tkS tp b) (kd := 3) h9 ?_ ?_ (by decide) (by omega) (by omega) (fun _ => ⟨_, _, rfl, rfl, H _ ((((e1.tr hF).up (Or.inr (by decide))).up (Or.inr (by decide))).up (Or.inl rfl)) ?_ (fun _ => ⟨?_, ?_, ?_, fun z => by omega, fun z => by omega, fun _ => ?_⟩)⟩) (fun _ _ _ z => absurd rfl z)
          · rw [up2_k (by decide), up2_k (by decide), up2_k (by decide), up2_eq]
          · rw [up2_k (by decide), up2_k (by decide), up2_eq]
          · rw [up2_eq, hE, hN]
          · rw [up2_eq, hE, hN]
          · rw [up2_k (by decide), up2_k (by decide), up2_eq, hK]
          · rw [up2_k (by decide), up2_k (by decide), up2_k (by decide), up2_eq]
          · rw [up2_k (by decide), up2_eq, hV]
        · have hN : tkN tp (tkS tp b) = cnt isDg tp 4 (tkS tp b) := by unfold tkN; rw [cL, if_pos cD]; rfl
          have hK : tkK tp b = if glu tp (tkS tp b) || isDg (bt tp (tkE tp b)) then 4 else 2 := by unfold tkK; rw [if_neg (by omega), cL, if_pos cD]; rfl
          have hV : tkV tp b = dgs tp 4 (tkS tp b) 0 := by unfold tkV; rw [if_pos cD]
          rw [hN] at hE
          refine K_takeNumber h9 hC2 ((up2_k (by decide)).trans e3) hsl (fun f2 d1 d2 d3 d4 d5 d6 => ?_)
          rw [← hE] at d3 d4 d5
          have h11 : f2 (A + 38) 11 = nI (tkS tp b) := by rw [d2, up2_eq]
          refine L_170 (s := tkS tp b) (kd := if isDg (bt tp (tkE tp b)) then 4 else 2) h9 h11 d4 (by split <;> decide) (by omega) (by omega) (fun z => ⟨_, _, rfl, rfl, H _ ((e1.tr hF).tr d1) d3 (fun hr => ?_)⟩) (fun z1 z2 _ _ => ⟨_, _, rfl, rfl, H _ ((((e1.tr hF).tr d1).up (Or.inr (by decide))).up (Or.inr (by decide))) (by rw [up2_k (by decide), up2_k (by decide), d3]) (fun hr => ?_)⟩)
          · have hgl : glu tp (tkS tp b) = false := by
              cases hq : glu tp (tkS tp b) with
              | false => rfl
              | true =>
                obtain ⟨y1, y2⟩ := (hg hr).mpr hq
                exact absurd ⟨y1, y2, by split <;> decide, by split <;> decide⟩ z
            rw [hgl, Bool.false_or] at hK
            refine ⟨d3, by rw [hK]; exact d4, h11, fun _ => ?_, fun y => ?_, fun _ => by rw [hV]; exact d6⟩
            · unfold tkB; rw [hgl]; exact d5
            · rw [hK] at y; split at y <;> cases y
          · have hgl := (hg hr).mp ⟨z1, z2⟩
            rw [hgl, Bool.true_or, if_pos rfl] at hK
            refine ⟨by rw [up2_k (by decide), up2_k (by decide), d3], by rw [up2_k (by decide), up2_eq, hK], by rw [up2_k (by decide), up2_k (by decide), h11], fun _ => ?_, fun y => by omega, fun y => by omega⟩
            unfold tkB; rw [hgl, up2_eq]; rfl
      · have hN : tkN tp (tkS tp b) = cnt isLt tp 6 (tkS tp b) := by unfold tkN; rw [if_pos cL]
        have hK : tkK tp b = if glu tp (tkS tp b) || isLt (bt tp (tkE tp b)) then 4 else 1 := by unfold tkK; rw [if_neg (by omega), if_pos cL]
        rw [hN] at hE
        refine K_takeWord h9 hC2 ((up2_k (by decide)).trans e3) hsl (fun f2 d1 d2 d3 d4 d5 d6 d7 => ?_)
        rw [← hE] at d3 d4 d5
        have h11 : f2 (A + 38) 11 = nI (tkS tp b) := by rw [d2, up2_eq]
        refine L_170 (s := tkS tp b) (kd := if isLt (bt tp (tkE tp b)) then 4 else 1) h9 h11 d4 (by split <;> decide) (by omega) (by omega) (fun z => ⟨_, _, rfl, rfl, H _ ((e1.tr hF).tr d1) d3 (fun hr => ?_)⟩) (fun z1 z2 _ _ => ⟨_, _, rfl, rfl, H _ ((((e1.tr hF).tr d1).up (Or.inr (by decide))).up (Or.inr (by decide))) (by rw [up2_k (by decide), up2_k (by decide), d3]) (fun hr => ?_)⟩)
        · have hgl : glu tp (tkS tp b) = false := by
            cases hq : glu tp (tkS tp b) with
            | false => rfl
            | true =>
              obtain ⟨y1, y2⟩ := (hg hr).mpr hq
              exact absurd ⟨y1, y2, by split <;> decide, by split <;> decide⟩ z
          rw [hgl, Bool.false_or] at hK
          refine ⟨d3, by rw [hK]; exact d4, h11, fun _ => ?_, fun y => ⟨d6, d7⟩, fun y => ?_⟩
          · unfold tkB; rw [hgl]; exact d5
          · rw [hK] at y; split at y <;> omega
        · have hgl := (hg hr).mp ⟨z1, z2⟩
          rw [hgl, Bool.true_or, if_pos rfl] at hK
          refine ⟨by rw [up2_k (by decide), up2_k (by decide), d3], by rw [up2_k (by decide), up2_eq, hK], by rw [up2_k (by decide), up2_k (by decide), h11], fun _ => ?_, fun y => by omega, fun y => by omega⟩
          unfold tkB; rw [hgl, up2_eq]; rfl
    · have hE : tkE tp b = tkS tp b := by unfold tkE; rw [if_pos (by omega)]
      have hK : tkK tp b = 0 := by unfold tkK; rw [if_pos (by omega)]
      refine L_170 (s := tkS tp b) (kd := 0) h9 ((up2_k (by decide)).trans up2_eq) up2_eq (by decide) (by omega) (by omega) (fun _ => ⟨_, _, rfl, rfl, H _ ((e1.up (Or.inr (by decide))).up (Or.inr (by decide))) (by rw [up2_k (by decide), up2_k (by decide), e3, hE]) (fun _ => ⟨by rw [up2_k (by decide), up2_k (by decide), e3, hE], by rw [up2_eq, hK], (up2_k (by decide)).trans up2_eq, fun y => by omega, fun y => by omega, fun y => by omega⟩)⟩) (fun _ _ z => absurd rfl z)
  refine VX9_advance h9.1 h9.2.1 h9.2.2.1 h9.2.2.2 ⟨fun c => ?_, fun c => ⟨fun c2 w hw => ?_, fun c2 => ?_⟩⟩
  · refine VX9_advance_16 h9.1 h9.2.1 h9.2.2.1 h9.2.2.2 (fun w hw => ?_)
    rw [hw, h5]
    exact key true (by simp [c])
  · rw [hw, h5]
    exact key false (by simp [c, c2])
  · refine VX9_advance_16 h9.1 h9.2.1 h9.2.2.1 h9.2.2.2 (fun w hw => ?_)
    rw [hw, h5]
    exact key true (by simp [c2])
end ADV
