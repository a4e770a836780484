/-! the class' tick: all that is sent, a penalty -/
theorem Offs.sentAt : ∀ {l l' : List Sg}, Offs l l' → l'.map (fun s => s.2.2.2.2.1) = l.map (fun s => s.2.2.2.2.1)
  | [], [], _ => rfl
  | s :: l, s' :: l', h => by rw [List.map_cons, List.map_cons, Offs.sentAt h.2.2, (sgFl_eq h.1).2.2.2.2.1]
  | [], _ :: _, h => h.elim
  | _ :: _, [], h => h.elim
theorem Offs.some : ∀ {l l' : List Sg}, Offs l l' → l'.countP (fun s => s.2.2.2.2.2.1.isSome) = l.countP (fun s => s.2.2.2.2.2.1.isSome)
  | [], [], _ => rfl
  | s :: l, s' :: l', h => by rw [List.countP_cons, List.countP_cons, Offs.some h.2.2, (sgFl_eq h.1).2.2.2.2.2.1]
  | [], _ :: _, h => h.elim
  | _ :: _, [], h => h.elim
theorem WS_map {l : List Sg} : WS l ↔ (l.map (fun s => s.2.2.2.2.1)).Pairwise (· ≤ ·) := by
  unfold WS
  rw [List.pairwise_map]
theorem WS.offs {l l' : List Sg} (h : WS l) (o : Offs l l') : WS l' := by
  rw [WS_map] at h ⊢
  rw [o.sentAt]
  exact h
theorem WS.upd {l : List Sg} (h : WS l) (T : Nat) : WS (l.map (updS T)) := by
  rw [WS_map] at h ⊢
  rw [List.map_map]
  have : ((fun s : Sg => s.2.2.2.2.1) ∘ updS T) = (fun s : Sg => s.2.2.2.2.1) := by
    funext s
    exact (updS_f T s).2.2.2.2.1
  rw [this]
  exact h
theorem WS.sub {l l' : List Sg} (h : WS l) (s : l'.Sublist l) : WS l' := List.Pairwise.sublist s h
theorem WS.add {l : List Sg} {s : Sg} (h : WS l) (hs : ∀ y ∈ l, y.2.2.2.2.1 ≤ s.2.2.2.2.1) : WS (l ++ [s]) := by
  unfold WS
  rw [List.pairwise_append]
  exact ⟨h, List.pairwise_singleton _ _, fun a ha b hb => by rw [List.mem_singleton.mp hb]; exact hs a ha⟩
theorem dieS_offs {w : Wd} {p : Nat} : Offs w.2.2.1 (dieS w p).2.2.1 := by
  by_cases hd : w.2.1 p 1 = 1
  · unfold dieS
    rw [if_pos hd]
    exact Offs.rf _
  · rw [dieS_live hd]
    exact Offs.off p w.2.2.1
theorem failS_offs {π : Pl} {dl : Nat → Nat} {w : Wd} {p : Nat} : Offs w.2.2.1 (failS π dl w p).2.2.1 := by
  cases hidx : w.2.2.1.findIdx? (lateS π dl w p) with
  | none =>
    rw [(failS_no (m := []) hidx).1]
    exact Offs.rf _
  | some j =>
    cases hfr : freS w p with
    | false =>
      unfold failS
      rw [hfr]
      exact Offs.rf _
    | true =>
      obtain ⟨hjlt, -, -⟩ := List.findIdx?_eq_some_iff_getElem.mp hidx
      have hj : w.2.2.1[j]? = some w.2.2.1[j] := List.getElem?_eq_getElem hjlt
      generalize w.2.2.1[j] = s at hj
      rw [(failS_some (m := []) hfr hidx hj).1]
      have o1 : Offs w.2.2.1 (failW w p j s).2.2.1 := Offs.set hj
      split
      · exact o1.tr dieS_offs
      · exact o1
theorem cntF_stay (p : Nat) : ∀ l : List Sg, cntF (l.filter stayS) p = cntF l p
  | [] => rfl
  | s :: l => by
    have ih := cntF_stay p l
    unfold cntF at ih ⊢
    rw [List.filter_cons, List.countP_cons]
    cases hz : stayS s with
    | true => rw [if_pos rfl, List.countP_cons, ih]
    | false =>
      have : s.2.2.2.2.2.2.1 = false := by
        unfold stayS at hz
        rw [Bool.or_eq_false_iff] at hz
        exact hz.1
      rw [if_neg (by simp), ih, this]
      simp
theorem sendS_sg {π : Pl} {dl : Nat → Nat} {dr : Bool} {T : Tk} {p frm many : Nat} : ∃ s : Sg, (sendS π dl dr T p frm many).1.2.2.1 = T.1.2.2.1 ++ [s] ∧ s.2.2.2.2.1 = T.1.1 0 := ⟨_, rfl, rfl⟩
theorem SJ.tidy {π : Pl} {T0 n : Nat} {T : Tk} {m : List (Nat × Nat)} (hJ : SJ π T0 n T m) : SJ π T0 n T T.1.2.2.2.1 := by
  obtain ⟨hW, ⟨p1, p2, p3⟩, hr⟩ := hJ
  have hs : (T.1.2.2.2.1).Sublist m := by rw [← p2]; exact List.filter_sublist
  refine ⟨hW, ⟨fun q hq => p1 q (hs.subset hq), by rw [← p2, nd_idem], ?_⟩, hr⟩
  have := hs.length_le
  omega
theorem filt_cons {P : Nat × Nat → Bool} {q : Nat × Nat} {ms : List (Nat × Nat)} (h : (q :: ms).filter P = q :: ms) : P q = true ∧ ms.filter P = ms := by
  rw [List.filter_eq_self] at h
  exact ⟨h q (List.mem_cons_self ..), List.filter_eq_self.mpr (fun a ha => h a (List.mem_cons_of_mem _ ha))⟩
section SA
variable {l : Launch} {G : Gx} {d : Nat} {sh : Sh} {fR : FRt} {x u wd : Nat} {f : FI} {g : FL} {π : Pl} {win : Nat} {dl : Nat → Nat} {t : Int} {w : Wd} {m : List (Nat × Nat)} {la : List An}
theorem D_fStay {K : FI → FL → Prop} {T : Nat} (hs : StW sh fR x) (hT : T ≤ 1000) (hC : CW f x π win dl (T + 1) w m la) (hok : ∀ s ∈ w.2.2.1, ∀ a, s.2.2.2.2.2.1 = some a → T + 1 ≤ a ∧ a ≤ 2000) (H : ∀ f' : FI, CW f' x π win dl (T + 1) (clearS w) m la → Oc [5, 13] x f f' → K f' g) : Cl l G (d + 1) 0 0 mX2_tidy [.ref (x + 5), .int (nI T)] (sh, f, g, fR) (qv sh fR K) := by
  refine D_fTidy hs hT hC.2.2.2.2.1 hok (fun f1 q1 q2 => H f1 ?_ q2)
  refine hC.repg (q2.1.mono (by decide)) (fun p hp => ?_) q1
  show _ = nI (cntF (w.2.2.1.filter stayS) p)
  rw [cntF_stay]
  exact (hC.2.2.1.sm (q2.1 3 (by decide))) p hp
theorem D_sendPiecesN {K : Int32 → FI → FL → Prop} {T0 : Nat} {T : Tk} (hs : StW sh fR x) (hu : fR x 7 = some u) (hU : StPl sh fR u) (hux : u + 17 ≤ x) (hwd : wd < u) (hC : CW f x π win dl (T0 + 1) T.1 m la) (hc : CP f u π) (hk : TkC f x wd false T) (hdl : ∀ p, p < π.1 6 → 1 ≤ dl p ∧ dl p ≤ 9) (hd9 : ∀ p, dl p ≤ 9999) (hπ : πOK π) (hJ : SJ π T0 400 T m) (hS : WS T.1.2.2.1) (H : ∀ (f' : FI) (n' : Nat), CW f' x π win dl (T0 + 1) (sendsS π dl false 400 T).1.1 (sendsS π dl false 400 T).1.1.2.2.2.1 la → TkC f' x wd false (sendsS π dl false 400 T).1 → SJ π T0 n' (sendsS π dl false 400 T).1 (sendsS π dl false 400 T).1.1.2.2.2.1 → ((sendsS π dl false 400 T).2 = true → (sendsS π dl false 400 T).1.1.2.2.2.1 = []) → WS (sendsS π dl false 400 T).1.1.2.2.1 → FV [1, 2, 3, 5, 6, 11, 12, 13] x u wd false f f' → K (bI (sendsS π dl false 400 T).2) f' g) : Cl l G (d + 4) 0 0 mX10_sendPieces [.ref x, .null] (sh, f, g, fR) (qi sh fR K) := by
  have h200 := hπ.1
  have hu2 := hπ.2.1
  have loop : ∀ n k (T : Tk) (f0 : FI) (lm : Nat), n + k = 400 → SJ π T0 n T T.1.2.2.2.1 → lm = minS (T.1.1 3) (π.1 1) → CW f0 x π win dl (T0 + 1) T.1 T.1.2.2.2.1 la → TkC f0 x wd false T → WS T.1.2.2.1 → FV [1, 2, 3, 5, 6, 11, 12, 13] x u wd false f f0 → (∀ (f' : FI) (n' : Nat), CW f' x π win dl (T0 + 1) (sendsS π dl false n T).1.1 (sendsS π dl false n T).1.1.2.2.2.1 la → TkC f' x wd false (sendsS π dl false n T).1 → SJ π T0 n' (sendsS π dl false n T).1 (sendsS π dl false n T).1.1.2.2.2.1 → ((sendsS π dl false n T).2 = true → (sendsS π dl false n T).1.1.2.2.2.1 = []) → WS (sendsS π dl false n T).1.1.2.2.1 → FV [1, 2, 3, 5, 6, 11, 12, 13] x u wd false f f' → K (bI (sendsS π dl false n T).2) f' g) → LpX10_sendPiecesN_28 l G d (qi sh fR K) sh fR x u f0 g (nI lm) (nI k) := by
    intro n
    induction n with
    | zero => intro k T f0 lm hk0 hJ; exact absurd hJ SJ.z
    | succ n ih =>
      intro k T f0 lm hk0 hJ hlm hC hk hS hF H
      obtain ⟨hN, h5, hl, hc1, hmany, hmq, hpc⟩ := hJ.jn hπ
      have hc0 := hc.fv hux hwd hF
      have hms := sendsS_eq (π := π) (dl := dl) (dr := false) (n := n) (T := T)
      have t0 := hN.1 0 (by decide)
      have t1 := hN.1 1 (by decide)
      have t3 := hN.1 3 (by decide)
      have hq : qN T.1 := hJ.1.qN (by have := hJ.2.2.2.1; have := hJ.2.2.2.2.2; omega)
      have n9 : f0 x 9 = nI (T.1.1 1) := hC.1 1 (by unfold nset; omega)
      have n20 := hC.2.2.2.2.2.1.1
      have hpl := hC.2.2.2.2.2.1.2.1
      have n8 := hC.2.2.2.2.1.1
      have hlm2 : lm ≤ π.1 1 := by rw [hlm]; unfold minS; split <;> omega
      have hsA : ∀ y ∈ T.1.2.2.1, y.2.2.2.2.1 ≤ T.1.1 0 := fun y hy => (hJ.1.2.2.1 y hy).2.2.2.2.1
      have go : ¬ (T.1.2.2.2.1 = [] ∧ lm ≤ T.1.1 1) → LpX10_sendPiecesN_68 l G d (qi sh fR K) sh fR x u f0 g (nI lm) (nI k) := by
        intro hne
        rw [← hlm, if_neg hne] at hms
        refine VX10_sendPiecesN_68 hs hu hU ?_
        refine D_pick (but := none) hs hu hU hux hC hc0 hq t0 hd9 hπ (fun p hp => by cases hp) (fun f1 e1 => ?_)
        have hC1 : CW f1 x π win dl (T0 + 1) T.1 T.1.2.2.2.1 la := hC.sm (e1.1.mono (by decide))
        have hk1 : TkC f1 x wd false T := hk.fw hux hwd e1 (by decide)
        have hF1 : FV [1, 2, 3, 5, 6, 11, 12, 13] x u wd false f f1 := hF.tr ((e1.mono (by decide)).fv)
        have hc2 := hc.fv hux hwd hF1
        have n9' : f1 x 9 = nI (T.1.1 1) := hC1.1 1 (by unfold nset; omega)
        cases hpk : pickS π dl T.1 none with
        | none =>
          rw [hpk] at hms
          replace hms : sendsS π dl false (n + 1) T = (T, false) := hms
          refine ⟨fun z => absurd rfl z, fun _ => ⟨_, _, _, rfl, rfl, ?_⟩⟩
          rw [hms] at H
          exact H f1 (n + 1) hC1 hk1 hJ (fun z => by cases z) hS hF1
        | some y =>
          obtain ⟨p, vv⟩ := y
          have hp4 : p < 4 := pick_lt hπ.2.2.2.2.2.1 _ hpk
          rw [hpk] at hms
          dsimp only at hms
          rw [show oI (Option.map (fun x => x.1) (some (p, vv))) = nI p from rfl]
          refine ⟨fun _ => ?_, fun z => absurd z (nI_m1 (n := p) (by omega))⟩
          rw [hC1.2.2.2.2.2.1.1]
          have nx : ∀ (T2 : Tk) (f2 : FI), sendsS π dl false (n + 1) T = sendsS π dl false n T2 → SJ π T0 n T2 T2.1.2.2.2.1 → T2.1.1 3 = T.1.1 3 → CW f2 x π win dl (T0 + 1) T2.1 T2.1.2.2.2.1 la → TkC f2 x wd false T2 → WS T2.1.2.2.1 → FV [1, 2, 3, 5, 6, 11, 12, 13] x u wd false f f2 → LpX10_sendPiecesN_170 l G d (qi sh fR K) sh fR x u f2 g (nI lm) (nI k) := by
            intro T2 f2 e2 j2 e3 c2 k2 s2 v2
            refine VX10_sendPiecesN_170 hs hu hU ?_
            rw [nI_add]
            refine ih (k + 1) T2 f2 lm (by omega) j2 (by rw [e3]; exact hlm) c2 k2 s2 v2 ?_
            rw [e2] at H
            exact H
          cases hps : T.1.2.2.2.1 with
          | nil =>
            rw [hps] at hms hJ
            dsimp only at hms
            have hlt : T.1.1 1 < lm := Nat.not_le.mp (fun z => hne ⟨hps, z⟩)
            refine ⟨fun _ => ?_, fun z => absurd (by decide) z⟩
            have hnx := hJ.s (dr := false) hπ hdl (by rw [← hlm]; exact hlt) hpk
            rw [hc2.1 2 (by decide), n9', pk_sub (by omega)]
            refine D_minN (by omega) (by omega) ?_
            rw [n9']
            have hmn : minS (π.1 2) (lm - T.1.1 1) ≤ 1000 := by unfold minS; split <;> omega
            refine D_sendN hs hu hU hux hwd hC1 (by omega) hc2 hk1 hq t0 hd9 hπ hp4 (pick_ok hpk).1 (by omega) (by omega) hc1 (fun f2 q1 q2 q3 => ?_)
            have n92 : f2 x 9 = nI (T.1.1 1) := q1.1 1 (by unfold nset; omega)
            rw [n92, nI_add]
            have q4 := q1.setn (i := 1) (v := T.1.1 1 + minS (π.1 2) (lm - T.1.1 1)) (by unfold nset; omega)
            refine nx (stepN π dl false T p) _ hms ?_ rfl ?_ ?_ ?_ ((hF1.tr (q3.mono (by decide))).up0 (by decide))
            · have e : (stepN π dl false T p).1.2.2.2.1 = [] := by
                show T.1.2.2.2.1 = []
                exact hps
              rw [e]
              exact hnx
            · have e : (stepN π dl false T p).1.2.2.2.1 = T.1.2.2.2.1 := rfl
              rw [e]
              unfold stepN
              rw [← hlm]
              exact q4
            · obtain ⟨y1, y2, y3, y4, y5, y6⟩ := q2
              unfold stepN
              rw [← hlm]
              exact ⟨by rw [up2_k (by decide)]; exact y1, by rw [up2_k (by decide)]; exact y2, by rw [up2_k (by decide)]; exact y3, fun z => by rw [up2_r (by omega)]; exact y4 z, y5, y6⟩
            · obtain ⟨s, z1, z2⟩ := sendS_sg (π := π) (dl := dl) (dr := false) (T := T) (p := p) (frm := T.1.1 1) (many := minS (π.1 2) (minS (T.1.1 3) (π.1 1) - T.1.1 1))
              show WS (sendS π dl false T p (T.1.1 1) (minS (π.1 2) (minS (T.1.1 3) (π.1 1) - T.1.1 1))).1.2.2.1
              rw [z1]
              exact hS.add (fun y hy => by rw [z2]; exact hsA y hy)
          | cons q ms =>
            rw [hps] at hms hJ hC1 hpl hmq
            dsimp only at hms
            have hfc := hJ.2.1.2.1
            rw [hps] at hfc
            obtain ⟨hnd, hmf⟩ := filt_cons hfc
            have hqm := hmq q (List.mem_cons_self ..)
            obtain ⟨c0, c1⟩ := hC1.2.2.2.2.2.1.2.2 0 q rfl
            refine ⟨fun z => absurd z (nI_nle (by simp) (by omega)), fun _ => ?_⟩
            rw [c0, c1]
            have hnx := hJ.p (dr := false) hdl hnd hpk
            rw [hmf] at hnx
            refine D_sendN hs hu hU hux hwd hC1 (by omega) hc2 hk1 hq t0 hd9 hπ hp4 (pick_ok hpk).1 hqm.1 (by omega) hc1 (fun f2 q1 q2 q3 => ?_)
            refine D_pPop hs q1.2.2.2.2.2.1 (fun f3 q4 q5 => ?_)
            have q6 := q1.repp (q5.1.mono (by decide)) q4
            refine nx (stepP π dl false T p q ms) f3 hms hnx rfl q6 (TkC.fw (T := sendS π dl false T p q.1 q.2) (u := u) q2 hux hwd q5.fw (by decide)) ?_ ((hF1.tr (q3.mono (by decide))).tr ((q5.mono (by decide)).fw (u := u)).fv)
            obtain ⟨s, z1, z2⟩ := sendS_sg (π := π) (dl := dl) (dr := false) (T := T) (p := p) (frm := q.1) (many := q.2)
            show WS (sendS π dl false T p q.1 q.2).1.2.2.1
            rw [z1]
            exact hS.add (fun y hy => by rw [z2]; exact hsA y hy)
      refine VX10_sendPiecesN_28 hs hu hU ?_
      rw [n8, n20, n9, nI_0' (by omega), nI_ltI (by omega) (by omega)]
      refine ⟨fun z => absurd z (nI_ge (show k < 512 by omega) (by decide)), fun _ => ⟨fun z => absurd z (nI_ge (show T.1.2.2.1.length < 512 by omega) (by decide)), fun _ => ⟨fun c => go (fun z => c (by rw [z.1]; rfl)), fun c => ⟨fun c2 => go (fun z => by omega), fun c2 => ⟨_, _, _, rfl, rfl, ?_⟩⟩⟩⟩⟩
      have hps : T.1.2.2.2.1 = [] := List.eq_nil_of_length_eq_zero c
      rw [← hlm, if_pos ⟨hps, by omega⟩] at hms
      rw [hms] at H
      exact H f0 (n + 1) hC hk hJ (fun _ => hps) hS hF
  have hN := hJ.jn hπ
  have t2 := hN.1.1 2 (by decide)
  have t3 := hN.1.1 3 (by decide)
  have hn10 : f x 10 = nI (T.1.1 2) := hC.1 2 (by unfold nset; omega)
  refine VX10_sendPiecesN hs hu hU ?_
  rw [hn10]
  refine D_pTidy hs hC.2.2.2.2.2.1 t2 hN.2.2.2.2.2.1 (fun f1 q1 q2 => ?_)
  have hC1 : CW f1 x π win dl (T0 + 1) T.1 T.1.2.2.2.1 la := by
    have := hC.repp (q2.1.mono (by decide)) q1
    rw [show m.filter (ndN (T.1.1 2)) = T.1.2.2.2.1 from hJ.2.1.2.1] at this
    exact this
  have hc1 := hc.oc hux q2
  have n11 : f1 x 11 = nI (T.1.1 3) := hC1.1 3 (by unfold nset; omega)
  rw [n11, hc1.1 1 (by decide)]
  refine D_minN (by omega) (by omega) ?_
  exact loop 400 0 T f1 (minS (T.1.1 3) (π.1 1)) rfl hJ.tidy rfl hC1 (hk.fw (u := u) hux hwd q2.fw (by decide)) hS (((q2.mono (by decide)).fw (u := u)).fv) H
theorem D_penaliseN {K : FI → FL → Prop} {T0 n : Nat} {T : Tk} (hs : StW sh fR x) (hu : fR x 7 = some u) (hU : StPl sh fR u) (hux : u + 17 ≤ x) (hwd : wd < u) (hC : CW f x π win dl (T0 + 1) T.1 m la) (hc : CP f u π) (hk : TkC f x wd false T) (hd9 : ∀ p, dl p ≤ 9999) (hπ : πOK π) (hJ : SJ π T0 n T m) (hS : WS T.1.2.2.1) (H : ∀ (f' : FI) (T' : Tk), T' = (match penS π dl false T with
    | some T => T
    | none => T) → CW f' x π win dl (T0 + 1) T'.1 m la → TkC f' x wd false T' → WS T'.1.2.2.1 → FV [1, 2, 3, 5, 9, 11, 12, 13] x u wd false f f' → K f' g) : Cl l G (d + 4) 0 0 mX10_penalise [.ref x, .null] (sh, f, g, fR) (qv sh fR K) := by
  obtain ⟨hN, h5, hl, hc1, hmany, hmq, hpc⟩ := hJ.jn hπ
  have t0 := hN.1 0 (by decide)
  have t1 := hN.1 1 (by decide)
  have t2 := hN.1 2 (by decide)
  have t3 := hN.1 3 (by decide)
  have h200 := hπ.1.2
  have hq : qN T.1 := hJ.1.qN (by have := hJ.2.2.2.1; have := hJ.2.2.2.2.2; omega)
  have n9 : f x 9 = nI (T.1.1 1) := hC.1 1 (by unfold nset; omega)
  have n10 : f x 10 = nI (T.1.1 2) := hC.1 2 (by unfold nset; omega)
  have n11 : f x 11 = nI (T.1.1 3) := hC.1 3 (by unfold nset; omega)
  have hsA : ∀ y ∈ T.1.2.2.1, y.2.2.2.2.1 ≤ T.1.1 0 := fun y hy => (hJ.1.2.2.1 y hy).2.2.2.2.1
  have no : penS π dl false T = none → ∀ f1 : FI, FW [11] x u f f1 → qv sh fR K none (sh, f1, g, fR) := by
    intro e f1 hF
    exact ⟨_, _, rfl, rfl, H f1 T (by rw [e]) (hC.sm (hF.1.mono (by decide))) (hk.fw hux hwd hF (by decide)) hS ((hF.mono (by decide)).fv)⟩
  have no2 : ¬ (T.1.1 1 = T.1.1 3 ∧ T.1.1 1 < π.1 1) → LpX10_penaliseN_39 l G d (qv sh fR K) sh fR x u f g := by
    intro z
    refine VX10_penaliseN_39 hs hu hU (no ?_ f FW.rf)
    unfold penS
    rw [if_neg z]
  refine VX10_penaliseN hs hu hU ?_
  rw [n9, n10, n11, hc.1 1 (by decide), nI_eq (by omega) (by omega), nI_leI (by omega) (by omega)]
  refine ⟨fun c => no2 (fun z => c z.1), fun c => ⟨fun c2 => no2 (fun z => by omega), fun c2 => ?_⟩⟩
  have hpen : penS π dl false T = (match blockS T.1 with
    | none => none
    | some k => match T.1.2.2.1[k]? with
      | none => none
      | some s => match pickS π dl T.1 (some s.1) with
        | none => none
        | some (p, _) => some (keepS (wpt (sendS π dl false T p s.2.2.1 s.2.2.2.1).1 s.1 2 (halfS ((sendS π dl false T p s.2.2.1 s.2.2.2.1).1.2.1 s.1 2))) (1, s.1, s.2.2.1), (sendS π dl false T p s.2.2.1 s.2.2.2.1).2)) := by
    unfold penS
    rw [if_pos ⟨c, by omega⟩]
    rfl
  refine D_firstWith hs hC.2.2.2.2.1 (fun s hs => ⟨by have := (hN.2.2.1 s hs).2.2.1; omega, by have := (hN.2.2.1 s hs).2.2.2.1; omega⟩) t2 ?_
  rw [show T.1.2.2.1.findIdx? (blk (T.1.1 2)) = blockS T.1 from rfl]
  cases hbl : blockS T.1 with
  | none =>
    rw [hbl] at hpen
    exact ⟨fun z => absurd rfl z, fun _ => no hpen f FW.rf⟩
  | some k =>
    rw [hbl] at hpen
    dsimp only at hpen
    obtain ⟨hklt, -, -⟩ := List.findIdx?_eq_some_iff_getElem.mp hbl
    have hks : T.1.2.2.1[k]? = some T.1.2.2.1[k] := List.getElem?_eq_getElem hklt
    generalize T.1.2.2.1[k] = s at hks
    rw [hks] at hpen
    dsimp only at hpen
    obtain ⟨q1, q2, q3, q4, q5, q6⟩ := hN.2.2.1 s (List.mem_of_getElem? hks)
    obtain ⟨a1, -⟩ := hC.2.2.2.2.1.2.2 k s hks
    obtain ⟨t1', t2', t3'⟩ := rt_ok hs q1
    rw [show oI (some k) = nI k from rfl]
    refine ⟨fun _ => ⟨inbN (show k < 512 by omega) (by decide), fun y ey => ?_⟩, fun z => absurd z (nI_m1 (by omega))⟩
    rw [clN (by omega), a1] at ey
    subst ey
    refine D_pick (but := some s.1) hs hu hU hux hC hc hq t0 hd9 hπ (fun p hp => by cases hp; exact q1) (fun f1 e1 => ?_)
    cases hpk : pickS π dl T.1 (some s.1) with
    | none =>
      rw [hpk] at hpen
      exact ⟨fun z => absurd rfl z, fun _ => no hpen f1 e1⟩
    | some y =>
      obtain ⟨p, vv⟩ := y
      rw [hpk] at hpen
      dsimp only at hpen
      have hp4 : p < 4 := pick_lt hπ.2.2.2.2.2.1 _ hpk
      have hC1 : CW f1 x π win dl (T0 + 1) T.1 m la := hC.sm (e1.1.mono (by decide))
      have hk1 : TkC f1 x wd false T := hk.fw hux hwd e1 (by decide)
      have hF1 : FV [1, 2, 3, 5, 9, 11, 12, 13] x u wd false f f1 := (e1.mono (by decide)).fv
      have hc2 := hc.fv hux hwd hF1
      obtain ⟨-, -, a3, a4, -⟩ := hC1.2.2.2.2.1.2.2 k s hks
      rw [show oI (Option.map (fun x => x.1) (some (p, vv))) = nI p from rfl, clN (by omega), a3, a4]
      refine ⟨fun _ => ⟨inbN (show k < 512 by omega) (by decide), inbN (show k < 512 by omega) (by decide), ?_⟩, fun z => absurd z (nI_m1 (n := p) (by omega))⟩
      refine D_sendN (frm := s.2.2.1) (many := s.2.2.2.1) hs hu hU hux hwd hC1 (by omega) hc2 hk1 hq t0 hd9 hπ hp4 (pick_ok hpk).1 (by omega) (by omega) hc1 (fun f2 h1 h2 h3 => ?_)
      have hq2 : qN (sendS π dl false T p s.2.2.1 s.2.2.2.1).1 := by
        have := hq
        show qN (wsc (wpt (wpt (wsg T.1 (T.1.2.2.1 ++ [_])) p 5 0) p 4 (T.1.2.1 p 4 + 1)) 5 _)
        have hb4 : T.1.2.1 p 4 + 1 ≤ 500000 := by
          have := (hJ.1.2.1 p).2.2.2.2.2.1
          have h0 := hJ.2.2.2.1
          have := hJ.2.2.2.2.2
          have h1000 := hJ.1.1.1
          omega
        exact qN.pt (w := wpt (wsg T.1 (T.1.2.2.1 ++ [_])) p 5 0) (qN.pt (w := wsg T.1 (T.1.2.2.1 ++ [_])) this (by omega)) (by omega)
      rw [clN (by omega)]
      refine ⟨inbN q1 (by decide), x + 28 + s.1, t1', t2', t3', ?_⟩
      refine D_halve hs h1 hq2 q1 (fun f3 h4 h5 => ⟨inbN (show k < 512 by omega) (by decide), ?_⟩)
      have hks2 : (sendS π dl false T p s.2.2.1 s.2.2.2.1).1.2.2.1[k]? = some s := by
        show (T.1.2.2.1 ++ [_])[k]? = _
        rw [List.getElem?_append_left hklt]
        exact hks
      have a33 : f3 (x + 8) k = nI s.2.2.1 := (h4.2.2.2.2.1.2.2 k s hks2).2.2.1
      rw [a33]
      refine D_logAdd (q := (1, s.1, s.2.2.1)) hs h4.2.2.2.2.2.2.2.2.1 (fun f4 h6 h7 => ⟨_, _, rfl, rfl, H f4 _ (by rw [hpen]) (h4.repk (h7.1.mono (by decide)) h6) ?_ ?_ (hF1.tr ((h3.mono (by decide)).tr ((((h5.mono (L' := [1, 2, 3, 5, 9, 11, 12, 13]) (by decide)).tr (h7.mono (by decide))).fw (u := u)).fv)))⟩)
      · exact TkC.fw (T := sendS π dl false T p s.2.2.1 s.2.2.2.1) (u := u) (TkC.fw (u := u) h2 hux hwd h5.fw (by decide)) hux hwd h7.fw (by decide)
      · obtain ⟨y, z1, z2⟩ := sendS_sg (π := π) (dl := dl) (dr := false) (T := T) (p := p) (frm := s.2.2.1) (many := s.2.2.2.1)
        show WS (sendS π dl false T p s.2.2.1 s.2.2.2.1).1.2.2.1
        rw [z1]
        exact hS.add (fun y hy => by rw [z2]; exact hsA y hy)
theorem D_sendPiecesD {K : Int32 → FI → FL → Prop} {T0 : Nat} {T : Tk} (hs : StW sh fR x) (hu : fR x 7 = some u) (hU : StPl sh fR u) (hux : u + 17 ≤ x) (hwd : wd < u) (hw : sh[wd]? = some (1, 1) ∧ 0 < wd) (hC : CW f x π win dl (T0 + 1) T.1 m la) (hc : CP f u π) (hk : TkC f x wd true T) (hdl : ∀ p, p < π.1 6 → 1 ≤ dl p ∧ dl p ≤ 9) (hd9 : ∀ p, dl p ≤ 9999) (hπ : πOK π) (hJ : SJ π T0 400 T m) (hS : WS T.1.2.2.1) (H : ∀ (f' : FI) (n' : Nat), CW f' x π win dl (T0 + 1) (sendsS π dl true 400 T).1.1 (sendsS π dl true 400 T).1.1.2.2.2.1 la → TkC f' x wd true (sendsS π dl true 400 T).1 → SJ π T0 n' (sendsS π dl true 400 T).1 (sendsS π dl true 400 T).1.1.2.2.2.1 → ((sendsS π dl true 400 T).2 = true → (sendsS π dl true 400 T).1.1.2.2.2.1 = []) → WS (sendsS π dl true 400 T).1.1.2.2.1 → FV [1, 2, 3, 5, 6, 11, 12, 13] x u wd true f f' → K (bI (sendsS π dl true 400 T).2) f' g) : Cl l G (d + 4) 0 0 mX10_sendPieces [.ref x, .ref wd] (sh, f, g, fR) (qi sh fR K) := by
  have h200 := hπ.1
  have hu2 := hπ.2.1
  have loop : ∀ n k (T : Tk) (f0 : FI) (lm : Nat), n + k = 400 → SJ π T0 n T T.1.2.2.2.1 → lm = minS (T.1.1 3) (π.1 1) → CW f0 x π win dl (T0 + 1) T.1 T.1.2.2.2.1 la → TkC f0 x wd true T → WS T.1.2.2.1 → FV [1, 2, 3, 5, 6, 11, 12, 13] x u wd true f f0 → (∀ (f' : FI) (n' : Nat), CW f' x π win dl (T0 + 1) (sendsS π dl true n T).1.1 (sendsS π dl true n T).1.1.2.2.2.1 la → TkC f' x wd true (sendsS π dl true n T).1 → SJ π T0 n' (sendsS π dl true n T).1 (sendsS π dl true n T).1.1.2.2.2.1 → ((sendsS π dl true n T).2 = true → (sendsS π dl true n T).1.1.2.2.2.1 = []) → WS (sendsS π dl true n T).1.1.2.2.1 → FV [1, 2, 3, 5, 6, 11, 12, 13] x u wd true f f' → K (bI (sendsS π dl true n T).2) f' g) → LpX10_sendPiecesD_28 l G d (qi sh fR K) sh fR x u wd f0 g (nI lm) (nI k) := by
    intro n
    induction n with
    | zero => intro k T f0 lm hk0 hJ; exact absurd hJ SJ.z
    | succ n ih =>
      intro k T f0 lm hk0 hJ hlm hC hk hS hF H
      obtain ⟨hN, h5, hl, hc1, hmany, hmq, hpc⟩ := hJ.jn hπ
      have hc0 := hc.fv hux hwd hF
      have hms := sendsS_eq (π := π) (dl := dl) (dr := true) (n := n) (T := T)
      have t0 := hN.1 0 (by decide)
      have t1 := hN.1 1 (by decide)
      have t3 := hN.1 3 (by decide)
      have hq : qN T.1 := hJ.1.qN (by have := hJ.2.2.2.1; have := hJ.2.2.2.2.2; omega)
      have n9 : f0 x 9 = nI (T.1.1 1) := hC.1 1 (by unfold nset; omega)
      have n20 := hC.2.2.2.2.2.1.1
      have hpl := hC.2.2.2.2.2.1.2.1
      have n8 := hC.2.2.2.2.1.1
      have hlm2 : lm ≤ π.1 1 := by rw [hlm]; unfold minS; split <;> omega
      have hsA : ∀ y ∈ T.1.2.2.1, y.2.2.2.2.1 ≤ T.1.1 0 := fun y hy => (hJ.1.2.2.1 y hy).2.2.2.2.1
      have go : ¬ (T.1.2.2.2.1 = [] ∧ lm ≤ T.1.1 1) → LpX10_sendPiecesD_68 l G d (qi sh fR K) sh fR x u wd f0 g (nI lm) (nI k) := by
        intro hne
        rw [← hlm, if_neg hne] at hms
        refine VX10_sendPiecesD_68 hs hu hU hw ?_
        refine D_pick (but := none) hs hu hU hux hC hc0 hq t0 hd9 hπ (fun p hp => by cases hp) (fun f1 e1 => ?_)
        have hC1 : CW f1 x π win dl (T0 + 1) T.1 T.1.2.2.2.1 la := hC.sm (e1.1.mono (by decide))
        have hk1 : TkC f1 x wd true T := hk.fw hux hwd e1 (by decide)
        have hF1 : FV [1, 2, 3, 5, 6, 11, 12, 13] x u wd true f f1 := hF.tr ((e1.mono (by decide)).fv)
        have hc2 := hc.fv hux hwd hF1
        have n9' : f1 x 9 = nI (T.1.1 1) := hC1.1 1 (by unfold nset; omega)
        cases hpk : pickS π dl T.1 none with
        | none =>
          rw [hpk] at hms
          replace hms : sendsS π dl true (n + 1) T = (T, false) := hms
          refine ⟨fun z => absurd rfl z, fun _ => ⟨_, _, _, rfl, rfl, ?_⟩⟩
          rw [hms] at H
          exact H f1 (n + 1) hC1 hk1 hJ (fun z => by cases z) hS hF1
        | some y =>
          obtain ⟨p, vv⟩ := y
          have hp4 : p < 4 := pick_lt hπ.2.2.2.2.2.1 _ hpk
          rw [hpk] at hms
          dsimp only at hms
          rw [show oI (Option.map (fun x => x.1) (some (p, vv))) = nI p from rfl]
          refine ⟨fun _ => ?_, fun z => absurd z (nI_m1 (n := p) (by omega))⟩
          rw [hC1.2.2.2.2.2.1.1]
          have nx : ∀ (T2 : Tk) (f2 : FI), sendsS π dl true (n + 1) T = sendsS π dl true n T2 → SJ π T0 n T2 T2.1.2.2.2.1 → T2.1.1 3 = T.1.1 3 → CW f2 x π win dl (T0 + 1) T2.1 T2.1.2.2.2.1 la → TkC f2 x wd true T2 → WS T2.1.2.2.1 → FV [1, 2, 3, 5, 6, 11, 12, 13] x u wd true f f2 → LpX10_sendPiecesD_170 l G d (qi sh fR K) sh fR x u wd f2 g (nI lm) (nI k) := by
            intro T2 f2 e2 j2 e3 c2 k2 s2 v2
            refine VX10_sendPiecesD_170 hs hu hU hw ?_
            rw [nI_add]
            refine ih (k + 1) T2 f2 lm (by omega) j2 (by rw [e3]; exact hlm) c2 k2 s2 v2 ?_
            rw [e2] at H
            exact H
          cases hps : T.1.2.2.2.1 with
          | nil =>
            rw [hps] at hms hJ
            dsimp only at hms
            have hlt : T.1.1 1 < lm := Nat.not_le.mp (fun z => hne ⟨hps, z⟩)
            refine ⟨fun _ => ?_, fun z => absurd (by decide) z⟩
            have hnx := hJ.s (dr := true) hπ hdl (by rw [← hlm]; exact hlt) hpk
            rw [hc2.1 2 (by decide), n9', pk_sub (by omega)]
            refine D_minN (by omega) (by omega) ?_
            rw [n9']
            have hmn : minS (π.1 2) (lm - T.1.1 1) ≤ 1000 := by unfold minS; split <;> omega
            refine D_sendD hs hu hU hux hwd hw hC1 (by omega) hc2 hk1 hq t0 hd9 hπ hp4 (pick_ok hpk).1 (by omega) (by omega) hc1 (fun f2 q1 q2 q3 => ?_)
            have n92 : f2 x 9 = nI (T.1.1 1) := q1.1 1 (by unfold nset; omega)
            rw [n92, nI_add]
            have q4 := q1.setn (i := 1) (v := T.1.1 1 + minS (π.1 2) (lm - T.1.1 1)) (by unfold nset; omega)
            refine nx (stepN π dl true T p) _ hms ?_ rfl ?_ ?_ ?_ ((hF1.tr (q3.mono (by decide))).up0 (by decide))
            · have e : (stepN π dl true T p).1.2.2.2.1 = [] := by
                show T.1.2.2.2.1 = []
                exact hps
              rw [e]
              exact hnx
            · have e : (stepN π dl true T p).1.2.2.2.1 = T.1.2.2.2.1 := rfl
              rw [e]
              unfold stepN
              rw [← hlm]
              exact q4
            · obtain ⟨y1, y2, y3, y4, y5, y6⟩ := q2
              unfold stepN
              rw [← hlm]
              exact ⟨by rw [up2_k (by decide)]; exact y1, by rw [up2_k (by decide)]; exact y2, by rw [up2_k (by decide)]; exact y3, fun z => by rw [up2_r (by omega)]; exact y4 z, y5, y6⟩
            · obtain ⟨s, z1, z2⟩ := sendS_sg (π := π) (dl := dl) (dr := true) (T := T) (p := p) (frm := T.1.1 1) (many := minS (π.1 2) (minS (T.1.1 3) (π.1 1) - T.1.1 1))
              show WS (sendS π dl true T p (T.1.1 1) (minS (π.1 2) (minS (T.1.1 3) (π.1 1) - T.1.1 1))).1.2.2.1
              rw [z1]
              exact hS.add (fun y hy => by rw [z2]; exact hsA y hy)
          | cons q ms =>
            rw [hps] at hms hJ hC1 hpl hmq
            dsimp only at hms
            have hfc := hJ.2.1.2.1
            rw [hps] at hfc
            obtain ⟨hnd, hmf⟩ := filt_cons hfc
            have hqm := hmq q (List.mem_cons_self ..)
            obtain ⟨c0, c1⟩ := hC1.2.2.2.2.2.1.2.2 0 q rfl
            refine ⟨fun z => absurd z (nI_nle (by simp) (by omega)), fun _ => ?_⟩
            rw [c0, c1]
            have hnx := hJ.p (dr := true) hdl hnd hpk
            rw [hmf] at hnx
            refine D_sendD hs hu hU hux hwd hw hC1 (by omega) hc2 hk1 hq t0 hd9 hπ hp4 (pick_ok hpk).1 hqm.1 (by omega) hc1 (fun f2 q1 q2 q3 => ?_)
            refine D_pPop hs q1.2.2.2.2.2.1 (fun f3 q4 q5 => ?_)
            have q6 := q1.repp (q5.1.mono (by decide)) q4
            refine nx (stepP π dl true T p q ms) f3 hms hnx rfl q6 (TkC.fw (T := sendS π dl true T p q.1 q.2) (u := u) q2 hux hwd q5.fw (by decide)) ?_ ((hF1.tr (q3.mono (by decide))).tr ((q5.mono (by decide)).fw (u := u)).fv)
            obtain ⟨s, z1, z2⟩ := sendS_sg (π := π) (dl := dl) (dr := true) (T := T) (p := p) (frm := q.1) (many := q.2)
            show WS (sendS π dl true T p q.1 q.2).1.2.2.1
            rw [z1]
            exact hS.add (fun y hy => by rw [z2]; exact hsA y hy)
      refine VX10_sendPiecesD_28 hs hu hU hw ?_
      rw [n8, n20, n9, nI_0' (by omega), nI_ltI (by omega) (by omega)]
      refine ⟨fun z => absurd z (nI_ge (show k < 512 by omega) (by decide)), fun _ => ⟨fun z => absurd z (nI_ge (show T.1.2.2.1.length < 512 by omega) (by decide)), fun _ => ⟨fun c => go (fun z => c (by rw [z.1]; rfl)), fun c => ⟨fun c2 => go (fun z => by omega), fun c2 => ⟨_, _, _, rfl, rfl, ?_⟩⟩⟩⟩⟩
      have hps : T.1.2.2.2.1 = [] := List.eq_nil_of_length_eq_zero c
      rw [← hlm, if_pos ⟨hps, by omega⟩] at hms
      rw [hms] at H
      exact H f0 (n + 1) hC hk hJ (fun _ => hps) hS hF
  have hN := hJ.jn hπ
  have t2 := hN.1.1 2 (by decide)
  have t3 := hN.1.1 3 (by decide)
  have hn10 : f x 10 = nI (T.1.1 2) := hC.1 2 (by unfold nset; omega)
  refine VX10_sendPiecesD hs hu hU hw ?_
  rw [hn10]
  refine D_pTidy hs hC.2.2.2.2.2.1 t2 hN.2.2.2.2.2.1 (fun f1 q1 q2 => ?_)
  have hC1 : CW f1 x π win dl (T0 + 1) T.1 T.1.2.2.2.1 la := by
    have := hC.repp (q2.1.mono (by decide)) q1
    rw [show m.filter (ndN (T.1.1 2)) = T.1.2.2.2.1 from hJ.2.1.2.1] at this
    exact this
  have hc1 := hc.oc hux q2
  have n11 : f1 x 11 = nI (T.1.1 3) := hC1.1 3 (by unfold nset; omega)
  rw [n11, hc1.1 1 (by decide)]
  refine D_minN (by omega) (by omega) ?_
  exact loop 400 0 T f1 (minS (T.1.1 3) (π.1 1)) rfl hJ.tidy rfl hC1 (hk.fw (u := u) hux hwd q2.fw (by decide)) hS (((q2.mono (by decide)).fw (u := u)).fv) H
theorem D_penaliseD {K : FI → FL → Prop} {T0 n : Nat} {T : Tk} (hs : StW sh fR x) (hu : fR x 7 = some u) (hU : StPl sh fR u) (hux : u + 17 ≤ x) (hwd : wd < u) (hw : sh[wd]? = some (1, 1) ∧ 0 < wd) (hC : CW f x π win dl (T0 + 1) T.1 m la) (hc : CP f u π) (hk : TkC f x wd true T) (hd9 : ∀ p, dl p ≤ 9999) (hπ : πOK π) (hJ : SJ π T0 n T m) (hS : WS T.1.2.2.1) (H : ∀ (f' : FI) (T' : Tk), T' = (match penS π dl true T with
    | some T => T
    | none => T) → CW f' x π win dl (T0 + 1) T'.1 m la → TkC f' x wd true T' → WS T'.1.2.2.1 → FV [1, 2, 3, 5, 9, 11, 12, 13] x u wd true f f' → K f' g) : Cl l G (d + 4) 0 0 mX10_penalise [.ref x, .ref wd] (sh, f, g, fR) (qv sh fR K) := by
  obtain ⟨hN, h5, hl, hc1, hmany, hmq, hpc⟩ := hJ.jn hπ
  have t0 := hN.1 0 (by decide)
  have t1 := hN.1 1 (by decide)
  have t2 := hN.1 2 (by decide)
  have t3 := hN.1 3 (by decide)
  have h200 := hπ.1.2
  have hq : qN T.1 := hJ.1.qN (by have := hJ.2.2.2.1; have := hJ.2.2.2.2.2; omega)
  have n9 : f x 9 = nI (T.1.1 1) := hC.1 1 (by unfold nset; omega)
  have n10 : f x 10 = nI (T.1.1 2) := hC.1 2 (by unfold nset; omega)
  have n11 : f x 11 = nI (T.1.1 3) := hC.1 3 (by unfold nset; omega)
  have hsA : ∀ y ∈ T.1.2.2.1, y.2.2.2.2.1 ≤ T.1.1 0 := fun y hy => (hJ.1.2.2.1 y hy).2.2.2.2.1
  have no : penS π dl true T = none → ∀ f1 : FI, FW [11] x u f f1 → qv sh fR K none (sh, f1, g, fR) := by
    intro e f1 hF
    exact ⟨_, _, rfl, rfl, H f1 T (by rw [e]) (hC.sm (hF.1.mono (by decide))) (hk.fw hux hwd hF (by decide)) hS ((hF.mono (by decide)).fv)⟩
  have no2 : ¬ (T.1.1 1 = T.1.1 3 ∧ T.1.1 1 < π.1 1) → LpX10_penaliseD_39 l G d (qv sh fR K) sh fR x u wd f g := by
    intro z
    refine VX10_penaliseD_39 hs hu hU hw (no ?_ f FW.rf)
    unfold penS
    rw [if_neg z]
  refine VX10_penaliseD hs hu hU hw ?_
  rw [n9, n10, n11, hc.1 1 (by decide), nI_eq (by omega) (by omega), nI_leI (by omega) (by omega)]
  refine ⟨fun c => no2 (fun z => c z.1), fun c => ⟨fun c2 => no2 (fun z => by omega), fun c2 => ?_⟩⟩
  have hpen : penS π dl true T = (match blockS T.1 with
    | none => none
    | some k => match T.1.2.2.1[k]? with
      | none => none
      | some s => match pickS π dl T.1 (some s.1) with
        | none => none
        | some (p, _) => some (keepS (wpt (sendS π dl true T p s.2.2.1 s.2.2.2.1).1 s.1 2 (halfS ((sendS π dl true T p s.2.2.1 s.2.2.2.1).1.2.1 s.1 2))) (1, s.1, s.2.2.1), (sendS π dl true T p s.2.2.1 s.2.2.2.1).2)) := by
    unfold penS
    rw [if_pos ⟨c, by omega⟩]
    rfl
  refine D_firstWith hs hC.2.2.2.2.1 (fun s hs => ⟨by have := (hN.2.2.1 s hs).2.2.1; omega, by have := (hN.2.2.1 s hs).2.2.2.1; omega⟩) t2 ?_
  rw [show T.1.2.2.1.findIdx? (blk (T.1.1 2)) = blockS T.1 from rfl]
  cases hbl : blockS T.1 with
  | none =>
    rw [hbl] at hpen
    exact ⟨fun z => absurd rfl z, fun _ => no hpen f FW.rf⟩
  | some k =>
    rw [hbl] at hpen
    dsimp only at hpen
    obtain ⟨hklt, -, -⟩ := List.findIdx?_eq_some_iff_getElem.mp hbl
    have hks : T.1.2.2.1[k]? = some T.1.2.2.1[k] := List.getElem?_eq_getElem hklt
    generalize T.1.2.2.1[k] = s at hks
    rw [hks] at hpen
    dsimp only at hpen
    obtain ⟨q1, q2, q3, q4, q5, q6⟩ := hN.2.2.1 s (List.mem_of_getElem? hks)
    obtain ⟨a1, -⟩ := hC.2.2.2.2.1.2.2 k s hks
    obtain ⟨t1', t2', t3'⟩ := rt_ok hs q1
    rw [show oI (some k) = nI k from rfl]
    refine ⟨fun _ => ⟨inbN (show k < 512 by omega) (by decide), fun y ey => ?_⟩, fun z => absurd z (nI_m1 (by omega))⟩
    rw [clN (by omega), a1] at ey
    subst ey
    refine D_pick (but := some s.1) hs hu hU hux hC hc hq t0 hd9 hπ (fun p hp => by cases hp; exact q1) (fun f1 e1 => ?_)
    cases hpk : pickS π dl T.1 (some s.1) with
    | none =>
      rw [hpk] at hpen
      exact ⟨fun z => absurd rfl z, fun _ => no hpen f1 e1⟩
    | some y =>
      obtain ⟨p, vv⟩ := y
      rw [hpk] at hpen
      dsimp only at hpen
      have hp4 : p < 4 := pick_lt hπ.2.2.2.2.2.1 _ hpk
      have hC1 : CW f1 x π win dl (T0 + 1) T.1 m la := hC.sm (e1.1.mono (by decide))
      have hk1 : TkC f1 x wd true T := hk.fw hux hwd e1 (by decide)
      have hF1 : FV [1, 2, 3, 5, 9, 11, 12, 13] x u wd true f f1 := (e1.mono (by decide)).fv
      have hc2 := hc.fv hux hwd hF1
      obtain ⟨-, -, a3, a4, -⟩ := hC1.2.2.2.2.1.2.2 k s hks
      rw [show oI (Option.map (fun x => x.1) (some (p, vv))) = nI p from rfl, clN (by omega), a3, a4]
      refine ⟨fun _ => ⟨inbN (show k < 512 by omega) (by decide), inbN (show k < 512 by omega) (by decide), ?_⟩, fun z => absurd z (nI_m1 (n := p) (by omega))⟩
      refine D_sendD (frm := s.2.2.1) (many := s.2.2.2.1) hs hu hU hux hwd hw hC1 (by omega) hc2 hk1 hq t0 hd9 hπ hp4 (pick_ok hpk).1 (by omega) (by omega) hc1 (fun f2 h1 h2 h3 => ?_)
      have hq2 : qN (sendS π dl true T p s.2.2.1 s.2.2.2.1).1 := by
        have := hq
        show qN (wsc (wpt (wpt (wsg T.1 (T.1.2.2.1 ++ [_])) p 5 0) p 4 (T.1.2.1 p 4 + 1)) 5 _)
        have hb4 : T.1.2.1 p 4 + 1 ≤ 500000 := by
          have := (hJ.1.2.1 p).2.2.2.2.2.1
          have h0 := hJ.2.2.2.1
          have := hJ.2.2.2.2.2
          have h1000 := hJ.1.1.1
          omega
        exact qN.pt (w := wpt (wsg T.1 (T.1.2.2.1 ++ [_])) p 5 0) (qN.pt (w := wsg T.1 (T.1.2.2.1 ++ [_])) this (by omega)) (by omega)
      rw [clN (by omega)]
      refine ⟨inbN q1 (by decide), x + 28 + s.1, t1', t2', t3', ?_⟩
      refine D_halve hs h1 hq2 q1 (fun f3 h4 h5 => ⟨inbN (show k < 512 by omega) (by decide), ?_⟩)
      have hks2 : (sendS π dl true T p s.2.2.1 s.2.2.2.1).1.2.2.1[k]? = some s := by
        show (T.1.2.2.1 ++ [_])[k]? = _
        rw [List.getElem?_append_left hklt]
        exact hks
      have a33 : f3 (x + 8) k = nI s.2.2.1 := (h4.2.2.2.2.1.2.2 k s hks2).2.2.1
      rw [a33]
      refine D_logAdd (q := (1, s.1, s.2.2.1)) hs h4.2.2.2.2.2.2.2.2.1 (fun f4 h6 h7 => ⟨_, _, rfl, rfl, H f4 _ (by rw [hpen]) (h4.repk (h7.1.mono (by decide)) h6) ?_ ?_ (hF1.tr ((h3.mono (by decide)).tr ((((h5.mono (L' := [1, 2, 3, 5, 9, 11, 12, 13]) (by decide)).tr (h7.mono (by decide))).fw (u := u)).fv)))⟩)
      · exact TkC.fw (T := sendS π dl true T p s.2.2.1 s.2.2.2.1) (u := u) (TkC.fw (u := u) h2 hux hwd h5.fw (by decide)) hux hwd h7.fw (by decide)
      · obtain ⟨y, z1, z2⟩ := sendS_sg (π := π) (dl := dl) (dr := true) (T := T) (p := p) (frm := s.2.2.1) (many := s.2.2.2.1)
        show WS (sendS π dl true T p s.2.2.1 s.2.2.2.1).1.2.2.1
        rw [z1]
        exact hS.add (fun y hy => by rw [z2]; exact hsA y hy)
end SA
