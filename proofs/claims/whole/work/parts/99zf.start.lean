/-! what holds at the law's entry -/
def lawC : Cond := Jvm.Cond.and given_1 narrow_1
def tStr : Term := Term.string RX9 31
def elC (j : Nat) : Cond := Cond.eq (.elem (.field tStr "java/lang/String" "value" "[B") (.int (Int32.ofNat j))) (.int (sBy.getD j 0))
set_option maxRecDepth 20000 in
theorem st_list : (flatC lawC).drop 39 = (List.range 150).map elC := by rfl
theorem st_el (j : Nat) (hj : j < 150) : Cond.eq (.elem (.field tStr "java/lang/String" "value" "[B") (.int (Int32.ofNat j))) (.int (sBy.getD j 0)) ∈ flatC lawC := by
  have h : elC j ∈ (flatC lawC).drop 39 := by
    rw [st_list]
    exact List.mem_map.mpr ⟨j, List.mem_range.mpr hj, rfl⟩
  exact List.mem_of_mem_drop h
theorem st_ex : Cond.exactly tStr "java/lang/String" ∈ flatC lawC := List.mem_of_getElem? (i := 35) rfl
theorem st_co : Cond.eq (.field tStr "java/lang/String" "coder" "B") (.int 0) ∈ flatC lawC := List.mem_of_getElem? (i := 36) rfl
theorem st_ar : Cond.arrayOf (.field tStr "java/lang/String" "value" "[B") .byte ∈ flatC lawC := List.mem_of_getElem? (i := 37) rfl
theorem st_le : Cond.eq (.length (.field tStr "java/lang/String" "value" "[B")) (.int (Int32.ofNat 150)) ∈ flatC lawC := List.mem_of_getElem? (i := 38) rfl
theorem st_cs : Cond.eq (.static "java/lang/String" "COMPACT_STRINGS" "Z") (.int 1) ∈ flatC lawC := List.mem_of_getElem? (i := 4) rfl
theorem st_fm : Cond.isRef (.static "jdk/internal/util/Preconditions" "SIOOBE_FORMATTER" "Ljava/util/function/BiFunction;") ∈ flatC lawC := List.mem_of_getElem? (i := 5) rfl
theorem gt {w : Cond} (i : Nat) (h : tables_1[i]? = some w) : w ∈ lw_tbl := List.mem_append_right _ (List.mem_of_getElem? h)
theorem good_tbl {w : Cond} (h : w ∈ lw_good) : w ∈ lw_tbl := (List.mem_filter.mp h).1
set_option maxRecDepth 30000 in
theorem gi339 : Cond.instantiable RX0 6 ∈ lw_good := gw 339 rfl rfl
set_option maxRecDepth 30000 in
theorem gi29 : Cond.instantiable RX1 1 ∈ lw_good := gw 29 rfl rfl
set_option maxRecDepth 30000 in
theorem gi290 : Cond.instantiable RX2 9 ∈ lw_good := gw 290 rfl rfl
set_option maxRecDepth 30000 in
theorem gi47 : Cond.instantiable RX3 3 ∈ lw_good := gw 47 rfl rfl
set_option maxRecDepth 30000 in
theorem gi390 : Cond.instantiable RX4 5 ∈ lw_good := gw 390 rfl rfl
set_option maxRecDepth 30000 in
theorem gi371 : Cond.instantiable RX5 3 ∈ lw_good := gw 371 rfl rfl
set_option maxRecDepth 30000 in
theorem gi41 : Cond.instantiable RX6 15 ∈ lw_good := gw 41 rfl rfl
set_option maxRecDepth 30000 in
theorem gi255 : Cond.instantiable RX7 6 ∈ lw_good := gw 255 rfl rfl
set_option maxRecDepth 30000 in
theorem gi415 : Cond.instantiable RX8 8 ∈ lw_good := gw 415 rfl rfl
set_option maxRecDepth 30000 in
theorem gi143 : Cond.instantiable RX9 15 ∈ lw_good := gw 143 rfl rfl
set_option maxRecDepth 30000 in
theorem gi247 : Cond.instantiable RX10 16 ∈ lw_good := gw 247 rfl rfl
set_option maxRecDepth 30000 in
theorem gi21 : Cond.instantiable RX11 16 ∈ lw_good := gw 21 rfl rfl
set_option maxRecDepth 30000 in
theorem gi1170 : Cond.instantiable RX12 69 ∈ lw_good := gw 1170 rfl rfl
set_option maxRecDepth 30000 in
theorem gt253 : Cond.arrayOver (.object RX8) ∈ lw_tbl := gt 253 rfl
set_option maxRecDepth 30000 in
theorem gt523 : Cond.arrayOver (.object RX10) ∈ lw_tbl := gt 523 rfl
set_option maxRecDepth 30000 in
theorem gt525 : Cond.arrayOver (.array .int) ∈ lw_tbl := gt 525 rfl
set_option maxRecDepth 30000 in
theorem gt30 : Cond.methodLinkNest RX11 18 yX1_init RX11 ∈ lw_tbl := gt 30 rfl
set_option maxRecDepth 30000 in
theorem gt42 : Cond.methodLinkNest RX11 25 yX6_init RX11 ∈ lw_tbl := gt 42 rfl
set_option maxRecDepth 30000 in
theorem gt48 : Cond.methodLinkNest RX6 26 yX3_init RX11 ∈ lw_tbl := gt 48 rfl
set_option maxRecDepth 30000 in
theorem gt256 : Cond.methodLinkNest RX10 19 yX7_init RX11 ∈ lw_tbl := gt 256 rfl
set_option maxRecDepth 30000 in
theorem gt291 : Cond.methodLinkNest RX10 26 yX2_init RX11 ∈ lw_tbl := gt 291 rfl
set_option maxRecDepth 30000 in
theorem gt340 : Cond.methodLinkNest RX10 33 yX0_init RX11 ∈ lw_tbl := gt 340 rfl
set_option maxRecDepth 30000 in
theorem gt372 : Cond.methodLinkNest RX10 40 yX5_init RX11 ∈ lw_tbl := gt 372 rfl
set_option maxRecDepth 30000 in
theorem gt391 : Cond.methodLinkNest RX10 47 yX4_init RX11 ∈ lw_tbl := gt 391 rfl
set_option maxRecDepth 30000 in
theorem gt416 : Cond.methodLinkNest RX10 62 yX8_init RX11 ∈ lw_tbl := gt 416 rfl
set_option maxRecDepth 30000 in
theorem gt148 : Cond.stringRef RX9 31 sTx ∈ lw_tbl := gt 148 rfl
set_option maxRecDepth 30000 in
theorem gt158 : Cond.laysStatic "java/lang/String" "COMPACT_STRINGS" "Z" ∈ lw_tbl := gt 158 rfl
set_option maxRecDepth 30000 in
theorem gt6 : Cond.initialized "java/lang/String" ∈ lw_tbl := gt 6 rfl
set_option maxRecDepth 30000 in
theorem gt174 : Cond.laysStatic "jdk/internal/util/Preconditions" "SIOOBE_FORMATTER" "Ljava/util/function/BiFunction;" ∈ lw_tbl := gt 174 rfl
set_option maxRecDepth 30000 in
theorem gt8 : Cond.initialized "jdk/internal/util/Preconditions" ∈ lw_tbl := gt 8 rfl
theorem k0_one {s : State} {b c : Nat} {C : String} {T : u_T} {N : Nat} (hg : ∀ w ∈ lw_good, w.before #[Value.ref b] s = true) (h0 : cls0[c]? = some (C, T, N)) (h1 : ∀ w ∈ u_ws C T N, w ∈ lw_good) (h2 : Cond.instantiable C N ∈ lw_good) : ∃ p : ClassId × (Nat → Nat), ∀ q : vw_C, cls0[c]? = some q → u_Kn s q.1 q.2.1 q.2.2 p.1 p.2 := by
  obtain ⟨cC, iS, hK⟩ := u_known hg h1 (hg _ h2)
  exact ⟨(cC, iS), fun q hq => by rw [h0] at hq; cases hq; exact hK⟩
theorem k0_start {s : State} {b : Nat} (hts : ∀ w ∈ lw_tbl, w.before #[Value.ref b] s = true) (hgv : (Jvm.Cond.and given_1 narrow_1).before #[Value.ref b] s = true) (hbl : b < s.heap.size) : ∃ D : va_G, Kn0 (b, s.heap.size, D) s := by
  have hg : ∀ w ∈ lw_good, w.before #[Value.ref b] s = true := fun w hw => hts w (good_tbl hw)
  have hs := flat_of_before lawC hgv
  have hA : ∀ a : Nat, a < s.heap.size → ¬ s.heap.size ≤ a := fun a h => by omega
  have hc : ∀ c : Nat, ∃ p : ClassId × (Nat → Nat), ∀ q : vw_C, cls0[c]? = some q → u_Kn s q.1 q.2.1 q.2.2 p.1 p.2 := by
    intro c
    rcases (show c = 0 ∨ c = 1 ∨ c = 2 ∨ c = 3 ∨ c = 4 ∨ c = 5 ∨ c = 6 ∨ c = 7 ∨ c = 8 ∨ c = 9 ∨ c = 10 ∨ c = 11 ∨ c = 12 ∨ 13 ≤ c by omega) with rfl | rfl | rfl | rfl | rfl | rfl | rfl | rfl | rfl | rfl | rfl | rfl | rfl | hc
    · exact k0_one hg rfl iX0 gi339
    · exact k0_one hg rfl iX1 gi29
    · exact k0_one hg rfl iX2 gi290
    · exact k0_one hg rfl iX3 gi47
    · exact k0_one hg rfl iX4 gi390
    · exact k0_one hg rfl iX5 gi371
    · exact k0_one hg rfl iX6 gi41
    · exact k0_one hg rfl iX7 gi255
    · exact k0_one hg rfl iX8 gi415
    · exact k0_one hg rfl iX9 gi143
    · exact k0_one hg rfl iX10 gi247
    · exact k0_one hg rfl iX11 gi21
    · exact k0_one hg rfl iX12 gi1170
    · refine ⟨(0, fun _ => 0), fun q hq => ?_⟩
      rw [List.getElem?_eq_none (by exact hc)] at hq
      cases hq
  obtain ⟨D, hD⟩ := Classical.axiomOfChoice hc
  obtain ⟨adK, adV, hS, hE⟩ := vk_Sof (args := #[Value.ref b]) (s := s) (N := 1) (tm := fun _ => tStr) (len := [150]) (byt := [sBy]) (A := fun a => s.heap.size ≤ a) (fun i hi => by rw [show i = 0 by omega]; decide) (fun i _ => hs _ st_ex) (fun i _ => hs _ st_co) (fun i _ => hs _ st_ar) (fun i hi => by rw [show i = 0 by omega]; exact hs _ st_le) (fun i hi j hj => by
      have hi0 : i = 0 := by omega
      subst hi0
      exact hs _ (st_el j hj)) (fun i j hi hj hij => absurd (by omega) hij) hA
  refine ⟨(fun c => (D c).1, fun c => (D c).2), fun c q hq => hD c q hq, hbl, Nat.le_refl _, ?_, va_AO.of (hts _ gt253), va_AO.of (hts _ gt523), ?_, adK 0, adV 0, ?_, ?_, ?_, ?_⟩
  · intro q hq
    unfold nestw at hq
    simp only [List.mem_cons, List.not_mem_nil, or_false] at hq
    rcases hq with rfl | rfl | rfl | rfl | rfl | rfl | rfl | rfl | rfl
    · exact va_Nw.of rfl (hts _ gt30)
    · exact va_Nw.of rfl (hts _ gt42)
    · exact va_Nw.of rfl (hts _ gt48)
    · exact va_Nw.of rfl (hts _ gt256)
    · exact va_Nw.of rfl (hts _ gt291)
    · exact va_Nw.of rfl (hts _ gt340)
    · exact va_Nw.of rfl (hts _ gt372)
    · exact va_Nw.of rfl (hts _ gt391)
    · exact va_Nw.of rfl (hts _ gt416)
  · exact hts _ gt525
  · exact vk_R.of (hts _ gt148) (hE 0 (by decide))
  · have e1 : (fun _ : Nat => adK 0) 0 = adK 0 := rfl
    refine ⟨fun i hi => ?_, fun i j hi hj _ => by omega⟩
    have hi0 : i = 0 := by omega
    subst hi0
    exact hS.1 0 (by decide)
  · exact va_Zof (hts _ gt158) (hts _ gt6) (va_eqt (hs _ st_cs)) hA
  · exact va_Zqof (hts _ gt174) (hts _ gt8) (hs _ st_fm) hA
