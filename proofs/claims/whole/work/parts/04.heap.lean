theorem gws {ws : List Cond} (ps : List Nat) (h : ws.map some = ps.map (fun i => tables_1[i]?)) (g : ws.all goodWord = true) : ∀ w ∈ ws, w ∈ lw_good := by
  intro w hw
  have h1 : some w ∈ ws.map some := List.mem_map.mpr ⟨w, hw, rfl⟩
  rw [h] at h1
  obtain ⟨i, -, hi⟩ := List.mem_map.mp h1
  exact gw i hi (List.all_eq_true.mp g w hw)
theorem iX0 : ∀ w ∈ u_ws RX0 TX0 6, w ∈ lw_good := gws [357, 359, 361, 363, 365, 367] (by decide +kernel) (by decide +kernel)
theorem iX1 : ∀ w ∈ u_ws RX1 TX1 1, w ∈ lw_good := gws [36] (by decide +kernel) (by decide +kernel)
theorem iX2 : ∀ w ∈ u_ws RX2 TX2 9, w ∈ lw_good := gws [318, 320, 322, 324, 326, 328, 330, 332, 334] (by decide +kernel) (by decide +kernel)
theorem iX3 : ∀ w ∈ u_ws RX3 TX3 3, w ∈ lw_good := gws [56, 58, 60] (by decide +kernel) (by decide +kernel)
theorem iX4 : ∀ w ∈ u_ws RX4 TX4 5, w ∈ lw_good := gws [404, 406, 408, 410, 412] (by decide +kernel) (by decide +kernel)
theorem iX5 : ∀ w ∈ u_ws RX5 TX5 3, w ∈ lw_good := gws [382, 384, 386] (by decide +kernel) (by decide +kernel)
theorem iX6 : ∀ w ∈ u_ws RX6 TX6 15, w ∈ lw_good := gws [111, 113, 115, 117, 119, 121, 123, 125, 127, 129, 131, 133, 135, 137, 139] (by decide +kernel) (by decide +kernel)
theorem iX7 : ∀ w ∈ u_ws RX7 TX7 6, w ∈ lw_good := gws [276, 278, 280, 282, 284, 286] (by decide +kernel) (by decide +kernel)
theorem iX8 : ∀ w ∈ u_ws RX8 TX8 8, w ∈ lw_good := gws [443, 445, 447, 449, 451, 453, 455, 457] (by decide +kernel) (by decide +kernel)
theorem iX9 : ∀ w ∈ u_ws RX9 TX9 15, w ∈ lw_good := gws [214, 216, 218, 220, 222, 224, 226, 228, 230, 232, 234, 236, 238, 240, 242] (by decide +kernel) (by decide +kernel)
theorem iX10 : ∀ w ∈ u_ws RX10 TX10 16, w ∈ lw_good := gws [490, 492, 494, 496, 498, 500, 502, 504, 506, 508, 510, 512, 514, 516, 518, 520] (by decide +kernel) (by decide +kernel)
theorem iX11 : ∀ w ∈ u_ws RX11 TX11 16, w ∈ lw_good := gws [542, 544, 546, 548, 550, 552, 554, 556, 558, 560, 562, 564, 566, 568, 570, 572] (by decide +kernel) (by decide +kernel)
theorem iX12 : ∀ w ∈ u_ws RX12 TX12 69, w ∈ lw_good := gws [1246, 1248, 1250, 1252, 1254, 1256, 1258, 1260, 1262, 1264, 1266, 1268, 1270, 1272, 1274, 1276, 1278, 1280, 1282, 1284, 1286, 1288, 1290, 1292, 1294, 1296, 1298, 1300, 1302, 1304, 1306, 1308, 1310, 1312, 1314, 1316, 1318, 1320, 1322, 1324, 1326, 1328, 1330, 1332, 1334, 1336, 1338, 1340, 1342, 1344, 1346, 1348, 1350, 1352, 1354, 1356, 1358, 1360, 1362, 1364, 1366, 1368, 1370, 1372, 1374, 1376, 1378, 1380, 1382] (by decide +kernel) (by decide +kernel)
theorem cls_ok : ∀ (ci : Nat) (C : vw_C), cls0[ci]? = some C → (∀ w ∈ u_ws C.1 C.2.1 C.2.2, w ∈ lw_good) ∧ (∀ k, k < C.2.2 → parseFieldDescriptor (C.2.1 k).2.2.1 = some (fty ci k)) ∧ (∀ a, a < C.2.2 → ∀ b, b < C.2.2 → a ≠ b → (C.2.1 a).2.1 ≠ (C.2.1 b).2.1)
  | 0, _, h => by cases h; exact ⟨iX0, tyX0_ok, nmX0⟩
  | 1, _, h => by cases h; exact ⟨iX1, tyX1_ok, nmX1⟩
  | 2, _, h => by cases h; exact ⟨iX2, tyX2_ok, nmX2⟩
  | 3, _, h => by cases h; exact ⟨iX3, tyX3_ok, nmX3⟩
  | 4, _, h => by cases h; exact ⟨iX4, tyX4_ok, nmX4⟩
  | 5, _, h => by cases h; exact ⟨iX5, tyX5_ok, nmX5⟩
  | 6, _, h => by cases h; exact ⟨iX6, tyX6_ok, nmX6⟩
  | 7, _, h => by cases h; exact ⟨iX7, tyX7_ok, nmX7⟩
  | 8, _, h => by cases h; exact ⟨iX8, tyX8_ok, nmX8⟩
  | 9, _, h => by cases h; exact ⟨iX9, tyX9_ok, nmX9⟩
  | 10, _, h => by cases h; exact ⟨iX10, tyX10_ok, nmX10⟩
  | 11, _, h => by cases h; exact ⟨iX11, tyX11_ok, nmX11⟩
  | 12, _, h => by cases h; exact ⟨iX12, tyX12_ok, nmX12⟩
  | k + 13, _, h => by simp [cls0] at h
def FLk (own : String) (idx ci k : Nat) : Prop := ∃ C : vw_C, cls0[ci]? = some C ∧ k < C.2.2 ∧ Cond.fieldLink own idx (C.2.1 k).1 (C.2.1 k).2.1 (C.2.1 k).2.2.1 ∈ lw_good
def inb (i : Int32) (n : Nat) : Prop := vp_in i n
section SH
variable {l : Launch} {G : Gx} {Z : Zt} {md : Md} {R : Room} {kc ks pc : Nat} {L : List (Option Value)} {S : List Value} {h : Hp}
theorem HR.obj {U : State} {H : Heap} {r ci n : Nat} (hh : HR G U h H) (hs : h.1[r]? = some (ci, n)) (hc : ci < 13) : ∃ C : vw_C, cls0[ci]? = some C ∧ n = C.2.2 ∧ t_OB (ad G r) (G.2.2.1 ci) C.2.2 (G.2.2.2 ci) H (fun k => tval G h (fty ci k) r k) := by
  have c := hh.2.2 r _ hs
  unfold cellOK at c
  rw [if_pos hc] at c
  exact c
theorem HR.arr {U : State} {H : Heap} {r kd n : Nat} (hh : HR G U h H) (hs : h.1[r]? = some (kd, n)) (h1 : ¬ kd < 13) (h2 : kd < 30) : ∃ cA : ClassId, ArrOfT U cA (aty kd) ∧ va_RA U cA (aty kd) ∧ H[ad G r]? = some (arrV cA n (fun k => tval G h (aty kd) r k)) ∧ (kd = 23 → ∀ k, fits .byte (.int (h.2.1 r k)) = true) := by
  have c := hh.2.2 r _ hs
  unfold cellOK at c
  rw [if_neg h1, if_pos h2] at c
  exact c
theorem S_get {r ci n k idx : Nat} {v : Value} (hd : decode md.2.1 pc = .ok (.getfield idx, 3)) (hf : FLk md.1.cls idx ci k) (hs : h.1[r]? = some (ci, n)) (hv : tval G h (fty ci k) r k = cv G v) (kk : WP l G Z md R kc ks (pc + 3) L (v :: S) h) : WP l G Z md R kc ks pc L (.ref r :: S) h := by
  intro p e s m args below meth c C ls H locs cells slots hl hh hS hc hk
  obtain ⟨C0, hC0, hkN, hlk⟩ := hf
  have hci : ci < 13 := by
    have := (List.getElem?_eq_some_iff.mp hC0).1
    simpa using this
  obtain ⟨C1, hC1, hn, cell, q1, q2, q3, q4⟩ := hh.obj hs hci
  cases hC0.symm.trans hC1
  obtain ⟨hSl, hfc, kC, hkC, hkind⟩ := C.2.2.2.2.2.2.2.2.1 ci _ hC0
  obtain ⟨cf, kf, fi, f, hi, hsl⟩ := hSl k hkN
  refine W.getf C.1 C.2.1 C.2.2.2.2.1 (C.2.2.2.2.2.1 _ hlk) hi (u_facts hfc hkC (u_lays C.2.2.2.2.2.1 (cls_ok ci _ hC0).1 hkN) hi).1 q1 (by rw [q3]; exact fun h => by cases h) (v := cv G v) ?_ rfl rfl hd (kk p e s m args below meth c C ls H locs cells slots hl hh hS hc hk)
  rw [hsl, q4 k hkN]
  exact congrArg some hv
theorem S_getI {r ci n k idx : Nat} (hd : decode md.2.1 pc = .ok (.getfield idx, 3)) (hf : FLk md.1.cls idx ci k) (hs : h.1[r]? = some (ci, n)) (ht : ∀ v, tval G h (fty ci k) r k = v → v = .int (h.2.1 r k)) (kk : WP l G Z md R kc ks (pc + 3) L (.int (h.2.1 r k) :: S) h) : WP l G Z md R kc ks pc L (.ref r :: S) h := S_get hd hf hs (v := .int (h.2.1 r k)) (ht _ rfl) kk
theorem S_getR {r ci n k idx r' : Nat} (hd : decode md.2.1 pc = .ok (.getfield idx, 3)) (hf : FLk md.1.cls idx ci k) (hs : h.1[r]? = some (ci, n)) (ht : tval G h (fty ci k) r k = rfv G (h.2.2.2 r k)) (hr : h.2.2.2 r k = some r') (kk : WP l G Z md R kc ks (pc + 3) L (.ref r' :: S) h) : WP l G Z md R kc ks pc L (.ref r :: S) h := S_get hd hf hs (v := .ref r') (by rw [ht, hr]; rfl) kk
theorem S_getN {r ci n k idx : Nat} (hd : decode md.2.1 pc = .ok (.getfield idx, 3)) (hf : FLk md.1.cls idx ci k) (hs : h.1[r]? = some (ci, n)) (ht : tval G h (fty ci k) r k = rfv G (h.2.2.2 r k)) (hr : h.2.2.2 r k = none) (kk : WP l G Z md R kc ks (pc + 3) L (.null :: S) h) : WP l G Z md R kc ks pc L (.ref r :: S) h := S_get hd hf hs (v := .null) (by rw [ht, hr]; rfl) kk
theorem slots_apart {s : State} {args : Array Value} {ci : Nat} {C : vw_C} (hts : ∀ w ∈ lw_good, w.before args s = true) (hC : cls0[ci]? = some C) (hK : u_Kn s C.1 C.2.1 C.2.2 (G.2.2.1 ci) (G.2.2.2 ci)) : ∀ x y, x < C.2.2 → y < C.2.2 → x ≠ y → (G.2.2.2 ci) x ≠ (G.2.2.2 ci) y := by
  intro x y hx hy hne
  obtain ⟨hin, hty, hnm⟩ := cls_ok ci C hC
  obtain ⟨hS, -⟩ := hK
  obtain ⟨_, _, _, fa, hia, ea⟩ := hS x hx
  obtain ⟨_, _, _, fb, hib, eb⟩ := hS y hy
  rw [← ea, ← eb]
  refine u_apart (u_lays hts hin hx) (u_lays hts hin hy) hia hib ?_
  rw [(State.fieldFound?_type hia (hty x hx)).1, (State.fieldFound?_type hib (hty y hy)).1]
  exact hnm x hx y hy hne
/-- a field is written: the new abstract heap h' differs from h at (r, k) alone, and holds v there -/
theorem S_put {r ci n k idx : Nat} {v : Value} {h' : Hp} (hd : decode md.2.1 pc = .ok (.putfield idx, 3)) (hf : FLk md.1.cls idx ci k) (hs : h.1[r]? = some (ci, n)) (hr0 : 0 < r) (hfin : ∀ C : vw_C, cls0[ci]? = some C → (C.2.1 k).2.2.2 = false ∨ (md.1.name = "<init>" ∧ (C.2.1 k).1 = md.1.cls)) (hn : narrow (fty ci k) (cv G v) = cv G v) (hfit : fits (fty ci k) (cv G v) = true) (h1 : h'.1 = h.1) (hsame : ∀ r' k', ¬ (r' = r ∧ k' = k) → h'.2.1 r' k' = h.2.1 r' k' ∧ h'.2.2.1 r' k' = h.2.2.1 r' k' ∧ h'.2.2.2 r' k' = h.2.2.2 r' k') (hv : tval G h' (fty ci k) r k = cv G v) (kk : WP l G Z md R kc ks (pc + 3) L S h') : WP l G Z md R kc ks pc L (v :: .ref r :: S) h := by
  intro p e s m args below meth c C ls H locs cells slots hl hh hS hc hk
  obtain ⟨C0, hC0, hkN, hlk⟩ := hf
  have hci : ci < 13 := by
    have := (List.getElem?_eq_some_iff.mp hC0).1
    simpa using this
  obtain ⟨C1, hC1, hn1, cell, q1, q2, q3, q4⟩ := hh.obj hs hci
  cases hC0.symm.trans hC1
  obtain ⟨hin, hty, hnm⟩ := cls_ok ci C0 hC0
  have hKn := C.2.2.2.2.2.2.2.2.1 ci _ hC0
  have hap := slots_apart C.2.2.2.2.2.1 hC0 hKn
  obtain ⟨hSl, hfc, kC, hkC, hkind⟩ := hKn
  obtain ⟨cf, kf, fi, f, hi, hsl⟩ := hSl k hkN
  have hst := (u_facts hfc hkC (u_lays C.2.2.2.2.2.1 hin hkN) hi).1
  have hG : G.1 < G.2.1 := C.2.2.2.2.2.2.2.2.2.1
  have fin : ∀ H' : Heap, H'[ad G r]? = some (cell.setSlot f.slot (cv G v)) → H'.size = H.size → (∀ q, q ≠ ad G r → H'[q]? = H[q]?) → W p l e R s m args below meth c H' (locs ++ [⟨ad G r, f.slot⟩]) cells slots (Z below args s) (F0 m (pc + 3) ls (S.map (cv G))) := by
    intro H' e1 e2 e3
    refine kk p e s m args below meth c C ls H' _ cells slots hl ?_ (hS.put e2 e3 (by rw [ad_pos hr0]; omega)) hc hk
    refine HR.upd hG hh h1 e2 e3 (fun r' hne k' => hsame r' k' (fun z => hne z.1)) hs ?_
    unfold cellOK
    rw [if_pos hci]
    refine ⟨C0, hC0, hn1, ?_⟩
    rw [hsl] at e1
    refine t_OB.to (V := updV (fun k => tval G h (fty ci k) r k) k (cv G v)) ⟨_, e1, q2, q3, t_set q4 hap hkN _⟩ (fun j _ => ?_)
    by_cases ej : j = k
    · subst ej
      simp [updV, hv]
    · simp only [updV, if_neg ej]
      exact (tval_congr (hsame r j (fun z => ej z.2))).symm
  rcases hfin C0 hC0 with hf0 | ⟨hf1, hf2⟩
  · have hlay := C.2.2.2.2.2.1 _ (hin _ (u_in_lay hkN))
    unfold u_lay at hlay
    rw [if_neg (by rw [hf0]; decide)] at hlay
    exact W.putK C.1 C.2.1 (f := f) ⟨C.2.2.2.2.1, C.2.2.2.2.2.1 _ hlk, ⟨_, _, _, hi⟩, hst⟩ (by rw [q2]; exact u_store hfc hkC hkind hlay hi (hty k hkN) hn hfit) q1 q3 (by rw [hsl]; exact k2_hasslot (q4 k hkN)) rfl rfl hd fin
  · by_cases hf0 : (C0.2.1 k).2.2.2 = false
    · have hlay := C.2.2.2.2.2.1 _ (hin _ (u_in_lay hkN))
      unfold u_lay at hlay
      rw [if_neg (by rw [hf0]; decide)] at hlay
      exact W.putK C.1 C.2.1 (f := f) ⟨C.2.2.2.2.1, C.2.2.2.2.2.1 _ hlk, ⟨_, _, _, hi⟩, hst⟩ (by rw [q2]; exact u_store hfc hkC hkind hlay hi (hty k hkN) hn hfit) q1 q3 (by rw [hsl]; exact k2_hasslot (q4 k hkN)) rfl rfl hd fin
    · have hft : (C0.2.1 k).2.2.2 = true := by simpa using hf0
      have hlay := C.2.2.2.2.2.1 _ (hin _ (u_in_lay hkN))
      unfold u_lay at hlay
      rw [if_pos hft] at hlay
      have hcf : m.cls = cf := by
        obtain ⟨_, _, c', _, _, _, -, -, hf', -, -, -, hown2, -⟩ := Cond.laysFinal_spec hlay
        have e1 : c' = cf := by have := hi.symm.trans hf'; simp at this; exact this.1.symm
        rw [hf2] at hown2
        rw [← e1]; exact Option.some.inj (C.2.2.2.2.1.symm.trans hown2)
      exact W.putFinK C.1 C.2.1 C.2.2.2.2.1 (C.2.2.2.2.2.1 _ hlk) hi hst hcf (C.2.2.2.2.2.2.2.1.trans hf1) (by rw [q2]; exact u_fits hfc hkC hkind (Or.inr hlay) hi (hty k hkN) hn hfit) q1 q3 (by rw [hsl]; exact k2_hasslot (q4 k hkN)) rfl rfl hd fin
theorem up2_ne {α : Type} {f : Nat → Nat → α} {r k r' k' : Nat} {v : α} (h : ¬ (r' = r ∧ k' = k)) : up2 f r k v r' k' = f r' k' := if_neg h
theorem up2_eq {α : Type} {f : Nat → Nat → α} {r k : Nat} {v : α} : up2 f r k v r k = v := if_pos ⟨rfl, rfl⟩
theorem S_putI {r ci n k idx : Nat} {x : Int32} (hd : decode md.2.1 pc = .ok (.putfield idx, 3)) (hf : FLk md.1.cls idx ci k) (hs : h.1[r]? = some (ci, n)) (hr0 : 0 < r) (hfin : ∀ C : vw_C, cls0[ci]? = some C → (C.2.1 k).2.2.2 = false ∨ (md.1.name = "<init>" ∧ (C.2.1 k).1 = md.1.cls)) (hn : narrow (fty ci k) (.int x) = .int x) (hfit : fits (fty ci k) (.int x) = true) (ht : ∀ h0 : Hp, tval G h0 (fty ci k) r k = .int (h0.2.1 r k)) (kk : WP l G Z md R kc ks (pc + 3) L S (sI h r k x)) : WP l G Z md R kc ks pc L (.int x :: .ref r :: S) h :=
  S_put (v := .int x) (h' := sI h r k x) hd hf hs hr0 hfin hn hfit rfl (fun r' k' hne => ⟨up2_ne hne, rfl, rfl⟩) (by rw [ht]; exact congrArg Value.int up2_eq) kk
theorem S_putL {r ci n k idx : Nat} {x : Int64} (hd : decode md.2.1 pc = .ok (.putfield idx, 3)) (hf : FLk md.1.cls idx ci k) (hs : h.1[r]? = some (ci, n)) (hr0 : 0 < r) (hfin : ∀ C : vw_C, cls0[ci]? = some C → (C.2.1 k).2.2.2 = false ∨ (md.1.name = "<init>" ∧ (C.2.1 k).1 = md.1.cls)) (ht : fty ci k = .long) (kk : WP l G Z md R kc ks (pc + 3) L S (sL h r k x)) : WP l G Z md R kc ks pc L (.long x :: .ref r :: S) h :=
  S_put (v := .long x) (h' := sL h r k x) hd hf hs hr0 hfin (by rw [ht]; rfl) (by rw [ht]; rfl) rfl (fun r' k' hne => ⟨rfl, up2_ne hne, rfl⟩) (by rw [ht]; exact congrArg Value.long up2_eq) kk
theorem S_putR {r ci n k idx r' : Nat} (hd : decode md.2.1 pc = .ok (.putfield idx, 3)) (hf : FLk md.1.cls idx ci k) (hs : h.1[r]? = some (ci, n)) (hr0 : 0 < r) (hfin : ∀ C : vw_C, cls0[ci]? = some C → (C.2.1 k).2.2.2 = false ∨ (md.1.name = "<init>" ∧ (C.2.1 k).1 = md.1.cls)) (hn : ∀ q, narrow (fty ci k) (.ref q) = .ref q) (hfit : ∀ q, fits (fty ci k) (.ref q) = true) (ht : ∀ h0 : Hp, tval G h0 (fty ci k) r k = rfv G (h0.2.2.2 r k)) (kk : WP l G Z md R kc ks (pc + 3) L S (sR h r k (some r'))) : WP l G Z md R kc ks pc L (.ref r' :: .ref r :: S) h :=
  S_put (v := .ref r') (h' := sR h r k (some r')) hd hf hs hr0 hfin (hn _) (hfit _) rfl (fun r' k' hne => ⟨rfl, rfl, up2_ne hne⟩) (by rw [ht]; show rfv G (up2 _ _ _ _ _ _) = _; rw [up2_eq]; rfl) kk
theorem S_iald {r n : Nat} {i : Int32} (hd : decode md.2.1 pc = .ok (.iaload, 1)) (hs : h.1[r]? = some (20, n)) (hi : inb i n) (kk : WP l G Z md R kc ks (pc + 1) L (.int (h.2.1 r i.toNatClampNeg) :: S) h) : WP l G Z md R kc ks pc L (.int i :: .ref r :: S) h := by
  intro p e s m args below meth c C ls H locs cells slots hl hh hS hc hk
  obtain ⟨cA, a1, a2, a3, -⟩ := hh.arr hs (by decide) (by decide)
  have hlt : i.toNatClampNeg < n := Nat.not_le.mp fun q => hi (Or.inr q)
  exact W.iald (v := .int (h.2.1 r i.toNatClampNeg)) C.1 C.2.1 a3 (a1 n _) (fun q => by cases q) (by rw [arrV_size]; exact hi) (by rw [arrV_read _ _ hlt]; rfl) rfl rfl hd (kk p e s m args below meth c C ls H locs cells slots hl hh hS hc hk)
theorem S_lald {r n : Nat} {i : Int32} (hd : decode md.2.1 pc = .ok (.laload, 1)) (hs : h.1[r]? = some (21, n)) (hi : inb i n) (kk : WP l G Z md R kc ks (pc + 1) L (.long (h.2.2.1 r i.toNatClampNeg) :: S) h) : WP l G Z md R kc ks pc L (.int i :: .ref r :: S) h := by
  intro p e s m args below meth c C ls H locs cells slots hl hh hS hc hk
  obtain ⟨cA, a1, a2, a3, -⟩ := hh.arr hs (by decide) (by decide)
  have hlt : i.toNatClampNeg < n := Nat.not_le.mp fun q => hi (Or.inr q)
  exact W.lald (v := .long (h.2.2.1 r i.toNatClampNeg)) C.1 C.2.1 a3 (a1 n _) (fun q => by cases q) (by rw [arrV_size]; exact hi) (by rw [arrV_read _ _ hlt]; rfl) rfl rfl hd (kk p e s m args below meth c C ls H locs cells slots hl hh hS hc hk)
theorem S_zald {r n : Nat} {i : Int32} (hd : decode md.2.1 pc = .ok (.baload, 1)) (hs : h.1[r]? = some (22, n)) (hi : inb i n) (kk : WP l G Z md R kc ks (pc + 1) L (.int (h.2.1 r i.toNatClampNeg) :: S) h) : WP l G Z md R kc ks pc L (.int i :: .ref r :: S) h := by
  intro p e s m args below meth c C ls H locs cells slots hl hh hS hc hk
  obtain ⟨cA, a1, a2, a3, -⟩ := hh.arr hs (by decide) (by decide)
  have hlt : i.toNatClampNeg < n := Nat.not_le.mp fun q => hi (Or.inr q)
  exact W.zald (v := .int (h.2.1 r i.toNatClampNeg)) C.1 C.2.1 a3 (a1 n _) (fun q => by cases q) (by rw [arrV_size]; exact hi) (by rw [arrV_read _ _ hlt]; rfl) rfl rfl hd (kk p e s m args below meth c C ls H locs cells slots hl hh hS hc hk)
theorem S_bald {r n : Nat} {i : Int32} (hd : decode md.2.1 pc = .ok (.baload, 1)) (hs : h.1[r]? = some (23, n)) (hi : inb i n) (kk : WP l G Z md R kc ks (pc + 1) L (.int (h.2.1 r i.toNatClampNeg) :: S) h) : WP l G Z md R kc ks pc L (.int i :: .ref r :: S) h := by
  intro p e s m args below meth c C ls H locs cells slots hl hh hS hc hk
  obtain ⟨cA, a1, a2, a3, -⟩ := hh.arr hs (by decide) (by decide)
  have hlt : i.toNatClampNeg < n := Nat.not_le.mp fun q => hi (Or.inr q)
  exact W.bald (v := .int (h.2.1 r i.toNatClampNeg)) C.1 C.2.1 a3 (a1 n _) (fun q => by cases q) (by rw [arrV_size]; exact hi) (by rw [arrV_read _ _ hlt]; rfl) rfl rfl hd (kk p e s m args below meth c C ls H locs cells slots hl hh hS hc hk)
theorem S_aald24 {r n : Nat} {i : Int32} {r' : Nat} (hd : decode md.2.1 pc = .ok (.aaload, 1)) (hs : h.1[r]? = some (24, n)) (hi : inb i n) (hr : h.2.2.2 r i.toNatClampNeg = some r') (kk : WP l G Z md R kc ks (pc + 1) L (.ref r' :: S) h) : WP l G Z md R kc ks pc L (.int i :: .ref r :: S) h := by
  intro p e s m args below meth c C ls H locs cells slots hl hh hS hc hk
  obtain ⟨cA, a1, a2, a3, -⟩ := hh.arr hs (by decide) (by decide)
  have hlt : i.toNatClampNeg < n := Nat.not_le.mp fun q => hi (Or.inr q)
  exact W.aald (v := cv G (.ref r')) C.1 C.2.1 a3 (a1 n _) rfl (fun q => by cases q) (by rw [arrV_size]; exact hi) (by rw [arrV_read _ _ hlt]; show some (rfv G _) = _; rw [hr]; rfl) rfl rfl hd (kk p e s m args below meth c C ls H locs cells slots hl hh hS hc hk)
theorem S_aald24N {r n : Nat} {i : Int32} (hd : decode md.2.1 pc = .ok (.aaload, 1)) (hs : h.1[r]? = some (24, n)) (hi : inb i n) (hr : h.2.2.2 r i.toNatClampNeg = none) (kk : WP l G Z md R kc ks (pc + 1) L (.null :: S) h) : WP l G Z md R kc ks pc L (.int i :: .ref r :: S) h := by
  intro p e s m args below meth c C ls H locs cells slots hl hh hS hc hk
  obtain ⟨cA, a1, a2, a3, -⟩ := hh.arr hs (by decide) (by decide)
  have hlt : i.toNatClampNeg < n := Nat.not_le.mp fun q => hi (Or.inr q)
  exact W.aald (v := .null) C.1 C.2.1 a3 (a1 n _) rfl (fun q => by cases q) (by rw [arrV_size]; exact hi) (by rw [arrV_read _ _ hlt]; show some (rfv G _) = _; rw [hr]; rfl) rfl rfl hd (kk p e s m args below meth c C ls H locs cells slots hl hh hS hc hk)
theorem S_aald25 {r n : Nat} {i : Int32} {r' : Nat} (hd : decode md.2.1 pc = .ok (.aaload, 1)) (hs : h.1[r]? = some (25, n)) (hi : inb i n) (hr : h.2.2.2 r i.toNatClampNeg = some r') (kk : WP l G Z md R kc ks (pc + 1) L (.ref r' :: S) h) : WP l G Z md R kc ks pc L (.int i :: .ref r :: S) h := by
  intro p e s m args below meth c C ls H locs cells slots hl hh hS hc hk
  obtain ⟨cA, a1, a2, a3, -⟩ := hh.arr hs (by decide) (by decide)
  have hlt : i.toNatClampNeg < n := Nat.not_le.mp fun q => hi (Or.inr q)
  exact W.aald (v := cv G (.ref r')) C.1 C.2.1 a3 (a1 n _) rfl (fun q => by cases q) (by rw [arrV_size]; exact hi) (by rw [arrV_read _ _ hlt]; show some (rfv G _) = _; rw [hr]; rfl) rfl rfl hd (kk p e s m args below meth c C ls H locs cells slots hl hh hS hc hk)
theorem S_aald25N {r n : Nat} {i : Int32} (hd : decode md.2.1 pc = .ok (.aaload, 1)) (hs : h.1[r]? = some (25, n)) (hi : inb i n) (hr : h.2.2.2 r i.toNatClampNeg = none) (kk : WP l G Z md R kc ks (pc + 1) L (.null :: S) h) : WP l G Z md R kc ks pc L (.int i :: .ref r :: S) h := by
  intro p e s m args below meth c C ls H locs cells slots hl hh hS hc hk
  obtain ⟨cA, a1, a2, a3, -⟩ := hh.arr hs (by decide) (by decide)
  have hlt : i.toNatClampNeg < n := Nat.not_le.mp fun q => hi (Or.inr q)
  exact W.aald (v := .null) C.1 C.2.1 a3 (a1 n _) rfl (fun q => by cases q) (by rw [arrV_size]; exact hi) (by rw [arrV_read _ _ hlt]; show some (rfv G _) = _; rw [hr]; rfl) rfl rfl hd (kk p e s m args below meth c C ls H locs cells slots hl hh hS hc hk)
theorem S_aald26 {r n : Nat} {i : Int32} {r' : Nat} (hd : decode md.2.1 pc = .ok (.aaload, 1)) (hs : h.1[r]? = some (26, n)) (hi : inb i n) (hr : h.2.2.2 r i.toNatClampNeg = some r') (kk : WP l G Z md R kc ks (pc + 1) L (.ref r' :: S) h) : WP l G Z md R kc ks pc L (.int i :: .ref r :: S) h := by
  intro p e s m args below meth c C ls H locs cells slots hl hh hS hc hk
  obtain ⟨cA, a1, a2, a3, -⟩ := hh.arr hs (by decide) (by decide)
  have hlt : i.toNatClampNeg < n := Nat.not_le.mp fun q => hi (Or.inr q)
  exact W.aald (v := cv G (.ref r')) C.1 C.2.1 a3 (a1 n _) rfl (fun q => by cases q) (by rw [arrV_size]; exact hi) (by rw [arrV_read _ _ hlt]; show some (rfv G _) = _; rw [hr]; rfl) rfl rfl hd (kk p e s m args below meth c C ls H locs cells slots hl hh hS hc hk)
theorem S_aald26N {r n : Nat} {i : Int32} (hd : decode md.2.1 pc = .ok (.aaload, 1)) (hs : h.1[r]? = some (26, n)) (hi : inb i n) (hr : h.2.2.2 r i.toNatClampNeg = none) (kk : WP l G Z md R kc ks (pc + 1) L (.null :: S) h) : WP l G Z md R kc ks pc L (.int i :: .ref r :: S) h := by
  intro p e s m args below meth c C ls H locs cells slots hl hh hS hc hk
  obtain ⟨cA, a1, a2, a3, -⟩ := hh.arr hs (by decide) (by decide)
  have hlt : i.toNatClampNeg < n := Nat.not_le.mp fun q => hi (Or.inr q)
  exact W.aald (v := .null) C.1 C.2.1 a3 (a1 n _) rfl (fun q => by cases q) (by rw [arrV_size]; exact hi) (by rw [arrV_read _ _ hlt]; show some (rfv G _) = _; rw [hr]; rfl) rfl rfl hd (kk p e s m args below meth c C ls H locs cells slots hl hh hS hc hk)
theorem S_scr {n : Nat} {i : Int32} (hd : decode md.2.1 pc = .ok (.iaload, 1)) (hs : h.1[0]? = some (30, n)) (hi : inb i n) (kk : WP l G Z md R kc ks (pc + 1) L (.int (h.2.1 0 i.toNatClampNeg) :: S) h) : WP l G Z md R kc ks pc L (.int i :: .ref 0 :: S) h := by
  intro p e s m args below meth c C ls H locs cells slots hl hh hS hc hk
  have c0 := hh.2.2 0 _ hs
  unfold cellOK at c0
  rw [if_neg (show ¬ (30 : Nat) < 13 by decide), if_neg (show ¬ (30 : Nat) < 30 by decide)] at c0
  obtain ⟨scr, h1, h2, h3, h4, h5⟩ := c0
  have hlt : i.toNatClampNeg < n := Nat.not_le.mp fun q => hi (Or.inr q)
  exact W.iald (v := .int (h.2.1 0 i.toNatClampNeg)) C.1 C.2.1 h1 h2 h3 (by rw [h4]; exact hi) (h5 _ hlt) rfl rfl hd (kk p e s m args below meth c C ls H locs cells slots hl hh hS hc hk)
theorem S_scrlen {n : Nat} (hd : decode md.2.1 pc = .ok (.arraylength, 1)) (hs : h.1[0]? = some (30, n)) (kk : WP l G Z md R kc ks (pc + 1) L (.int (nI n) :: S) h) : WP l G Z md R kc ks pc L (.ref 0 :: S) h := by
  intro p e s m args below meth c C ls H locs cells slots hl hh hS hc hk
  have c0 := hh.2.2 0 _ hs
  unfold cellOK at c0
  rw [if_neg (show ¬ (30 : Nat) < 13 by decide), if_neg (show ¬ (30 : Nat) < 30 by decide)] at c0
  obtain ⟨scr, h1, h2, h3, h4, h5⟩ := c0
  exact W.alen (n := nI n) C.1 C.2.1 h1 h2 (by rw [h4]; rfl) rfl rfl hd (kk p e s m args below meth c C ls H locs cells slots hl hh hS hc hk)
theorem S_alen {r kd n : Nat} (hd : decode md.2.1 pc = .ok (.arraylength, 1)) (hs : h.1[r]? = some (kd, n)) (h1 : ¬ kd < 13) (h2 : kd < 30) (kk : WP l G Z md R kc ks (pc + 1) L (.int (nI n) :: S) h) : WP l G Z md R kc ks pc L (.ref r :: S) h := by
  intro p e s m args below meth c C ls H locs cells slots hl hh hS hc hk
  obtain ⟨cA, a1, a2, a3, -⟩ := hh.arr hs h1 h2
  exact W.alen (n := nI n) C.1 C.2.1 a3 (a1 n _) (by rw [arrV_size]; rfl) rfl rfl hd (kk p e s m args below meth c C ls H locs cells slots hl hh hS hc hk)
/-- behind a store into an array -/
theorem HR.ast {U : State} {H H' : Heap} {r kd n j : Nat} {cA : ClassId} {h' : Hp} {v : Value} (hG : G.1 < G.2.1) (hh : HR G U h H) (hs : h.1[r]? = some (kd, n)) (k1 : ¬ kd < 13) (k2 : kd < 30) (a1 : ArrOfT U cA (aty kd)) (a2 : va_RA U cA (aty kd)) (e : H'[ad G r]? = some ((arrV cA n (fun k => tval G h (aty kd) r k)).setSlot j v)) (z : H'.size = H.size) (oq : ∀ q, q ≠ ad G r → H'[q]? = H[q]?) (h1 : h'.1 = h.1) (hsame : ∀ r' k', ¬ (r' = r ∧ k' = j) → h'.2.1 r' k' = h.2.1 r' k' ∧ h'.2.2.1 r' k' = h.2.2.1 r' k' ∧ h'.2.2.2 r' k' = h.2.2.2 r' k') (hv : tval G h' (aty kd) r j = v) (hb : kd = 23 → ∀ k, fits .byte (.int (h'.2.1 r k)) = true) : HR G U h' H' := by
  refine HR.upd hG hh h1 z oq (fun r' hne k' => hsame r' k' (fun q => hne q.1)) hs ?_
  unfold cellOK
  rw [if_neg k1, if_pos k2]
  refine ⟨cA, a1, a2, ?_, hb⟩
  rw [e, arrV_store]
  congr 2
  funext q
  by_cases hq : q = j
  · subst hq
    simp [updV, hv]
  · simp only [updV, if_neg hq]
    exact (tval_congr (hsame r q (fun w => hq w.2))).symm
theorem S_iast {r n : Nat} {i : Int32} {x : Int32} (hd : decode md.2.1 pc = .ok (.iastore, 1)) (hs : h.1[r]? = some (20, n)) (hr0 : 0 < r) (hi : inb i n) (kk : WP l G Z md R kc ks (pc + 1) L S (sI h r i.toNatClampNeg (x))) : WP l G Z md R kc ks pc L (.int x :: .int i :: .ref r :: S) h := by
  intro p e s m args below meth c C ls H locs cells slots hl hh hS hc hk
  have hG : G.1 < G.2.1 := C.2.2.2.2.2.2.2.2.2.1
  obtain ⟨cA, a1, a2, a3, a4⟩ := hh.arr hs (by decide) (by decide)
  refine W.iast C.1 C.2.1 a3 (a1 n _) (fun q => by cases q) (by rw [arrV_size]; exact hi) rfl rfl hd fun H1 e1 z1 o1 => ?_
  refine kk p e s m args below meth c C ls H1 _ cells slots hl ?_ (hS.put z1 o1 (by rw [ad_pos hr0]; omega)) hc hk
  exact HR.ast (h' := sI h r i.toNatClampNeg (x)) hG hh hs (by decide) (by decide) a1 a2 e1 z1 o1 rfl (fun r' k' hne => ⟨up2_ne hne, rfl, rfl⟩) (by first | rfl | exact congrArg Value.int up2_eq | exact congrArg Value.long up2_eq | (show Value.int (up2 _ _ _ _ _ _) = _; rw [up2_eq]; rfl)) (fun q => by cases q)
theorem S_last {r n : Nat} {i : Int32} {x : Int64} (hd : decode md.2.1 pc = .ok (.lastore, 1)) (hs : h.1[r]? = some (21, n)) (hr0 : 0 < r) (hi : inb i n) (kk : WP l G Z md R kc ks (pc + 1) L S (sL h r i.toNatClampNeg (x))) : WP l G Z md R kc ks pc L (.long x :: .int i :: .ref r :: S) h := by
  intro p e s m args below meth c C ls H locs cells slots hl hh hS hc hk
  have hG : G.1 < G.2.1 := C.2.2.2.2.2.2.2.2.2.1
  obtain ⟨cA, a1, a2, a3, a4⟩ := hh.arr hs (by decide) (by decide)
  refine W.last C.1 C.2.1 a3 (a1 n _) (fun q => by cases q) (by rw [arrV_size]; exact hi) rfl rfl hd fun H1 e1 z1 o1 => ?_
  refine kk p e s m args below meth c C ls H1 _ cells slots hl ?_ (hS.put z1 o1 (by rw [ad_pos hr0]; omega)) hc hk
  exact HR.ast (h' := sL h r i.toNatClampNeg (x)) hG hh hs (by decide) (by decide) a1 a2 e1 z1 o1 rfl (fun r' k' hne => ⟨rfl, up2_ne hne, rfl⟩) (by first | rfl | exact congrArg Value.int up2_eq | exact congrArg Value.long up2_eq | (show Value.int (up2 _ _ _ _ _ _) = _; rw [up2_eq]; rfl)) (fun q => by cases q)
theorem S_zast {r n : Nat} {i : Int32} {x : Int32} (hd : decode md.2.1 pc = .ok (.bastore, 1)) (hs : h.1[r]? = some (22, n)) (hr0 : 0 < r) (hi : inb i n) (kk : WP l G Z md R kc ks (pc + 1) L S (sI h r i.toNatClampNeg (vp_nar .boolean x))) : WP l G Z md R kc ks pc L (.int x :: .int i :: .ref r :: S) h := by
  intro p e s m args below meth c C ls H locs cells slots hl hh hS hc hk
  have hG : G.1 < G.2.1 := C.2.2.2.2.2.2.2.2.2.1
  obtain ⟨cA, a1, a2, a3, a4⟩ := hh.arr hs (by decide) (by decide)
  refine W.zast C.1 C.2.1 a3 (a1 n _) (fun q => by cases q) (by rw [arrV_size]; exact hi) rfl rfl hd fun H1 e1 z1 o1 => ?_
  refine kk p e s m args below meth c C ls H1 _ cells slots hl ?_ (hS.put z1 o1 (by rw [ad_pos hr0]; omega)) hc hk
  exact HR.ast (h' := sI h r i.toNatClampNeg (vp_nar .boolean x)) hG hh hs (by decide) (by decide) a1 a2 e1 z1 o1 rfl (fun r' k' hne => ⟨up2_ne hne, rfl, rfl⟩) (by first | rfl | exact congrArg Value.int up2_eq | exact congrArg Value.long up2_eq | (show Value.int (up2 _ _ _ _ _ _) = _; rw [up2_eq]; rfl)) (fun q => by cases q)
theorem S_bast {r n : Nat} {i : Int32} {x : Int32} (hd : decode md.2.1 pc = .ok (.bastore, 1)) (hs : h.1[r]? = some (23, n)) (hr0 : 0 < r) (hi : inb i n) (kk : WP l G Z md R kc ks (pc + 1) L S (sI h r i.toNatClampNeg (x.toInt8.toInt32))) : WP l G Z md R kc ks pc L (.int x :: .int i :: .ref r :: S) h := by
  intro p e s m args below meth c C ls H locs cells slots hl hh hS hc hk
  have hG : G.1 < G.2.1 := C.2.2.2.2.2.2.2.2.2.1
  obtain ⟨cA, a1, a2, a3, a4⟩ := hh.arr hs (by decide) (by decide)
  refine W.bast C.1 C.2.1 a3 (a1 n _) (fun q => by cases q) (by rw [arrV_size]; exact hi) rfl rfl hd fun H1 e1 z1 o1 => ?_
  refine kk p e s m args below meth c C ls H1 _ cells slots hl ?_ (hS.put z1 o1 (by rw [ad_pos hr0]; omega)) hc hk
  exact HR.ast (h' := sI h r i.toNatClampNeg (x.toInt8.toInt32)) hG hh hs (by decide) (by decide) a1 a2 e1 z1 o1 rfl (fun r' k' hne => ⟨up2_ne hne, rfl, rfl⟩) (by first | rfl | exact congrArg Value.int up2_eq | exact congrArg Value.long up2_eq | (show Value.int (up2 _ _ _ _ _ _) = _; rw [up2_eq]; rfl)) (fun _ k => by
    show fits .byte (.int (up2 _ _ _ _ _ _)) = true
    unfold up2
    split
    · exact pk_fb x
    · exact a4 rfl k)
theorem S_aast24 {r n r' n' : Nat} {i : Int32} (hd : decode md.2.1 pc = .ok (.aastore, 1)) (hs : h.1[r]? = some (24, n)) (hr0 : 0 < r) (hi : inb i n) (hs' : h.1[r']? = some (8, n')) (kk : WP l G Z md R kc ks (pc + 1) L S (sR h r i.toNatClampNeg (some r'))) : WP l G Z md R kc ks pc L (.ref r' :: .int i :: .ref r :: S) h := by
  intro p e s m args below meth c C ls H locs cells slots hl hh hS hc hk
  have hG : G.1 < G.2.1 := C.2.2.2.2.2.2.2.2.2.1
  obtain ⟨cA, a1, a2, a3, a4⟩ := hh.arr hs (by decide) (by decide)
  have hlt : i.toNatClampNeg < n := Nat.not_le.mp fun q => hi (Or.inr q)
  have h0 : ¬ i < 0 := fun q => hi (Or.inl q)
  obtain ⟨C1, hC1, hn1, cellV, g1, g2, g3, -⟩ := hh.obj hs' (by decide)
  have hC2 : cls0[8]? = some (RX8, TX8, 8) := rfl
  cases hC2.symm.trans hC1
  have hcls := (C.2.2.2.2.2.2.2.2.1 8 _ hC2).2
  obtain ⟨kA, comp, k1, k2, k3, k4⟩ := id a2
  have hcomp : comp = G.2.2.1 8 := Option.some.inj (k3.symm.trans hcls.1)
  subst hcomp
  obtain ⟨kC, hkC, -⟩ := hcls.2
  refine W.aast C.1 C.2.1 a3 (fun q h => by cases h) (fun h => by cases h) k1 k2 rfl hkC ⟨h0, by rw [arrV_size]; exact hlt⟩ g1 (fun q h => by rw [g3] at h; cases h) (by rw [g2]; exact hkC) (by rw [g2]; exact va_assign hcls) rfl rfl hd fun H1 e1 z1 o1 => ?_
  refine kk p e s m args below meth c C ls H1 _ cells slots hl ?_ (hS.put z1 o1 (by rw [ad_pos hr0]; omega)) hc hk
  exact HR.ast (h' := sR h r i.toNatClampNeg (some r')) hG hh hs (by decide) (by decide) a1 a2 e1 z1 o1 rfl (fun r' k' hne => ⟨rfl, rfl, up2_ne hne⟩) (by show rfv G (up2 _ _ _ _ _ _) = _; rw [up2_eq]; rfl) (fun q => by cases q)
theorem S_aast25 {r n r' n' : Nat} {i : Int32} (hd : decode md.2.1 pc = .ok (.aastore, 1)) (hs : h.1[r]? = some (25, n)) (hr0 : 0 < r) (hi : inb i n) (hs' : h.1[r']? = some (10, n')) (kk : WP l G Z md R kc ks (pc + 1) L S (sR h r i.toNatClampNeg (some r'))) : WP l G Z md R kc ks pc L (.ref r' :: .int i :: .ref r :: S) h := by
  intro p e s m args below meth c C ls H locs cells slots hl hh hS hc hk
  have hG : G.1 < G.2.1 := C.2.2.2.2.2.2.2.2.2.1
  obtain ⟨cA, a1, a2, a3, a4⟩ := hh.arr hs (by decide) (by decide)
  have hlt : i.toNatClampNeg < n := Nat.not_le.mp fun q => hi (Or.inr q)
  have h0 : ¬ i < 0 := fun q => hi (Or.inl q)
  obtain ⟨C1, hC1, hn1, cellV, g1, g2, g3, -⟩ := hh.obj hs' (by decide)
  have hC2 : cls0[10]? = some (RX10, TX10, 16) := rfl
  cases hC2.symm.trans hC1
  have hcls := (C.2.2.2.2.2.2.2.2.1 10 _ hC2).2
  obtain ⟨kA, comp, k1, k2, k3, k4⟩ := id a2
  have hcomp : comp = G.2.2.1 10 := Option.some.inj (k3.symm.trans hcls.1)
  subst hcomp
  obtain ⟨kC, hkC, -⟩ := hcls.2
  refine W.aast C.1 C.2.1 a3 (fun q h => by cases h) (fun h => by cases h) k1 k2 rfl hkC ⟨h0, by rw [arrV_size]; exact hlt⟩ g1 (fun q h => by rw [g3] at h; cases h) (by rw [g2]; exact hkC) (by rw [g2]; exact va_assign hcls) rfl rfl hd fun H1 e1 z1 o1 => ?_
  refine kk p e s m args below meth c C ls H1 _ cells slots hl ?_ (hS.put z1 o1 (by rw [ad_pos hr0]; omega)) hc hk
  exact HR.ast (h' := sR h r i.toNatClampNeg (some r')) hG hh hs (by decide) (by decide) a1 a2 e1 z1 o1 rfl (fun r' k' hne => ⟨rfl, rfl, up2_ne hne⟩) (by show rfv G (up2 _ _ _ _ _ _) = _; rw [up2_eq]; rfl) (fun q => by cases q)
theorem fty_nf : ∀ (ci : Nat) (C : vw_C), cls0[ci]? = some C → ∀ k, k < C.2.2 → fty ci k ≠ .float ∧ fty ci k ≠ .double
  | 0, _, h => by cases h; exact (by decide +kernel : ∀ k, k < 6 → fty 0 k ≠ .float ∧ fty 0 k ≠ .double)
  | 1, _, h => by cases h; exact (by decide +kernel : ∀ k, k < 1 → fty 1 k ≠ .float ∧ fty 1 k ≠ .double)
  | 2, _, h => by cases h; exact (by decide +kernel : ∀ k, k < 9 → fty 2 k ≠ .float ∧ fty 2 k ≠ .double)
  | 3, _, h => by cases h; exact (by decide +kernel : ∀ k, k < 3 → fty 3 k ≠ .float ∧ fty 3 k ≠ .double)
  | 4, _, h => by cases h; exact (by decide +kernel : ∀ k, k < 5 → fty 4 k ≠ .float ∧ fty 4 k ≠ .double)
  | 5, _, h => by cases h; exact (by decide +kernel : ∀ k, k < 3 → fty 5 k ≠ .float ∧ fty 5 k ≠ .double)
  | 6, _, h => by cases h; exact (by decide +kernel : ∀ k, k < 15 → fty 6 k ≠ .float ∧ fty 6 k ≠ .double)
  | 7, _, h => by cases h; exact (by decide +kernel : ∀ k, k < 6 → fty 7 k ≠ .float ∧ fty 7 k ≠ .double)
  | 8, _, h => by cases h; exact (by decide +kernel : ∀ k, k < 8 → fty 8 k ≠ .float ∧ fty 8 k ≠ .double)
  | 9, _, h => by cases h; exact (by decide +kernel : ∀ k, k < 15 → fty 9 k ≠ .float ∧ fty 9 k ≠ .double)
  | 10, _, h => by cases h; exact (by decide +kernel : ∀ k, k < 16 → fty 10 k ≠ .float ∧ fty 10 k ≠ .double)
  | 11, _, h => by cases h; exact (by decide +kernel : ∀ k, k < 16 → fty 11 k ≠ .float ∧ fty 11 k ≠ .double)
  | 12, _, h => by cases h; exact (by decide +kernel : ∀ k, k < 69 → fty 12 k ≠ .float ∧ fty 12 k ≠ .double)
  | k + 13, _, h => by simp [cls0] at h
theorem tval_nw {q : Nat × Nat} {ty : FieldType} {k : Nat} (hty : ty ≠ .float ∧ ty ≠ .double) : tval G (nw h q) ty h.1.length k = defaultValue ty := by
  cases ty <;> first | exact absurd rfl hty.1 | exact absurd rfl hty.2 | simp [tval, nw, zrow, defaultValue, rfv]
theorem cv_new {U : State} {H : Heap} (hh : HR G U h H) : cv G (.ref h.1.length) = .ref H.size := congrArg Value.ref (ad_new hh)
theorem vaS_new {s : State} {H H' : Heap} {locs : List Loc} (hS : va_S (fun q => G.2.1 ≤ q) s.heap H locs) (z : H'.size = H.size + 1) (o : ∀ q, q < H.size → H'[q]? = H[q]?) : va_S (fun q => G.2.1 ≤ q) s.heap H' locs :=
  ⟨Nat.le_trans hS.1 (by omega), fun q h1 h2 => (o q (Nat.lt_of_lt_of_le h1 hS.1)).trans (hS.2.1 q h1 h2), hS.2.2⟩
theorem S_new {ci idx : Nat} {C0 : vw_C} (hd : decode md.2.1 pc = .ok (.new idx, 3)) (hC : cls0[ci]? = some C0) (hl : Cond.classLink md.1.cls idx C0.1 ∈ lw_good) (hin : Cond.instantiable C0.1 C0.2.2 ∈ lw_good) (hini : Cond.initialized C0.1 ∈ lw_good) (kk : WP l G Z md R kc ks (pc + 3) L (.ref h.1.length :: S) (nw h (ci, C0.2.2))) : WP l G Z md R (kc + 1) (ks + C0.2.2) pc L S h := by
  intro p e s m args below meth c C ls H locs cells slots hL hh hS hc hk
  have hG : G.1 < G.2.1 := C.2.2.2.2.2.2.2.2.2.1
  have hts := C.2.2.2.2.2.1
  have hKn := C.2.2.2.2.2.2.2.2.1 ci _ hC
  obtain ⟨hlay, hty, -⟩ := cls_ok ci C0 hC
  have hci : ci < 13 := by
    have := (List.getElem?_eq_some_iff.mp hC).1
    simpa using this
  refine W.newcK C.1 C.2.1 C.2.2.2.2.1 (hts _ hl) (hts _ hin) (hts _ hini) rfl hd (by omega) (by omega) hKn.2.1 rfl fun H1 kC hkC e1 z1 o1 => ?_
  have K := kk p e s m args below meth c C ls H1 locs (cells + 1) (slots + C0.2.2) hL (HR.new hG hh z1 o1 ?_) (vaS_new hS z1 o1) (by omega) (by omega)
  · rw [List.map_cons, cv_new hh] at K
    exact K
  · unfold cellOK
    rw [if_pos hci]
    refine ⟨C0, hC, rfl, ?_⟩
    rw [ad_new hh]
    exact (u_born (fty ci) hts hlay hKn hkC e1 hty).to (fun k hk => (tval_nw (fty_nf ci C0 hC k hk)).symm)
theorem fits_b0 : fits .byte (.int 0) = true := by decide
theorem S_newa20 {n : Int32} {N : Nat} (hd : decode md.2.1 pc = .ok (.newarray .int, 2)) (hw : Cond.arrayClass .int ∈ lw_good) (hn : ¬ n < 0) (hN : n.toNatClampNeg = N) (hb : N * componentBytes .int ≤ 536870912) (kk : WP l G Z md R kc ks (pc + 2) L (.ref h.1.length :: S) (nw h (20, N))) : WP l G Z md R (kc + 1) (ks + N) pc L (.int n :: S) h := by
  intro p e s m args below meth c C ls H locs cells slots hL hh hS hc hk
  have hG : G.1 < G.2.1 := C.2.2.2.2.2.2.2.2.2.1
  refine va_newaK (atype := .int) C.1 C.2.1 (C.2.2.2.2.2.1 _ hw) (g := F0 m pc ls (.int n :: S.map (cv G))) rfl hd rfl hn hN hb (by omega) (by omega) rfl fun H1 cA e1 z1 o1 hA hf => ?_
  have K := kk p e s m args below meth c C ls H1 locs (cells + 1) (slots + N) hL (HR.new hG hh z1 o1 ?_) (vaS_new hS z1 o1) (by omega) (by omega)
  · rw [List.map_cons, cv_new hh] at K
    exact K
  · unfold cellOK
    rw [if_neg (show ¬ (20 : Nat) < 13 by decide), if_pos (show (20 : Nat) < 30 by decide)]
    refine ⟨cA, hA, hf, ?_, fun _ k => by simp [nw, zrow, fits_b0]⟩
    rw [ad_new hh, e1]
    exact congrArg (fun f => some (arrV cA N f)) (funext fun k => (tval_nw ⟨by decide, by decide⟩).symm)
theorem S_newa21 {n : Int32} {N : Nat} (hd : decode md.2.1 pc = .ok (.newarray .long, 2)) (hw : Cond.arrayClass .long ∈ lw_good) (hn : ¬ n < 0) (hN : n.toNatClampNeg = N) (hb : N * componentBytes .long ≤ 536870912) (kk : WP l G Z md R kc ks (pc + 2) L (.ref h.1.length :: S) (nw h (21, N))) : WP l G Z md R (kc + 1) (ks + N) pc L (.int n :: S) h := by
  intro p e s m args below meth c C ls H locs cells slots hL hh hS hc hk
  have hG : G.1 < G.2.1 := C.2.2.2.2.2.2.2.2.2.1
  refine va_newaK (atype := .long) C.1 C.2.1 (C.2.2.2.2.2.1 _ hw) (g := F0 m pc ls (.int n :: S.map (cv G))) rfl hd rfl hn hN hb (by omega) (by omega) rfl fun H1 cA e1 z1 o1 hA hf => ?_
  have K := kk p e s m args below meth c C ls H1 locs (cells + 1) (slots + N) hL (HR.new hG hh z1 o1 ?_) (vaS_new hS z1 o1) (by omega) (by omega)
  · rw [List.map_cons, cv_new hh] at K
    exact K
  · unfold cellOK
    rw [if_neg (show ¬ (21 : Nat) < 13 by decide), if_pos (show (21 : Nat) < 30 by decide)]
    refine ⟨cA, hA, hf, ?_, fun _ k => by simp [nw, zrow, fits_b0]⟩
    rw [ad_new hh, e1]
    exact congrArg (fun f => some (arrV cA N f)) (funext fun k => (tval_nw ⟨by decide, by decide⟩).symm)
theorem S_newa22 {n : Int32} {N : Nat} (hd : decode md.2.1 pc = .ok (.newarray .boolean, 2)) (hw : Cond.arrayClass .boolean ∈ lw_good) (hn : ¬ n < 0) (hN : n.toNatClampNeg = N) (hb : N * componentBytes .boolean ≤ 536870912) (kk : WP l G Z md R kc ks (pc + 2) L (.ref h.1.length :: S) (nw h (22, N))) : WP l G Z md R (kc + 1) (ks + N) pc L (.int n :: S) h := by
  intro p e s m args below meth c C ls H locs cells slots hL hh hS hc hk
  have hG : G.1 < G.2.1 := C.2.2.2.2.2.2.2.2.2.1
  refine va_newaK (atype := .boolean) C.1 C.2.1 (C.2.2.2.2.2.1 _ hw) (g := F0 m pc ls (.int n :: S.map (cv G))) rfl hd rfl hn hN hb (by omega) (by omega) rfl fun H1 cA e1 z1 o1 hA hf => ?_
  have K := kk p e s m args below meth c C ls H1 locs (cells + 1) (slots + N) hL (HR.new hG hh z1 o1 ?_) (vaS_new hS z1 o1) (by omega) (by omega)
  · rw [List.map_cons, cv_new hh] at K
    exact K
  · unfold cellOK
    rw [if_neg (show ¬ (22 : Nat) < 13 by decide), if_pos (show (22 : Nat) < 30 by decide)]
    refine ⟨cA, hA, hf, ?_, fun _ k => by simp [nw, zrow, fits_b0]⟩
    rw [ad_new hh, e1]
    exact congrArg (fun f => some (arrV cA N f)) (funext fun k => (tval_nw ⟨by decide, by decide⟩).symm)
theorem S_newa23 {n : Int32} {N : Nat} (hd : decode md.2.1 pc = .ok (.newarray .byte, 2)) (hw : Cond.arrayClass .byte ∈ lw_good) (hn : ¬ n < 0) (hN : n.toNatClampNeg = N) (hb : N * componentBytes .byte ≤ 536870912) (kk : WP l G Z md R kc ks (pc + 2) L (.ref h.1.length :: S) (nw h (23, N))) : WP l G Z md R (kc + 1) (ks + N) pc L (.int n :: S) h := by
  intro p e s m args below meth c C ls H locs cells slots hL hh hS hc hk
  have hG : G.1 < G.2.1 := C.2.2.2.2.2.2.2.2.2.1
  refine va_newaK (atype := .byte) C.1 C.2.1 (C.2.2.2.2.2.1 _ hw) (g := F0 m pc ls (.int n :: S.map (cv G))) rfl hd rfl hn hN hb (by omega) (by omega) rfl fun H1 cA e1 z1 o1 hA hf => ?_
  have K := kk p e s m args below meth c C ls H1 locs (cells + 1) (slots + N) hL (HR.new hG hh z1 o1 ?_) (vaS_new hS z1 o1) (by omega) (by omega)
  · rw [List.map_cons, cv_new hh] at K
    exact K
  · unfold cellOK
    rw [if_neg (show ¬ (23 : Nat) < 13 by decide), if_pos (show (23 : Nat) < 30 by decide)]
    refine ⟨cA, hA, hf, ?_, fun _ k => by simp [nw, zrow, fits_b0]⟩
    rw [ad_new hh, e1]
    exact congrArg (fun f => some (arrV cA N f)) (funext fun k => (tval_nw ⟨by decide, by decide⟩).symm)
theorem S_anew24 {n : Int32} {N idx : Nat} (hd : decode md.2.1 pc = .ok (.anewarray idx, 3)) (hw : Cond.classLink md.1.cls idx RX8 ∈ lw_good) (hn : ¬ n < 0) (hN : n.toNatClampNeg = N) (hb : N * 4 ≤ 536870912) (kk : WP l G Z md R kc ks (pc + 3) L (.ref h.1.length :: S) (nw h (24, N))) : WP l G Z md R (kc + 1) (ks + N) pc L (.int n :: S) h := by
  intro p e s m args below meth c C ls H locs cells slots hL hh hS hc hk
  have hG : G.1 < G.2.1 := C.2.2.2.2.2.2.2.2.2.1
  subst hN
  have hAO : va_AO RX8 s := C.2.2.2.2.2.2.2.2.2.2.2.2.1
  refine W.anew C.1 C.2.1 C.2.2.2.2.1 (C.2.2.2.2.2.1 _ hw) (va_AO.use hAO) (g := F0 m pc ls (.int n :: S.map (cv G))) rfl hd rfl hn hb (by omega) (by omega) fun cA kA comp f1 f2 f3 f4 => ?_
  generalize hH1 : H.push ({ cls := cA, slots := Array.replicate n.toNatClampNeg .null, vm := .none } : Cell) = H1
  have z1 : H1.size = H.size + 1 := by rw [← hH1, Array.size_push]
  have e1 : H1[H.size]? = some (arrV cA n.toNatClampNeg (fun _ => .null)) := by rw [← hH1, Array.getElem?_push_size, ← arrV_new]
  have o1 : ∀ q : Nat, q < H.size → H1[q]? = H[q]? := fun q hq => by rw [← hH1, Array.getElem?_push, if_neg (Nat.ne_of_lt hq)]
  have hAr : ArrOfT s cA (.object RX8) := fun N z => ⟨(fun k h => by cases h), kA, f2, comp, f3⟩
  have K := kk p e s m args below meth c C ls H1 locs (cells + 1) (slots + n.toNatClampNeg) hL (HR.new hG hh z1 o1 ?_) (vaS_new hS z1 o1) (by omega) (by omega)
  · rw [List.map_cons, cv_new hh] at K
    exact K
  · unfold cellOK
    rw [if_neg (show ¬ (24 : Nat) < 13 by decide), if_pos (show (24 : Nat) < 30 by decide)]
    refine ⟨cA, hAr, ⟨kA, comp, f2, f3, f4, f1⟩, ?_, fun q => by cases q⟩
    rw [ad_new hh, e1]
    exact congrArg (fun f => some (arrV cA n.toNatClampNeg f)) (funext fun k => (tval_nw (ty := .object RX8) ⟨by decide, by decide⟩).symm)
theorem S_anew25 {n : Int32} {N idx : Nat} (hd : decode md.2.1 pc = .ok (.anewarray idx, 3)) (hw : Cond.classLink md.1.cls idx RX10 ∈ lw_good) (hn : ¬ n < 0) (hN : n.toNatClampNeg = N) (hb : N * 4 ≤ 536870912) (kk : WP l G Z md R kc ks (pc + 3) L (.ref h.1.length :: S) (nw h (25, N))) : WP l G Z md R (kc + 1) (ks + N) pc L (.int n :: S) h := by
  intro p e s m args below meth c C ls H locs cells slots hL hh hS hc hk
  have hG : G.1 < G.2.1 := C.2.2.2.2.2.2.2.2.2.1
  subst hN
  have hAO : va_AO RX10 s := C.2.2.2.2.2.2.2.2.2.2.2.2.2.1
  refine W.anew C.1 C.2.1 C.2.2.2.2.1 (C.2.2.2.2.2.1 _ hw) (va_AO.use hAO) (g := F0 m pc ls (.int n :: S.map (cv G))) rfl hd rfl hn hb (by omega) (by omega) fun cA kA comp f1 f2 f3 f4 => ?_
  generalize hH1 : H.push ({ cls := cA, slots := Array.replicate n.toNatClampNeg .null, vm := .none } : Cell) = H1
  have z1 : H1.size = H.size + 1 := by rw [← hH1, Array.size_push]
  have e1 : H1[H.size]? = some (arrV cA n.toNatClampNeg (fun _ => .null)) := by rw [← hH1, Array.getElem?_push_size, ← arrV_new]
  have o1 : ∀ q : Nat, q < H.size → H1[q]? = H[q]? := fun q hq => by rw [← hH1, Array.getElem?_push, if_neg (Nat.ne_of_lt hq)]
  have hAr : ArrOfT s cA (.object RX10) := fun N z => ⟨(fun k h => by cases h), kA, f2, comp, f3⟩
  have K := kk p e s m args below meth c C ls H1 locs (cells + 1) (slots + n.toNatClampNeg) hL (HR.new hG hh z1 o1 ?_) (vaS_new hS z1 o1) (by omega) (by omega)
  · rw [List.map_cons, cv_new hh] at K
    exact K
  · unfold cellOK
    rw [if_neg (show ¬ (25 : Nat) < 13 by decide), if_pos (show (25 : Nat) < 30 by decide)]
    refine ⟨cA, hAr, ⟨kA, comp, f2, f3, f4, f1⟩, ?_, fun q => by cases q⟩
    rw [ad_new hh, e1]
    exact congrArg (fun f => some (arrV cA n.toNatClampNeg f)) (funext fun k => (tval_nw (ty := .object RX10) ⟨by decide, by decide⟩).symm)
/-- new int[N][K]: the outer row, then the inner ones -/
def nwm (h : Hp) (N K : Nat) : Hp := (h.1 ++ ((26, N) :: List.replicate N (20, K)), (fun a b => if h.1.length ≤ a then 0 else h.2.1 a b), (fun a b => if h.1.length ≤ a then 0 else h.2.2.1 a b), (fun a b => if a = h.1.length then (if b < N then some (h.1.length + 1 + b) else none) else if h.1.length ≤ a then none else h.2.2.2 a b))
theorem mn_outer (c : ClassId) (N h0 : Nat) : ∀ i : Nat, Jvm.Free.Multi.outerC c N h0 i = arrV c N (fun j => if j < i then .ref (h0 + 1 + j) else .null)
  | 0 => by
    show ({ cls := c, slots := Array.replicate N .null, vm := .none } : Cell) = _
    rw [arrV_new]
    refine congrArg (arrV c N) (funext fun j => ?_)
    simp
  | i + 1 => by
    show (Jvm.Free.Multi.outerC c N h0 i).setSlot i (.ref (h0 + 1 + i)) = _
    rw [mn_outer c N h0 i, arrV_store]
    refine congrArg (arrV c N) (funext fun j => ?_)
    by_cases e : j = i
    · subst e
      simp [updV]
    · by_cases h : j < i
      · simp [updV, e, h, Nat.lt_succ_of_lt h]
      · simp [updV, e, h, show ¬ j < i + 1 by omega]
theorem S_mna {n k : Int32} {N K idx : Nat} (hd : decode md.2.1 pc = .ok (.multianewarray idx 2, 4)) (hw : Cond.classLink md.1.cls idx ("[" ++ (FieldType.array FieldType.int).toString) ∈ lw_good) (ha : Cond.arrayClass .int ∈ lw_good) (hn : ¬ n < 0) (hk0 : ¬ k < 0) (hN : n.toNatClampNeg = N) (hK : k.toNatClampNeg = K) (hb1 : N * 4 ≤ 536870912) (hb2 : K * 4 ≤ 536870912) (hb3 : K ≤ 536870912) (kk : WP l G Z md R kc ks (pc + 4) L (.ref h.1.length :: S) (nwm h N K)) : WP l G Z md R (kc + 1 + N) (ks + N + N * K) pc L (.int k :: .int n :: S) h := by
  intro p e s m args below meth c C ls H locs cells slots hL hh hS hc hk
  have hG : G.1 < G.2.1 := C.2.2.2.2.2.2.2.2.2.1
  subst hN
  subst hK
  have hAOI : AOI s := C.2.2.2.2.2.2.2.2.2.2.2.2.2.2.1
  intro T hT X
  obtain ⟨vm₁, cA, comp, -, fA, fC, hO, hIn, X', step⟩ := X.multianewarray2F (ty := .int) C.1 C.2.2.2.2.1 (C.2.2.2.2.2.1 _ hw) hAOI (C.2.2.2.2.2.1 _ ha) (g := F0 m pc ls (.int k :: .int n :: S.map (cv G))) rfl (by rw [C.2.1]; exact hd) rfl hn hk0 hb1 hb2 hb3 rfl rfl (by omega) (by omega)
  generalize hF : Jvm.Free.Multi.fill (T.setVm vm₁) cA comp n.toNatClampNeg k.toNatClampNeg (defaultValue .int) n.toNatClampNeg = F at X' step
  have hTh : (T.setVm vm₁).heap = H := hT
  obtain ⟨f1, f2, -, -⟩ := Jvm.Free.Multi.fill_facts (T.setVm vm₁) cA comp n.toNatClampNeg k.toNatClampNeg (defaultValue .int) n.toNatClampNeg
  rw [hF, hTh] at f1 f2
  have hold : ∀ x : Nat, x < H.size → F.heap[x]? = H[x]? := fun x hx => by
    have := Jvm.Free.Multi.fill_old (T.setVm vm₁) cA comp n.toNatClampNeg k.toNatClampNeg (defaultValue .int) (a := x) (by rw [hTh]; exact hx) n.toNatClampNeg
    rw [hF, hTh] at this
    exact this
  have hrow : ∀ j : Nat, j < n.toNatClampNeg → F.heap[H.size + 1 + j]? = some (arrV comp k.toNatClampNeg (fun _ => .int 0)) := fun j hj => by
    have := Jvm.Free.Multi.fill_inner (T.setVm vm₁) cA comp n.toNatClampNeg k.toNatClampNeg (defaultValue .int) n.toNatClampNeg j hj
    rw [hF, hTh] at this
    rw [this]
    exact congrArg some (arrV_new comp k.toNatClampNeg (.int 0))
  rw [mn_outer] at f2
  have hsz := hh.1
  have hps := hh.2.1
  have hAr : ArrOfT s cA (.array .int) := fun N9 z9 => by
    obtain ⟨-, k9, hk9, cm9, hkk9⟩ := (hO 0 0 0).1
    exact ⟨(fun q hq => by cases hq), k9, hk9, cm9, hkk9⟩
  have hAi : ArrOfT s comp .int := fun N9 z9 => by
    obtain ⟨-, k9, hk9, cm9, hkk9⟩ := (hIn 0 (.int 0)).1
    exact ⟨(fun q hq => by cases hq), k9, hk9, cm9, hkk9⟩
  have hR : HR G s (nwm h n.toNatClampNeg k.toNatClampNeg) F.heap := by
    refine ⟨?_, ?_, fun r q hq => ?_⟩
    · show F.heap.size + 1 = G.2.1 + (h.1 ++ _).length
      rw [List.length_append, List.length_cons, List.length_replicate, f1]
      omega
    · show 0 < (h.1 ++ _).length
      rw [List.length_append]
      omega
    · replace hq : (h.1 ++ ((26, n.toNatClampNeg) :: List.replicate n.toNatClampNeg (20, k.toNatClampNeg)))[r]? = some q := hq
      by_cases e0 : r < h.1.length
      · rw [List.getElem?_append_left e0] at hq
        refine (hh.2.2 r q hq).kept (hold _ (ad_old hG hh e0)) (fun j => ?_)
        have hne : r ≠ h.1.length := by omega
        have hle : ¬ h.1.length ≤ r := by omega
        simp [nwm, hne, hle]
      · rw [List.getElem?_append_right (by omega)] at hq
        by_cases e1 : r = h.1.length
        · subst e1
          simp at hq
          subst hq
          unfold cellOK
          rw [if_neg (show ¬ (26 : Nat) < 13 by decide), if_pos (show (26 : Nat) < 30 by decide)]
          refine ⟨cA, hAr, fA, ?_, fun q => by cases q⟩
          rw [ad_new hh, f2]
          refine congrArg (fun f => some (arrV cA n.toNatClampNeg f)) (funext fun j => ?_)
          show _ = rfv G ((nwm h n.toNatClampNeg k.toNatClampNeg).2.2.2 h.1.length j)
          by_cases hj : j < n.toNatClampNeg
          · simp only [nwm, if_pos hj, if_true, rfv]
            have e6 : ad G (h.1.length + 1 + j) = H.size + 1 + j := by
              rw [ad_pos (by omega)]
              omega
            rw [e6]
          · simp only [nwm, if_neg hj, if_true, rfv]
        · have e2 : r - h.1.length = (r - h.1.length - 1) + 1 := by omega
          rw [e2, List.getElem?_cons_succ] at hq
          have hlt := (List.getElem?_eq_some_iff.mp hq).1
          rw [List.length_replicate] at hlt
          rw [List.getElem?_replicate, if_pos hlt] at hq
          cases hq
          unfold cellOK
          rw [if_neg (show ¬ (20 : Nat) < 13 by decide), if_pos (show (20 : Nat) < 30 by decide)]
          refine ⟨comp, hAi, fC, ?_, fun q => by cases q⟩
          have e3 : ad G r = H.size + 1 + (r - h.1.length - 1) := by
            rw [ad_pos (by omega)]
            omega
          rw [e3, hrow _ hlt]
          refine congrArg (fun f => some (arrV comp k.toNatClampNeg f)) (funext fun j => ?_)
          have hle : h.1.length ≤ r := by omega
          simp [tval, aty, nwm, hle]
  obtain ⟨t, a1, b1⟩ := kk p e s m args below meth c C ls F.heap locs (cells + 1 + n.toNatClampNeg) (slots + n.toNatClampNeg + n.toNatClampNeg * k.toNatClampNeg) hL hR ⟨by rw [f1]; have := hS.1; omega, fun x h1 h2 => (hold x (Nat.lt_of_lt_of_le h1 hS.1)).trans (hS.2.1 x h1 h2), hS.2.2⟩ (by omega) (by omega) F rfl X'
  refine ⟨t, step t ?_, b1⟩
  rw [List.map_cons, cv_new hh] at a1
  have e5 : T.heap.size = H.size := by rw [hT]
  rw [e5]
  exact a1
end SH
