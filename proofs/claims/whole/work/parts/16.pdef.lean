theorem ne_sh {sh : Sh} {a b : Nat} {q1 q2 : Nat × Nat} (h1 : sh[a]? = some q1) (h2 : sh[b]? = some q2) (hne : q1 ≠ q2) : ¬ a = b := fun e => hne (by rw [e, h2] at h1; exact (Option.some.inj h1).symm)
theorem cpy_r {f : FI} {r r1 r2 k sp dp n : Nat} (h : r ≠ r2) : cpy f r1 r2 sp dp n r k = f r k := if_neg h
theorem acR {d : Nat} {S : List Value} (h : Nat.ble ((S.map fun v => v.category).sum) 8 = true := by rfl) : 1 ≤ (rmd (d + 1) 0 0).frames ∧ (S.map fun v => v.category).sum + (nativeFrameWords "java/lang/System" "arraycopy" 5 + 11) ≤ (rmd (d + 1) 0 0).locals := by
  refine ⟨by show 1 ≤ d + 1; omega, ?_⟩
  have h1 := Nat.le_of_ble_eq_true h
  have h2 : nativeFrameWords "java/lang/System" "arraycopy" 5 ≤ 40 := by decide
  show _ ≤ 64 * (d + 1)
  omega
def wSh : List (Nat × Nat) := [(10, 16), (24, 4), (7, 6), (23, 200), (20, 4), (2, 9), (20, 512), (20, 512), (20, 512), (20, 512), (20, 512), (20, 512), (22, 512), (22, 512), (0, 6), (20, 512), (20, 512), (20, 512), (20, 512), (20, 512), (5, 3), (20, 512), (20, 512), (4, 5), (20, 40), (20, 40), (20, 40), (20, 10), (8, 8), (8, 8), (8, 8), (8, 8)]
def wFR : List (Nat × Nat × Nat) := [(0, 0, 1), (0, 1, 2), (0, 2, 5), (0, 3, 14), (0, 4, 20), (0, 5, 23), (0, 6, 27), (2, 0, 3), (2, 1, 4), (5, 0, 6), (5, 1, 7), (5, 2, 8), (5, 3, 9), (5, 4, 10), (5, 5, 11), (5, 6, 12), (5, 7, 13), (14, 0, 15), (14, 1, 16), (14, 2, 17), (14, 3, 18), (14, 4, 19), (20, 0, 21), (20, 1, 22), (23, 0, 24), (23, 1, 25), (23, 2, 26), (1, 0, 28), (1, 1, 29), (1, 2, 30), (1, 3, 31)]
def StW (sh : Sh) (fR : FRt) (x : Nat) : Prop := (∀ (i : Nat) (z : Nat × Nat), wSh[i]? = some z → sh[x + i]? = some z) ∧ (∀ z ∈ wFR, fR (x + z.1) z.2.1 = some (x + z.2.2)) ∧ 0 < x
theorem sW_0 {sh : Sh} {fR : FRt} {x : Nat} (hs : StW sh fR x) : sh[x]? = some (10, 16) := hs.1 0 _ rfl
theorem sW_1 {sh : Sh} {fR : FRt} {x : Nat} (hs : StW sh fR x) : sh[x + 1]? = some (24, 4) := hs.1 1 _ rfl
theorem sW_2 {sh : Sh} {fR : FRt} {x : Nat} (hs : StW sh fR x) : sh[x + 2]? = some (7, 6) := hs.1 2 _ rfl
theorem sW_3 {sh : Sh} {fR : FRt} {x : Nat} (hs : StW sh fR x) : sh[x + 3]? = some (23, 200) := hs.1 3 _ rfl
theorem sW_4 {sh : Sh} {fR : FRt} {x : Nat} (hs : StW sh fR x) : sh[x + 4]? = some (20, 4) := hs.1 4 _ rfl
theorem sW_5 {sh : Sh} {fR : FRt} {x : Nat} (hs : StW sh fR x) : sh[x + 5]? = some (2, 9) := hs.1 5 _ rfl
theorem sW_6 {sh : Sh} {fR : FRt} {x : Nat} (hs : StW sh fR x) : sh[x + 6]? = some (20, 512) := hs.1 6 _ rfl
theorem sW_7 {sh : Sh} {fR : FRt} {x : Nat} (hs : StW sh fR x) : sh[x + 7]? = some (20, 512) := hs.1 7 _ rfl
theorem sW_8 {sh : Sh} {fR : FRt} {x : Nat} (hs : StW sh fR x) : sh[x + 8]? = some (20, 512) := hs.1 8 _ rfl
theorem sW_9 {sh : Sh} {fR : FRt} {x : Nat} (hs : StW sh fR x) : sh[x + 9]? = some (20, 512) := hs.1 9 _ rfl
theorem sW_10 {sh : Sh} {fR : FRt} {x : Nat} (hs : StW sh fR x) : sh[x + 10]? = some (20, 512) := hs.1 10 _ rfl
theorem sW_11 {sh : Sh} {fR : FRt} {x : Nat} (hs : StW sh fR x) : sh[x + 11]? = some (20, 512) := hs.1 11 _ rfl
theorem sW_12 {sh : Sh} {fR : FRt} {x : Nat} (hs : StW sh fR x) : sh[x + 12]? = some (22, 512) := hs.1 12 _ rfl
theorem sW_13 {sh : Sh} {fR : FRt} {x : Nat} (hs : StW sh fR x) : sh[x + 13]? = some (22, 512) := hs.1 13 _ rfl
theorem sW_14 {sh : Sh} {fR : FRt} {x : Nat} (hs : StW sh fR x) : sh[x + 14]? = some (0, 6) := hs.1 14 _ rfl
theorem sW_15 {sh : Sh} {fR : FRt} {x : Nat} (hs : StW sh fR x) : sh[x + 15]? = some (20, 512) := hs.1 15 _ rfl
theorem sW_16 {sh : Sh} {fR : FRt} {x : Nat} (hs : StW sh fR x) : sh[x + 16]? = some (20, 512) := hs.1 16 _ rfl
theorem sW_17 {sh : Sh} {fR : FRt} {x : Nat} (hs : StW sh fR x) : sh[x + 17]? = some (20, 512) := hs.1 17 _ rfl
theorem sW_18 {sh : Sh} {fR : FRt} {x : Nat} (hs : StW sh fR x) : sh[x + 18]? = some (20, 512) := hs.1 18 _ rfl
theorem sW_19 {sh : Sh} {fR : FRt} {x : Nat} (hs : StW sh fR x) : sh[x + 19]? = some (20, 512) := hs.1 19 _ rfl
theorem sW_20 {sh : Sh} {fR : FRt} {x : Nat} (hs : StW sh fR x) : sh[x + 20]? = some (5, 3) := hs.1 20 _ rfl
theorem sW_21 {sh : Sh} {fR : FRt} {x : Nat} (hs : StW sh fR x) : sh[x + 21]? = some (20, 512) := hs.1 21 _ rfl
theorem sW_22 {sh : Sh} {fR : FRt} {x : Nat} (hs : StW sh fR x) : sh[x + 22]? = some (20, 512) := hs.1 22 _ rfl
theorem sW_23 {sh : Sh} {fR : FRt} {x : Nat} (hs : StW sh fR x) : sh[x + 23]? = some (4, 5) := hs.1 23 _ rfl
theorem sW_24 {sh : Sh} {fR : FRt} {x : Nat} (hs : StW sh fR x) : sh[x + 24]? = some (20, 40) := hs.1 24 _ rfl
theorem sW_25 {sh : Sh} {fR : FRt} {x : Nat} (hs : StW sh fR x) : sh[x + 25]? = some (20, 40) := hs.1 25 _ rfl
theorem sW_26 {sh : Sh} {fR : FRt} {x : Nat} (hs : StW sh fR x) : sh[x + 26]? = some (20, 40) := hs.1 26 _ rfl
theorem sW_27 {sh : Sh} {fR : FRt} {x : Nat} (hs : StW sh fR x) : sh[x + 27]? = some (20, 10) := hs.1 27 _ rfl
theorem sW_28 {sh : Sh} {fR : FRt} {x : Nat} (hs : StW sh fR x) : sh[x + 28]? = some (8, 8) := hs.1 28 _ rfl
theorem sW_29 {sh : Sh} {fR : FRt} {x : Nat} (hs : StW sh fR x) : sh[x + 29]? = some (8, 8) := hs.1 29 _ rfl
theorem sW_30 {sh : Sh} {fR : FRt} {x : Nat} (hs : StW sh fR x) : sh[x + 30]? = some (8, 8) := hs.1 30 _ rfl
theorem sW_31 {sh : Sh} {fR : FRt} {x : Nat} (hs : StW sh fR x) : sh[x + 31]? = some (8, 8) := hs.1 31 _ rfl
theorem rW_0_0 {sh : Sh} {fR : FRt} {x : Nat} (hs : StW sh fR x) : fR x 0 = some (x + 1) := hs.2.1 (0, 0, 1) (by decide)
theorem rW_0_1 {sh : Sh} {fR : FRt} {x : Nat} (hs : StW sh fR x) : fR x 1 = some (x + 2) := hs.2.1 (0, 1, 2) (by decide)
theorem rW_0_2 {sh : Sh} {fR : FRt} {x : Nat} (hs : StW sh fR x) : fR x 2 = some (x + 5) := hs.2.1 (0, 2, 5) (by decide)
theorem rW_0_3 {sh : Sh} {fR : FRt} {x : Nat} (hs : StW sh fR x) : fR x 3 = some (x + 14) := hs.2.1 (0, 3, 14) (by decide)
theorem rW_0_4 {sh : Sh} {fR : FRt} {x : Nat} (hs : StW sh fR x) : fR x 4 = some (x + 20) := hs.2.1 (0, 4, 20) (by decide)
theorem rW_0_5 {sh : Sh} {fR : FRt} {x : Nat} (hs : StW sh fR x) : fR x 5 = some (x + 23) := hs.2.1 (0, 5, 23) (by decide)
theorem rW_0_6 {sh : Sh} {fR : FRt} {x : Nat} (hs : StW sh fR x) : fR x 6 = some (x + 27) := hs.2.1 (0, 6, 27) (by decide)
theorem rW_2_0 {sh : Sh} {fR : FRt} {x : Nat} (hs : StW sh fR x) : fR (x + 2) 0 = some (x + 3) := hs.2.1 (2, 0, 3) (by decide)
theorem rW_2_1 {sh : Sh} {fR : FRt} {x : Nat} (hs : StW sh fR x) : fR (x + 2) 1 = some (x + 4) := hs.2.1 (2, 1, 4) (by decide)
theorem rW_5_0 {sh : Sh} {fR : FRt} {x : Nat} (hs : StW sh fR x) : fR (x + 5) 0 = some (x + 6) := hs.2.1 (5, 0, 6) (by decide)
theorem rW_5_1 {sh : Sh} {fR : FRt} {x : Nat} (hs : StW sh fR x) : fR (x + 5) 1 = some (x + 7) := hs.2.1 (5, 1, 7) (by decide)
theorem rW_5_2 {sh : Sh} {fR : FRt} {x : Nat} (hs : StW sh fR x) : fR (x + 5) 2 = some (x + 8) := hs.2.1 (5, 2, 8) (by decide)
theorem rW_5_3 {sh : Sh} {fR : FRt} {x : Nat} (hs : StW sh fR x) : fR (x + 5) 3 = some (x + 9) := hs.2.1 (5, 3, 9) (by decide)
theorem rW_5_4 {sh : Sh} {fR : FRt} {x : Nat} (hs : StW sh fR x) : fR (x + 5) 4 = some (x + 10) := hs.2.1 (5, 4, 10) (by decide)
theorem rW_5_5 {sh : Sh} {fR : FRt} {x : Nat} (hs : StW sh fR x) : fR (x + 5) 5 = some (x + 11) := hs.2.1 (5, 5, 11) (by decide)
theorem rW_5_6 {sh : Sh} {fR : FRt} {x : Nat} (hs : StW sh fR x) : fR (x + 5) 6 = some (x + 12) := hs.2.1 (5, 6, 12) (by decide)
theorem rW_5_7 {sh : Sh} {fR : FRt} {x : Nat} (hs : StW sh fR x) : fR (x + 5) 7 = some (x + 13) := hs.2.1 (5, 7, 13) (by decide)
theorem rW_14_0 {sh : Sh} {fR : FRt} {x : Nat} (hs : StW sh fR x) : fR (x + 14) 0 = some (x + 15) := hs.2.1 (14, 0, 15) (by decide)
theorem rW_14_1 {sh : Sh} {fR : FRt} {x : Nat} (hs : StW sh fR x) : fR (x + 14) 1 = some (x + 16) := hs.2.1 (14, 1, 16) (by decide)
theorem rW_14_2 {sh : Sh} {fR : FRt} {x : Nat} (hs : StW sh fR x) : fR (x + 14) 2 = some (x + 17) := hs.2.1 (14, 2, 17) (by decide)
theorem rW_14_3 {sh : Sh} {fR : FRt} {x : Nat} (hs : StW sh fR x) : fR (x + 14) 3 = some (x + 18) := hs.2.1 (14, 3, 18) (by decide)
theorem rW_14_4 {sh : Sh} {fR : FRt} {x : Nat} (hs : StW sh fR x) : fR (x + 14) 4 = some (x + 19) := hs.2.1 (14, 4, 19) (by decide)
theorem rW_20_0 {sh : Sh} {fR : FRt} {x : Nat} (hs : StW sh fR x) : fR (x + 20) 0 = some (x + 21) := hs.2.1 (20, 0, 21) (by decide)
theorem rW_20_1 {sh : Sh} {fR : FRt} {x : Nat} (hs : StW sh fR x) : fR (x + 20) 1 = some (x + 22) := hs.2.1 (20, 1, 22) (by decide)
theorem rW_23_0 {sh : Sh} {fR : FRt} {x : Nat} (hs : StW sh fR x) : fR (x + 23) 0 = some (x + 24) := hs.2.1 (23, 0, 24) (by decide)
theorem rW_23_1 {sh : Sh} {fR : FRt} {x : Nat} (hs : StW sh fR x) : fR (x + 23) 1 = some (x + 25) := hs.2.1 (23, 1, 25) (by decide)
theorem rW_23_2 {sh : Sh} {fR : FRt} {x : Nat} (hs : StW sh fR x) : fR (x + 23) 2 = some (x + 26) := hs.2.1 (23, 2, 26) (by decide)
theorem rW_1_0 {sh : Sh} {fR : FRt} {x : Nat} (hs : StW sh fR x) : fR (x + 1) 0 = some (x + 28) := hs.2.1 (1, 0, 28) (by decide)
theorem rW_1_1 {sh : Sh} {fR : FRt} {x : Nat} (hs : StW sh fR x) : fR (x + 1) 1 = some (x + 29) := hs.2.1 (1, 1, 29) (by decide)
theorem rW_1_2 {sh : Sh} {fR : FRt} {x : Nat} (hs : StW sh fR x) : fR (x + 1) 2 = some (x + 30) := hs.2.1 (1, 2, 30) (by decide)
theorem rW_1_3 {sh : Sh} {fR : FRt} {x : Nat} (hs : StW sh fR x) : fR (x + 1) 3 = some (x + 31) := hs.2.1 (1, 3, 31) (by decide)
def lSh : List (Nat × Nat) := [(6, 15), (20, 4), (20, 4), (20, 4), (20, 4), (3, 3), (20, 1600), (20, 96), (3, 3), (20, 1600), (20, 96), (3, 3), (20, 1600), (20, 96), (3, 3), (20, 1600), (20, 96)]
def lFR : List (Nat × Nat × Nat) := [(0, 7, 1), (0, 8, 2), (0, 9, 3), (0, 10, 4), (0, 11, 5), (0, 12, 8), (0, 13, 11), (0, 14, 14), (5, 0, 6), (5, 1, 7), (8, 0, 9), (8, 1, 10), (11, 0, 12), (11, 1, 13), (14, 0, 15), (14, 1, 16)]
def StPl (sh : Sh) (fR : FRt) (p : Nat) : Prop := (∀ (i : Nat) (z : Nat × Nat), lSh[i]? = some z → sh[p + i]? = some z) ∧ (∀ z ∈ lFR, fR (p + z.1) z.2.1 = some (p + z.2.2)) ∧ 0 < p
theorem sL_0 {sh : Sh} {fR : FRt} {p : Nat} (hs : StPl sh fR p) : sh[p]? = some (6, 15) := hs.1 0 _ rfl
theorem sL_1 {sh : Sh} {fR : FRt} {p : Nat} (hs : StPl sh fR p) : sh[p + 1]? = some (20, 4) := hs.1 1 _ rfl
theorem sL_2 {sh : Sh} {fR : FRt} {p : Nat} (hs : StPl sh fR p) : sh[p + 2]? = some (20, 4) := hs.1 2 _ rfl
theorem sL_3 {sh : Sh} {fR : FRt} {p : Nat} (hs : StPl sh fR p) : sh[p + 3]? = some (20, 4) := hs.1 3 _ rfl
theorem sL_4 {sh : Sh} {fR : FRt} {p : Nat} (hs : StPl sh fR p) : sh[p + 4]? = some (20, 4) := hs.1 4 _ rfl
theorem sL_5 {sh : Sh} {fR : FRt} {p : Nat} (hs : StPl sh fR p) : sh[p + 5]? = some (3, 3) := hs.1 5 _ rfl
theorem sL_6 {sh : Sh} {fR : FRt} {p : Nat} (hs : StPl sh fR p) : sh[p + 6]? = some (20, 1600) := hs.1 6 _ rfl
theorem sL_7 {sh : Sh} {fR : FRt} {p : Nat} (hs : StPl sh fR p) : sh[p + 7]? = some (20, 96) := hs.1 7 _ rfl
theorem sL_8 {sh : Sh} {fR : FRt} {p : Nat} (hs : StPl sh fR p) : sh[p + 8]? = some (3, 3) := hs.1 8 _ rfl
theorem sL_9 {sh : Sh} {fR : FRt} {p : Nat} (hs : StPl sh fR p) : sh[p + 9]? = some (20, 1600) := hs.1 9 _ rfl
theorem sL_10 {sh : Sh} {fR : FRt} {p : Nat} (hs : StPl sh fR p) : sh[p + 10]? = some (20, 96) := hs.1 10 _ rfl
theorem sL_11 {sh : Sh} {fR : FRt} {p : Nat} (hs : StPl sh fR p) : sh[p + 11]? = some (3, 3) := hs.1 11 _ rfl
theorem sL_12 {sh : Sh} {fR : FRt} {p : Nat} (hs : StPl sh fR p) : sh[p + 12]? = some (20, 1600) := hs.1 12 _ rfl
theorem sL_13 {sh : Sh} {fR : FRt} {p : Nat} (hs : StPl sh fR p) : sh[p + 13]? = some (20, 96) := hs.1 13 _ rfl
theorem sL_14 {sh : Sh} {fR : FRt} {p : Nat} (hs : StPl sh fR p) : sh[p + 14]? = some (3, 3) := hs.1 14 _ rfl
theorem sL_15 {sh : Sh} {fR : FRt} {p : Nat} (hs : StPl sh fR p) : sh[p + 15]? = some (20, 1600) := hs.1 15 _ rfl
theorem sL_16 {sh : Sh} {fR : FRt} {p : Nat} (hs : StPl sh fR p) : sh[p + 16]? = some (20, 96) := hs.1 16 _ rfl
theorem rL_0_7 {sh : Sh} {fR : FRt} {p : Nat} (hs : StPl sh fR p) : fR p 7 = some (p + 1) := hs.2.1 (0, 7, 1) (by decide)
theorem rL_0_8 {sh : Sh} {fR : FRt} {p : Nat} (hs : StPl sh fR p) : fR p 8 = some (p + 2) := hs.2.1 (0, 8, 2) (by decide)
theorem rL_0_9 {sh : Sh} {fR : FRt} {p : Nat} (hs : StPl sh fR p) : fR p 9 = some (p + 3) := hs.2.1 (0, 9, 3) (by decide)
theorem rL_0_10 {sh : Sh} {fR : FRt} {p : Nat} (hs : StPl sh fR p) : fR p 10 = some (p + 4) := hs.2.1 (0, 10, 4) (by decide)
theorem rL_0_11 {sh : Sh} {fR : FRt} {p : Nat} (hs : StPl sh fR p) : fR p 11 = some (p + 5) := hs.2.1 (0, 11, 5) (by decide)
theorem rL_0_12 {sh : Sh} {fR : FRt} {p : Nat} (hs : StPl sh fR p) : fR p 12 = some (p + 8) := hs.2.1 (0, 12, 8) (by decide)
theorem rL_0_13 {sh : Sh} {fR : FRt} {p : Nat} (hs : StPl sh fR p) : fR p 13 = some (p + 11) := hs.2.1 (0, 13, 11) (by decide)
theorem rL_0_14 {sh : Sh} {fR : FRt} {p : Nat} (hs : StPl sh fR p) : fR p 14 = some (p + 14) := hs.2.1 (0, 14, 14) (by decide)
theorem rL_5_0 {sh : Sh} {fR : FRt} {p : Nat} (hs : StPl sh fR p) : fR (p + 5) 0 = some (p + 6) := hs.2.1 (5, 0, 6) (by decide)
theorem rL_5_1 {sh : Sh} {fR : FRt} {p : Nat} (hs : StPl sh fR p) : fR (p + 5) 1 = some (p + 7) := hs.2.1 (5, 1, 7) (by decide)
theorem rL_8_0 {sh : Sh} {fR : FRt} {p : Nat} (hs : StPl sh fR p) : fR (p + 8) 0 = some (p + 9) := hs.2.1 (8, 0, 9) (by decide)
theorem rL_8_1 {sh : Sh} {fR : FRt} {p : Nat} (hs : StPl sh fR p) : fR (p + 8) 1 = some (p + 10) := hs.2.1 (8, 1, 10) (by decide)
theorem rL_11_0 {sh : Sh} {fR : FRt} {p : Nat} (hs : StPl sh fR p) : fR (p + 11) 0 = some (p + 12) := hs.2.1 (11, 0, 12) (by decide)
theorem rL_11_1 {sh : Sh} {fR : FRt} {p : Nat} (hs : StPl sh fR p) : fR (p + 11) 1 = some (p + 13) := hs.2.1 (11, 1, 13) (by decide)
theorem rL_14_0 {sh : Sh} {fR : FRt} {p : Nat} (hs : StPl sh fR p) : fR (p + 14) 0 = some (p + 15) := hs.2.1 (14, 0, 15) (by decide)
theorem rL_14_1 {sh : Sh} {fR : FRt} {p : Nat} (hs : StPl sh fR p) : fR (p + 14) 1 = some (p + 16) := hs.2.1 (14, 1, 16) (by decide)
def fSh : List (Nat × Nat) := [(3, 3), (20, 1600), (20, 96)]
def fFR : List (Nat × Nat × Nat) := [(0, 0, 1), (0, 1, 2)]
def StF (sh : Sh) (fR : FRt) (q : Nat) : Prop := (∀ (i : Nat) (z : Nat × Nat), fSh[i]? = some z → sh[q + i]? = some z) ∧ (∀ z ∈ fFR, fR (q + z.1) z.2.1 = some (q + z.2.2)) ∧ 0 < q
theorem sF_0 {sh : Sh} {fR : FRt} {q : Nat} (hs : StF sh fR q) : sh[q]? = some (3, 3) := hs.1 0 _ rfl
theorem sF_1 {sh : Sh} {fR : FRt} {q : Nat} (hs : StF sh fR q) : sh[q + 1]? = some (20, 1600) := hs.1 1 _ rfl
theorem sF_2 {sh : Sh} {fR : FRt} {q : Nat} (hs : StF sh fR q) : sh[q + 2]? = some (20, 96) := hs.1 2 _ rfl
theorem rF_0_0 {sh : Sh} {fR : FRt} {q : Nat} (hs : StF sh fR q) : fR q 0 = some (q + 1) := hs.2.1 (0, 0, 1) (by decide)
theorem rF_0_1 {sh : Sh} {fR : FRt} {q : Nat} (hs : StF sh fR q) : fR q 1 = some (q + 2) := hs.2.1 (0, 1, 2) (by decide)
def aSh : List (Nat × Nat × Nat) := [(0, 11, 16), (1, 20, 1600), (2, 20, 6), (3, 1, 1), (38, 9, 15), (39, 20, 29), (104, 25, 20), (105, 20, 48), (106, 26, 10), (107, 20, 122), (108, 20, 122), (109, 20, 122), (110, 20, 122), (111, 20, 122), (112, 20, 122), (113, 20, 122), (114, 20, 122), (115, 20, 122), (116, 20, 122)]
def aFR : List (Nat × Nat × Nat) := [(0, 0, 1), (0, 2, 2), (0, 3, 3), (0, 7, 38), (0, 8, 40), (0, 9, 72), (0, 10, 104), (0, 13, 105), (0, 15, 106), (38, 0, 39), (38, 3, 1), (106, 0, 107), (106, 1, 108), (106, 2, 109), (106, 3, 110), (106, 4, 111), (106, 5, 112), (106, 6, 113), (106, 7, 114), (106, 8, 115), (106, 9, 116)]
def StA (sh : Sh) (fR : FRt) (A : Nat) : Prop := (∀ q ∈ aSh, sh[A + q.1]? = some q.2) ∧ (∀ q ∈ aFR, fR (A + q.1) q.2.1 = some (A + q.2.2)) ∧ 0 < A ∧ StW sh fR (A + 40) ∧ StW sh fR (A + 72) ∧ StPl sh fR (A + 4) ∧ StPl sh fR (A + 21)
theorem sA_0 {sh : Sh} {fR : FRt} {A : Nat} (hs : StA sh fR A) : sh[A]? = some (11, 16) := hs.1 (0, 11, 16) (by decide)
theorem sA_1 {sh : Sh} {fR : FRt} {A : Nat} (hs : StA sh fR A) : sh[A + 1]? = some (20, 1600) := hs.1 (1, 20, 1600) (by decide)
theorem sA_2 {sh : Sh} {fR : FRt} {A : Nat} (hs : StA sh fR A) : sh[A + 2]? = some (20, 6) := hs.1 (2, 20, 6) (by decide)
theorem sA_3 {sh : Sh} {fR : FRt} {A : Nat} (hs : StA sh fR A) : sh[A + 3]? = some (1, 1) := hs.1 (3, 1, 1) (by decide)
theorem sA_38 {sh : Sh} {fR : FRt} {A : Nat} (hs : StA sh fR A) : sh[A + 38]? = some (9, 15) := hs.1 (38, 9, 15) (by decide)
theorem sA_39 {sh : Sh} {fR : FRt} {A : Nat} (hs : StA sh fR A) : sh[A + 39]? = some (20, 29) := hs.1 (39, 20, 29) (by decide)
theorem sA_104 {sh : Sh} {fR : FRt} {A : Nat} (hs : StA sh fR A) : sh[A + 104]? = some (25, 20) := hs.1 (104, 25, 20) (by decide)
theorem sA_105 {sh : Sh} {fR : FRt} {A : Nat} (hs : StA sh fR A) : sh[A + 105]? = some (20, 48) := hs.1 (105, 20, 48) (by decide)
theorem sA_106 {sh : Sh} {fR : FRt} {A : Nat} (hs : StA sh fR A) : sh[A + 106]? = some (26, 10) := hs.1 (106, 26, 10) (by decide)
theorem sA_107 {sh : Sh} {fR : FRt} {A : Nat} (hs : StA sh fR A) : sh[A + 107]? = some (20, 122) := hs.1 (107, 20, 122) (by decide)
theorem sA_108 {sh : Sh} {fR : FRt} {A : Nat} (hs : StA sh fR A) : sh[A + 108]? = some (20, 122) := hs.1 (108, 20, 122) (by decide)
theorem sA_109 {sh : Sh} {fR : FRt} {A : Nat} (hs : StA sh fR A) : sh[A + 109]? = some (20, 122) := hs.1 (109, 20, 122) (by decide)
theorem sA_110 {sh : Sh} {fR : FRt} {A : Nat} (hs : StA sh fR A) : sh[A + 110]? = some (20, 122) := hs.1 (110, 20, 122) (by decide)
theorem sA_111 {sh : Sh} {fR : FRt} {A : Nat} (hs : StA sh fR A) : sh[A + 111]? = some (20, 122) := hs.1 (111, 20, 122) (by decide)
theorem sA_112 {sh : Sh} {fR : FRt} {A : Nat} (hs : StA sh fR A) : sh[A + 112]? = some (20, 122) := hs.1 (112, 20, 122) (by decide)
theorem sA_113 {sh : Sh} {fR : FRt} {A : Nat} (hs : StA sh fR A) : sh[A + 113]? = some (20, 122) := hs.1 (113, 20, 122) (by decide)
theorem sA_114 {sh : Sh} {fR : FRt} {A : Nat} (hs : StA sh fR A) : sh[A + 114]? = some (20, 122) := hs.1 (114, 20, 122) (by decide)
theorem sA_115 {sh : Sh} {fR : FRt} {A : Nat} (hs : StA sh fR A) : sh[A + 115]? = some (20, 122) := hs.1 (115, 20, 122) (by decide)
theorem sA_116 {sh : Sh} {fR : FRt} {A : Nat} (hs : StA sh fR A) : sh[A + 116]? = some (20, 122) := hs.1 (116, 20, 122) (by decide)
theorem rA_0_0 {sh : Sh} {fR : FRt} {A : Nat} (hs : StA sh fR A) : fR A 0 = some (A + 1) := hs.2.1 (0, 0, 1) (by decide)
theorem rA_0_2 {sh : Sh} {fR : FRt} {A : Nat} (hs : StA sh fR A) : fR A 2 = some (A + 2) := hs.2.1 (0, 2, 2) (by decide)
theorem rA_0_3 {sh : Sh} {fR : FRt} {A : Nat} (hs : StA sh fR A) : fR A 3 = some (A + 3) := hs.2.1 (0, 3, 3) (by decide)
theorem rA_0_7 {sh : Sh} {fR : FRt} {A : Nat} (hs : StA sh fR A) : fR A 7 = some (A + 38) := hs.2.1 (0, 7, 38) (by decide)
theorem rA_0_8 {sh : Sh} {fR : FRt} {A : Nat} (hs : StA sh fR A) : fR A 8 = some (A + 40) := hs.2.1 (0, 8, 40) (by decide)
theorem rA_0_9 {sh : Sh} {fR : FRt} {A : Nat} (hs : StA sh fR A) : fR A 9 = some (A + 72) := hs.2.1 (0, 9, 72) (by decide)
theorem rA_0_10 {sh : Sh} {fR : FRt} {A : Nat} (hs : StA sh fR A) : fR A 10 = some (A + 104) := hs.2.1 (0, 10, 104) (by decide)
theorem rA_0_13 {sh : Sh} {fR : FRt} {A : Nat} (hs : StA sh fR A) : fR A 13 = some (A + 105) := hs.2.1 (0, 13, 105) (by decide)
theorem rA_0_15 {sh : Sh} {fR : FRt} {A : Nat} (hs : StA sh fR A) : fR A 15 = some (A + 106) := hs.2.1 (0, 15, 106) (by decide)
theorem rA_38_0 {sh : Sh} {fR : FRt} {A : Nat} (hs : StA sh fR A) : fR (A + 38) 0 = some (A + 39) := hs.2.1 (38, 0, 39) (by decide)
theorem rA_38_3 {sh : Sh} {fR : FRt} {A : Nat} (hs : StA sh fR A) : fR (A + 38) 3 = some (A + 1) := hs.2.1 (38, 3, 1) (by decide)
theorem rA_106_0 {sh : Sh} {fR : FRt} {A : Nat} (hs : StA sh fR A) : fR (A + 106) 0 = some (A + 107) := hs.2.1 (106, 0, 107) (by decide)
theorem rA_106_1 {sh : Sh} {fR : FRt} {A : Nat} (hs : StA sh fR A) : fR (A + 106) 1 = some (A + 108) := hs.2.1 (106, 1, 108) (by decide)
theorem rA_106_2 {sh : Sh} {fR : FRt} {A : Nat} (hs : StA sh fR A) : fR (A + 106) 2 = some (A + 109) := hs.2.1 (106, 2, 109) (by decide)
theorem rA_106_3 {sh : Sh} {fR : FRt} {A : Nat} (hs : StA sh fR A) : fR (A + 106) 3 = some (A + 110) := hs.2.1 (106, 3, 110) (by decide)
theorem rA_106_4 {sh : Sh} {fR : FRt} {A : Nat} (hs : StA sh fR A) : fR (A + 106) 4 = some (A + 111) := hs.2.1 (106, 4, 111) (by decide)
theorem rA_106_5 {sh : Sh} {fR : FRt} {A : Nat} (hs : StA sh fR A) : fR (A + 106) 5 = some (A + 112) := hs.2.1 (106, 5, 112) (by decide)
theorem rA_106_6 {sh : Sh} {fR : FRt} {A : Nat} (hs : StA sh fR A) : fR (A + 106) 6 = some (A + 113) := hs.2.1 (106, 6, 113) (by decide)
theorem rA_106_7 {sh : Sh} {fR : FRt} {A : Nat} (hs : StA sh fR A) : fR (A + 106) 7 = some (A + 114) := hs.2.1 (106, 7, 114) (by decide)
theorem rA_106_8 {sh : Sh} {fR : FRt} {A : Nat} (hs : StA sh fR A) : fR (A + 106) 8 = some (A + 115) := hs.2.1 (106, 8, 115) (by decide)
theorem rA_106_9 {sh : Sh} {fR : FRt} {A : Nat} (hs : StA sh fR A) : fR (A + 106) 9 = some (A + 116) := hs.2.1 (106, 9, 116) (by decide)
def qn (sh : Sh) (fR : FRt) (t : Nat) (K : Nat → FI → FL → Prop) : Option Value → Hp → Prop := fun r h => ∃ (q : Nat) (f : FI) (g : FL), r = none ∧ h = (sh, f, g, up2 fR t 7 (some q)) ∧ StF sh fR q ∧ K q f g
