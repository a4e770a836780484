def mSh : List (Nat × Nat) := [(12, 69), (20, 1800), (20, 2), (20, 2), (20, 2), (20, 2), (20, 2), (20, 8), (20, 8), (20, 8), (20, 2), (20, 8), (20, 8), (20, 3200), (20, 3200), (21, 8), (20, 20), (20, 20), (22, 20), (20, 20), (20, 20), (20, 500), (20, 6), (20, 880), (20, 84480), (20, 21120), (20, 57200), (20, 4400), (20, 2640), (20, 4), (21, 500), (20, 12), (20, 480), (20, 480), (20, 16), (20, 16), (20, 16), (20, 1220)]
def mFR : List (Nat × Nat) := [(0, 1), (14, 2), (15, 3), (16, 4), (17, 5), (18, 6), (19, 7), (20, 8), (21, 9), (22, 10), (23, 11), (24, 12), (25, 13), (26, 14), (27, 15), (31, 16), (32, 17), (33, 18), (34, 19), (35, 20), (38, 21), (42, 22), (43, 23), (44, 24), (45, 25), (46, 26), (47, 27), (48, 28), (53, 29), (54, 30), (55, 31), (56, 32), (58, 33), (65, 34), (66, 35), (67, 36), (68, 37)]
/-- the reference: its object at B, its arrays behind it -/
def StM (sh : Sh) (fR : FRt) (B : Nat) : Prop := (∀ (i : Nat) (q : Nat × Nat), mSh[i]? = some q → sh[B + i]? = some q) ∧ (∀ q ∈ mFR, fR B q.1 = some (B + q.2)) ∧ 0 < B
theorem sM_0 {sh : Sh} {fR : FRt} {B : Nat} (hs : StM sh fR B) : sh[B]? = some (12, 69) := hs.1 0 _ rfl
theorem sM_1 {sh : Sh} {fR : FRt} {B : Nat} (hs : StM sh fR B) : sh[B + 1]? = some (20, 1800) := hs.1 1 _ rfl
theorem rM_0 {sh : Sh} {fR : FRt} {B : Nat} (hs : StM sh fR B) : fR B 0 = some (B + 1) := hs.2.1 (0, 1) (by decide)
theorem sM_2 {sh : Sh} {fR : FRt} {B : Nat} (hs : StM sh fR B) : sh[B + 2]? = some (20, 2) := hs.1 2 _ rfl
theorem rM_14 {sh : Sh} {fR : FRt} {B : Nat} (hs : StM sh fR B) : fR B 14 = some (B + 2) := hs.2.1 (14, 2) (by decide)
theorem sM_3 {sh : Sh} {fR : FRt} {B : Nat} (hs : StM sh fR B) : sh[B + 3]? = some (20, 2) := hs.1 3 _ rfl
theorem rM_15 {sh : Sh} {fR : FRt} {B : Nat} (hs : StM sh fR B) : fR B 15 = some (B + 3) := hs.2.1 (15, 3) (by decide)
theorem sM_4 {sh : Sh} {fR : FRt} {B : Nat} (hs : StM sh fR B) : sh[B + 4]? = some (20, 2) := hs.1 4 _ rfl
theorem rM_16 {sh : Sh} {fR : FRt} {B : Nat} (hs : StM sh fR B) : fR B 16 = some (B + 4) := hs.2.1 (16, 4) (by decide)
theorem sM_5 {sh : Sh} {fR : FRt} {B : Nat} (hs : StM sh fR B) : sh[B + 5]? = some (20, 2) := hs.1 5 _ rfl
theorem rM_17 {sh : Sh} {fR : FRt} {B : Nat} (hs : StM sh fR B) : fR B 17 = some (B + 5) := hs.2.1 (17, 5) (by decide)
theorem sM_6 {sh : Sh} {fR : FRt} {B : Nat} (hs : StM sh fR B) : sh[B + 6]? = some (20, 2) := hs.1 6 _ rfl
theorem rM_18 {sh : Sh} {fR : FRt} {B : Nat} (hs : StM sh fR B) : fR B 18 = some (B + 6) := hs.2.1 (18, 6) (by decide)
theorem sM_7 {sh : Sh} {fR : FRt} {B : Nat} (hs : StM sh fR B) : sh[B + 7]? = some (20, 8) := hs.1 7 _ rfl
theorem rM_19 {sh : Sh} {fR : FRt} {B : Nat} (hs : StM sh fR B) : fR B 19 = some (B + 7) := hs.2.1 (19, 7) (by decide)
theorem sM_8 {sh : Sh} {fR : FRt} {B : Nat} (hs : StM sh fR B) : sh[B + 8]? = some (20, 8) := hs.1 8 _ rfl
theorem rM_20 {sh : Sh} {fR : FRt} {B : Nat} (hs : StM sh fR B) : fR B 20 = some (B + 8) := hs.2.1 (20, 8) (by decide)
theorem sM_9 {sh : Sh} {fR : FRt} {B : Nat} (hs : StM sh fR B) : sh[B + 9]? = some (20, 8) := hs.1 9 _ rfl
theorem rM_21 {sh : Sh} {fR : FRt} {B : Nat} (hs : StM sh fR B) : fR B 21 = some (B + 9) := hs.2.1 (21, 9) (by decide)
theorem sM_10 {sh : Sh} {fR : FRt} {B : Nat} (hs : StM sh fR B) : sh[B + 10]? = some (20, 2) := hs.1 10 _ rfl
theorem rM_22 {sh : Sh} {fR : FRt} {B : Nat} (hs : StM sh fR B) : fR B 22 = some (B + 10) := hs.2.1 (22, 10) (by decide)
theorem sM_11 {sh : Sh} {fR : FRt} {B : Nat} (hs : StM sh fR B) : sh[B + 11]? = some (20, 8) := hs.1 11 _ rfl
theorem rM_23 {sh : Sh} {fR : FRt} {B : Nat} (hs : StM sh fR B) : fR B 23 = some (B + 11) := hs.2.1 (23, 11) (by decide)
theorem sM_12 {sh : Sh} {fR : FRt} {B : Nat} (hs : StM sh fR B) : sh[B + 12]? = some (20, 8) := hs.1 12 _ rfl
theorem rM_24 {sh : Sh} {fR : FRt} {B : Nat} (hs : StM sh fR B) : fR B 24 = some (B + 12) := hs.2.1 (24, 12) (by decide)
theorem sM_13 {sh : Sh} {fR : FRt} {B : Nat} (hs : StM sh fR B) : sh[B + 13]? = some (20, 3200) := hs.1 13 _ rfl
theorem rM_25 {sh : Sh} {fR : FRt} {B : Nat} (hs : StM sh fR B) : fR B 25 = some (B + 13) := hs.2.1 (25, 13) (by decide)
theorem sM_14 {sh : Sh} {fR : FRt} {B : Nat} (hs : StM sh fR B) : sh[B + 14]? = some (20, 3200) := hs.1 14 _ rfl
theorem rM_26 {sh : Sh} {fR : FRt} {B : Nat} (hs : StM sh fR B) : fR B 26 = some (B + 14) := hs.2.1 (26, 14) (by decide)
theorem sM_15 {sh : Sh} {fR : FRt} {B : Nat} (hs : StM sh fR B) : sh[B + 15]? = some (21, 8) := hs.1 15 _ rfl
theorem rM_27 {sh : Sh} {fR : FRt} {B : Nat} (hs : StM sh fR B) : fR B 27 = some (B + 15) := hs.2.1 (27, 15) (by decide)
theorem sM_16 {sh : Sh} {fR : FRt} {B : Nat} (hs : StM sh fR B) : sh[B + 16]? = some (20, 20) := hs.1 16 _ rfl
theorem rM_31 {sh : Sh} {fR : FRt} {B : Nat} (hs : StM sh fR B) : fR B 31 = some (B + 16) := hs.2.1 (31, 16) (by decide)
theorem sM_17 {sh : Sh} {fR : FRt} {B : Nat} (hs : StM sh fR B) : sh[B + 17]? = some (20, 20) := hs.1 17 _ rfl
theorem rM_32 {sh : Sh} {fR : FRt} {B : Nat} (hs : StM sh fR B) : fR B 32 = some (B + 17) := hs.2.1 (32, 17) (by decide)
theorem sM_18 {sh : Sh} {fR : FRt} {B : Nat} (hs : StM sh fR B) : sh[B + 18]? = some (22, 20) := hs.1 18 _ rfl
theorem rM_33 {sh : Sh} {fR : FRt} {B : Nat} (hs : StM sh fR B) : fR B 33 = some (B + 18) := hs.2.1 (33, 18) (by decide)
theorem sM_19 {sh : Sh} {fR : FRt} {B : Nat} (hs : StM sh fR B) : sh[B + 19]? = some (20, 20) := hs.1 19 _ rfl
theorem rM_34 {sh : Sh} {fR : FRt} {B : Nat} (hs : StM sh fR B) : fR B 34 = some (B + 19) := hs.2.1 (34, 19) (by decide)
theorem sM_20 {sh : Sh} {fR : FRt} {B : Nat} (hs : StM sh fR B) : sh[B + 20]? = some (20, 20) := hs.1 20 _ rfl
theorem rM_35 {sh : Sh} {fR : FRt} {B : Nat} (hs : StM sh fR B) : fR B 35 = some (B + 20) := hs.2.1 (35, 20) (by decide)
theorem sM_21 {sh : Sh} {fR : FRt} {B : Nat} (hs : StM sh fR B) : sh[B + 21]? = some (20, 500) := hs.1 21 _ rfl
theorem rM_38 {sh : Sh} {fR : FRt} {B : Nat} (hs : StM sh fR B) : fR B 38 = some (B + 21) := hs.2.1 (38, 21) (by decide)
theorem sM_22 {sh : Sh} {fR : FRt} {B : Nat} (hs : StM sh fR B) : sh[B + 22]? = some (20, 6) := hs.1 22 _ rfl
theorem rM_42 {sh : Sh} {fR : FRt} {B : Nat} (hs : StM sh fR B) : fR B 42 = some (B + 22) := hs.2.1 (42, 22) (by decide)
theorem sM_23 {sh : Sh} {fR : FRt} {B : Nat} (hs : StM sh fR B) : sh[B + 23]? = some (20, 880) := hs.1 23 _ rfl
theorem rM_43 {sh : Sh} {fR : FRt} {B : Nat} (hs : StM sh fR B) : fR B 43 = some (B + 23) := hs.2.1 (43, 23) (by decide)
theorem sM_24 {sh : Sh} {fR : FRt} {B : Nat} (hs : StM sh fR B) : sh[B + 24]? = some (20, 84480) := hs.1 24 _ rfl
theorem rM_44 {sh : Sh} {fR : FRt} {B : Nat} (hs : StM sh fR B) : fR B 44 = some (B + 24) := hs.2.1 (44, 24) (by decide)
theorem sM_25 {sh : Sh} {fR : FRt} {B : Nat} (hs : StM sh fR B) : sh[B + 25]? = some (20, 21120) := hs.1 25 _ rfl
theorem rM_45 {sh : Sh} {fR : FRt} {B : Nat} (hs : StM sh fR B) : fR B 45 = some (B + 25) := hs.2.1 (45, 25) (by decide)
theorem sM_26 {sh : Sh} {fR : FRt} {B : Nat} (hs : StM sh fR B) : sh[B + 26]? = some (20, 57200) := hs.1 26 _ rfl
theorem rM_46 {sh : Sh} {fR : FRt} {B : Nat} (hs : StM sh fR B) : fR B 46 = some (B + 26) := hs.2.1 (46, 26) (by decide)
theorem sM_27 {sh : Sh} {fR : FRt} {B : Nat} (hs : StM sh fR B) : sh[B + 27]? = some (20, 4400) := hs.1 27 _ rfl
theorem rM_47 {sh : Sh} {fR : FRt} {B : Nat} (hs : StM sh fR B) : fR B 47 = some (B + 27) := hs.2.1 (47, 27) (by decide)
theorem sM_28 {sh : Sh} {fR : FRt} {B : Nat} (hs : StM sh fR B) : sh[B + 28]? = some (20, 2640) := hs.1 28 _ rfl
theorem rM_48 {sh : Sh} {fR : FRt} {B : Nat} (hs : StM sh fR B) : fR B 48 = some (B + 28) := hs.2.1 (48, 28) (by decide)
theorem sM_29 {sh : Sh} {fR : FRt} {B : Nat} (hs : StM sh fR B) : sh[B + 29]? = some (20, 4) := hs.1 29 _ rfl
theorem rM_53 {sh : Sh} {fR : FRt} {B : Nat} (hs : StM sh fR B) : fR B 53 = some (B + 29) := hs.2.1 (53, 29) (by decide)
theorem sM_30 {sh : Sh} {fR : FRt} {B : Nat} (hs : StM sh fR B) : sh[B + 30]? = some (21, 500) := hs.1 30 _ rfl
theorem rM_54 {sh : Sh} {fR : FRt} {B : Nat} (hs : StM sh fR B) : fR B 54 = some (B + 30) := hs.2.1 (54, 30) (by decide)
theorem sM_31 {sh : Sh} {fR : FRt} {B : Nat} (hs : StM sh fR B) : sh[B + 31]? = some (20, 12) := hs.1 31 _ rfl
theorem rM_55 {sh : Sh} {fR : FRt} {B : Nat} (hs : StM sh fR B) : fR B 55 = some (B + 31) := hs.2.1 (55, 31) (by decide)
theorem sM_32 {sh : Sh} {fR : FRt} {B : Nat} (hs : StM sh fR B) : sh[B + 32]? = some (20, 480) := hs.1 32 _ rfl
theorem rM_56 {sh : Sh} {fR : FRt} {B : Nat} (hs : StM sh fR B) : fR B 56 = some (B + 32) := hs.2.1 (56, 32) (by decide)
theorem sM_33 {sh : Sh} {fR : FRt} {B : Nat} (hs : StM sh fR B) : sh[B + 33]? = some (20, 480) := hs.1 33 _ rfl
theorem rM_58 {sh : Sh} {fR : FRt} {B : Nat} (hs : StM sh fR B) : fR B 58 = some (B + 33) := hs.2.1 (58, 33) (by decide)
theorem sM_34 {sh : Sh} {fR : FRt} {B : Nat} (hs : StM sh fR B) : sh[B + 34]? = some (20, 16) := hs.1 34 _ rfl
theorem rM_65 {sh : Sh} {fR : FRt} {B : Nat} (hs : StM sh fR B) : fR B 65 = some (B + 34) := hs.2.1 (65, 34) (by decide)
theorem sM_35 {sh : Sh} {fR : FRt} {B : Nat} (hs : StM sh fR B) : sh[B + 35]? = some (20, 16) := hs.1 35 _ rfl
theorem rM_66 {sh : Sh} {fR : FRt} {B : Nat} (hs : StM sh fR B) : fR B 66 = some (B + 35) := hs.2.1 (66, 35) (by decide)
theorem sM_36 {sh : Sh} {fR : FRt} {B : Nat} (hs : StM sh fR B) : sh[B + 36]? = some (20, 16) := hs.1 36 _ rfl
theorem rM_67 {sh : Sh} {fR : FRt} {B : Nat} (hs : StM sh fR B) : fR B 67 = some (B + 36) := hs.2.1 (67, 36) (by decide)
theorem sM_37 {sh : Sh} {fR : FRt} {B : Nat} (hs : StM sh fR B) : sh[B + 37]? = some (20, 1220) := hs.1 37 _ rfl
theorem rM_68 {sh : Sh} {fR : FRt} {B : Nat} (hs : StM sh fR B) : fR B 68 = some (B + 37) := hs.2.1 (68, 37) (by decide)
