/-! what a call does, as functions of plain values; how both sides hold the state -/
/-- tape, refused calls, seed, fault, stream: plan, delays, world, what can be undone (the latest last), what was met -/
abbrev Td : Type := Pl × (Nat → Nat) × Wd × List Wd × List (Nat × Nat × Nat)
abbrev Zs : Type := List Nat × (Nat → Nat) × Nat × Option (Nat × Nat) × Option Td
def ixS (a : Int32) (n : Nat) : Option Nat := if a < 0 then none else if nI n ≤ a then none else some a.toNatClampNeg
theorem ixS_lo {a : Int32} {n : Nat} (h : a < 0) : ixS a n = none := if_pos h
theorem ixS_hi {a : Int32} {n : Nat} (h : nI n ≤ a) : ixS a n = none := by
  unfold ixS
  rw [if_pos h]
  split <;> rfl
theorem ixS_in {j n : Nat} (h : j < n) (hn : n < 2 ^ 31) : ixS (nI j) n = some j := by
  unfold ixS
  rw [if_neg (nI_pos (by omega)), if_neg (nI_ge h hn), clN (by omega)]
theorem ixS_some {a : Int32} {n j : Nat} (hn : n < 2 ^ 31) (h : ixS a n = some j) : j < n ∧ a = nI j := by
  rcases pk_ix a hn with q | q | ⟨i, hi, rfl⟩
  · rw [ixS_lo q] at h; cases h
  · rw [ixS_hi q] at h; cases h
  · rw [ixS_in hi hn] at h
    cases h
    exact ⟨hi, rfl⟩
def zRef (Z : Zs) (i : Nat) : Zs := (Z.1, fu Z.2.1 i (Z.2.1 i + 1), Z.2.2)
def byt (v : Int32) (s : Nat) : Nat := ((v >>> (nI s &&& 31)) &&& nI 255).toNatClampNeg
theorem byt_eq (v : Int32) (s : Nat) : (v >>> (nI s &&& 31)) &&& nI 255 = nI (byt v s) ∧ byt v s < 256 := by
  obtain ⟨j, hj, e⟩ := pk_andE (v >>> (nI s &&& 31)) (m := nI 255) 8 (by decide)
  have e2 : byt v s = j := by
    unfold byt
    rw [e, clN (by omega)]
  rw [e2]
  exact ⟨e, hj⟩
def bytesS (v : Int32) : List Nat := [byt v 24, byt v 16, byt v 8, byt v 0]
def feedS (Z : Zs) (a b c d e : Int32) : Zs × Int32 := if 1600 < Z.1.length + 20 then (zRef Z 0, -1) else ((Z.1 ++ bytesS a ++ bytesS b ++ bytesS c ++ bytesS d ++ bytesS e, Z.2), nI (Z.1.length + 20))
def endS (Z : Zs) (a : Int32) : Zs × Int32 := match ixS a (Z.1.length + 1) with
  | none => (zRef Z 0, nI 0)
  | some n => ((Z.1.take n, Z.2), nI 1)
def faultS (Z : Zs) (a : Int32) : Int32 := if a = 0 then nI ((Z.2.2.2.1.map (fun q => q.1)).getD 0) else if a = nI 1 then oI (Z.2.2.2.1.map (fun q => q.2)) else -1
def aliveS (π : Pl) (w : Wd) : Nat := forN (π.1 6) (fun p n => if freS w p then n + 1 else n) 0
def flyA (w : Wd) : Nat := w.2.2.1.countP (fun s => s.2.2.2.2.2.2.1)
def hasN (q : Td) (j : Nat) : Nat := if j = 0 then q.1.1 1 else if j = 1 then q.1.1 6 else if j = 2 then aliveS q.1 q.2.2.1 else if j = 3 then q.2.2.1.1 0 else if j = 4 then q.2.2.1.1 1 else if j = 5 then q.2.2.1.1 2 else if j = 6 then q.2.2.1.1 3 else if j = 7 then takenS q.1 q.2.2.1 else if j = 8 then q.2.2.1.1 4 else if j = 9 then flyA q.2.2.1 else if j = 10 then q.2.2.1.2.2.2.2.1.length else if j = 11 then q.2.2.1.2.2.2.1.length else if j = 12 then q.2.2.1.1 5 else if j = 13 then q.2.2.1.2.2.2.2.2.2.length else if j = 14 then q.2.2.2.2.length else q.2.2.2.1.length
def hasS (Z : Zs) (a : Int32) : Int32 := if a = nI 16 then nI Z.2.2.1 else match ixS a 16 with
  | none => -1
  | some j => match Z.2.2.2.2 with
    | none => nI 0
    | some q => nI (hasN q j)
def letterS (Z : Zs) (a b : Int32) : Int32 := match Z.2.2.2.2 with
  | none => -1
  | some q => match ixS a (q.1.1 6) with
    | none => -1
    | some p => match ixS b 6 with
      | none => -1
      | some k => nI ((q.1.2.1 p).getD k 0)
def pathN (q : Td) (p j : Nat) : Nat := if j = 0 then q.1.2.2.1 p else if j = 1 then q.2.2.1.2.1 p 0 else if j = 2 then q.2.2.1.2.1 p 1 else if j = 3 then q.2.2.1.2.1 p 2 else if j = 4 then q.2.2.1.2.1 p 3 else if j = 5 then flyS q.2.2.1 p else if j = 6 then q.2.2.1.2.1 p 4 else if j = 7 then q.2.2.1.2.1 p 5 else waitS q.1 q.2.1 q.2.2.1 p
def pathS (Z : Zs) (a b : Int32) : Int32 := match Z.2.2.2.2 with
  | none => -1
  | some q => match ixS a (q.1.1 6) with
    | none => -1
    | some p => match ixS b 9 with
      | none => -1
      | some j => nI (pathN q p j)
def sumS (key a : Nat) : Nat → Nat
  | 0 => 0
  | n + 1 => sumS key a n + ((a + n) * (a + n) + 7 * (a + n) + key) % 251
def segN (π : Pl) (s : Sg) (j : Nat) : Nat := if j = 0 then s.1 else if j = 1 then s.2.1 else if j = 2 then s.2.2.1 else if j = 3 then s.2.2.2.1 else if j = 4 then s.2.2.2.2.1 else sumS (π.1 4) s.2.2.1 s.2.2.2.1 % 251
def segmentS (Z : Zs) (a b : Int32) : Int32 := match Z.2.2.2.2 with
  | none => -1
  | some q => match ixS a (flyA q.2.2.1) with
    | none => -1
    | some k => match (q.2.2.1.2.2.1.filter (fun s => s.2.2.2.2.2.2.1))[k]? with
      | none => -1
      | some s => match ixS b 6 with
        | none => -1
        | some j => nI (segN q.1 s j)
def octetS (Z : Zs) (a : Int32) : Int32 := match Z.2.2.2.2 with
  | none => -1
  | some q => match ixS a (q.1.1 1) with
    | none => -1
    | some k => if k < q.2.2.1.1 4 then nI 2 else bI (q.2.2.1.2.2.2.2.2.1 k)
def refusalsS (Z : Zs) (a : Int32) : Int32 := match ixS a 4 with
  | none => -1
  | some c => match Z.2.2.2.2 with
    | none => nI 0
    | some q => nI (q.2.2.1.1 (10 + c))
def statusS (Z : Zs) (a : Int32) : Int32 := match ixS a 6 with
  | none => -1
  | some j => nI (Z.2.1 j)
def keptS (Z : Zs) (a b : Int32) : Int32 := match Z.2.2.2.2 with
  | none => -1
  | some q => match ixS a q.2.2.1.2.2.2.2.2.2.length with
    | none => -1
    | some k => match q.2.2.1.2.2.2.2.2.2[k]? with
      | none => -1
      | some r => match ixS b 3 with
        | none => -1
        | some j => kE r j
def seedS (Z : Zs) (a : Int32) : Zs × Int32 := if a < 0 then (zRef Z 5, nI 0) else ((Z.1, Z.2.1, a.toNatClampNeg, Z.2.2.2), nI 1)
/-! trials -/
def runS (π : Pl) (win : Nat) (dl : Nat → Nat) : Nat → Wd → Wd
  | 0, w => w
  | n + 1, w => (tickS π win dl false (runS π win dl n w) 0).1
def laterN (w : Wd) (j : Nat) : Nat := if j = 0 then w.1 1 else if j = 1 then w.1 2 else if j = 2 then w.1 4 else if j = 3 then flyA w else w.1 5
def laterS (Z : Zs) (a b : Int32) : Int32 := match Z.2.2.2.2 with
  | none => -1
  | some q => match ixS a 201 with
    | none => -1
    | some n => if 999 < q.2.2.1.1 0 + n then -1 else match ixS b 5 with
      | none => -1
      | some j => nI (laterN (runS q.1 (q.1.1 3) q.2.1 n q.2.2.1) j)
def finB (π : Pl) (win : Nat) (dl : Nat → Nat) (w : Wd) (n : Nat) : Bool := decide (w.1 0 + n ≤ 999) && ((runS π win dl n w).1 2 == π.1 1)
def finS (π : Pl) (win : Nat) (dl : Nat → Nat) (w : Wd) (n : Nat) : Option Nat := (List.range (n + 1)).find? (finB π win dl w)
def finishS (Z : Zs) : Int32 := match Z.2.2.2.2 with
  | none => -1
  | some q => oI (finS q.1 (q.1.1 3) q.2.1 q.2.2.1 200)
def withoutS (Z : Zs) (a : Int32) : Int32 := match Z.2.2.2.2 with
  | none => -1
  | some q => match ixS a (q.1.1 6) with
    | none => -1
    | some p => oI (finS q.1 (q.1.1 3) q.2.1 (dieS q.2.2.1 p) 200)
def othersS (n p : Nat) (w : Wd) : Wd := forN n (fun o w => if o = p then w else dieS w o) w
def aloneS (Z : Zs) (a : Int32) : Int32 := match Z.2.2.2.2 with
  | none => -1
  | some q => match ixS a (q.1.1 6) with
    | none => -1
    | some p => oI (finS q.1 (q.1.1 3) q.2.1 (othersS (q.1.1 6) p q.2.2.1) 200)
def winS (π : Pl) (dl : Nat → Nat) (w : Wd) (n : Nat) : Option Nat := (List.range 100).find? (fun v => decide (π.1 2 ≤ v) && (finS π v dl w n).isSome)
def windowS (Z : Zs) (a : Int32) : Int32 := match Z.2.2.2.2 with
  | none => -1
  | some q => match ixS a 201 with
    | none => -1
    | some n => if n = 0 ∨ 999 < q.2.2.1.1 0 + n then -1 else oI (winS q.1 q.2.1 q.2.2.1 n)
def oddsS (Z : Zs) (a : Int32) : Int32 := match Z.2.2.2.2 with
  | none => -1
  | some q => match ixS a 2 with
    | none => -1
    | some j => if 999 < q.2.2.1.1 0 + 1 then -1 else
      if (tickS q.1 (q.1.1 3) q.2.1 false q.2.2.1 0).2.1 = 0 then -1 else if j = 1 then nI 100 else if (tickS q.1 (q.1.1 3) q.2.1 false q.2.2.1 0).2.2.2.1 then nI 0 else nI (100 - q.1.1 5)
def metOK (tp : List Nat) : Bool := decide (0 < tp.length) && decide (tp.length % 3 = 0) && decide (tp.length ≤ 48) && (List.range (tp.length / 3)).all (fun k => decide (tp.getD (3 * k) 0 ≤ 60) && decide (tp.getD (3 * k + 1) 0 ≤ 1) && decide (tp.getD (3 * k + 2) 0 ≤ 200))
def metL (tp : List Nat) : List (Nat × Nat × Nat) := (List.range (tp.length / 3)).map (fun k => (tp.getD (3 * k) 0, tp.getD (3 * k + 1) 0, tp.getD (3 * k + 2) 0))
def meetS (Z : Zs) : Zs × Int32 := match Z.2.2.2.2 with
  | none => (([], (zRef Z 5).2), -1)
  | some q => if metOK Z.1 then (([], Z.2.1, Z.2.2.1, Z.2.2.2.1, some (q.1, q.2.1, q.2.2.1, q.2.2.2.1, metL Z.1)), nI (Z.1.length / 3)) else (([], (zRef Z 5).2), -1)
/-- behind n ticks with the path's delay so: needed or read -/
def gotS (π : Pl) (dl : Nat → Nat) (w : Wd) (p e n i : Nat) : Nat := if i = 0 then (runS π (π.1 3) (fu dl p e) n w).1 2 else (runS π (π.1 3) (fu dl p e) n w).1 4
def canS (q : Td) (p e : Nat) : Bool := q.2.2.2.2.all (fun r => decide (q.2.2.1.1 0 + r.1 ≤ 999) && (gotS q.1 q.2.1 q.2.2.1 p e r.1 r.2.1 == r.2.2))
def bitsS (q : Td) (p : Nat) : Nat → Nat
  | 0 => 0
  | n + 1 => bitsS q p n + (if canS q p (n + 1) then 2 ^ (n + 1) else 0)
def delaysS (Z : Zs) (a : Int32) : Int32 := match Z.2.2.2.2 with
  | none => -1
  | some q => match ixS a (q.1.1 6) with
    | none => -1
    | some p => nI (bitsS q p 9)
def likeS (q : Td) (p n i e : Nat) : Nat := (List.range 9).countP (fun o => canS q p e && canS q p (o + 1) && (gotS q.1 q.2.1 q.2.2.1 p e n i == gotS q.1 q.2.1 q.2.2.1 p (o + 1) n i))
def mostS (q : Td) (p n i : Nat) : Nat := forN 9 (fun e m => maxS (likeS q p n i (e + 1)) m) 0
/-- the best of the places 2 .. n + 1 (the tick's twofold and 0 or 1) -/
def tellS (q : Td) (p : Nat) : Nat → Option (Nat × Nat)
  | 0 => none
  | n + 1 => match tellS q p n with
    | none => some (n + 2, mostS q p ((n + 2) / 2) ((n + 2) % 2))
    | some (b, m) => if mostS q p ((n + 2) / 2) ((n + 2) % 2) < m then some (n + 2, mostS q p ((n + 2) / 2) ((n + 2) % 2)) else some (b, m)
def tellsS (Z : Zs) (a b : Int32) : Int32 := match Z.2.2.2.2 with
  | none => -1
  | some q => match ixS a (q.1.1 6) with
    | none => -1
    | some p => match ixS b 3 with
      | none => -1
      | some j => if bitsS q p 9 = 0 then -1 else match tellS q p (2 * minS 60 (999 - q.2.2.1.1 0)) with
        | none => -1
        | some (b, m) => if j = 0 then nI (b / 2) else if j = 1 then nI (b % 2) else nI m
/-! acts -/
def pushS (us : List Wd) (w : Wd) : List Wd := (if us.length = 20 then us.tail else us) ++ [w]
/-- n ticks; how many were sent, how many lost by draws; the seed -/
def actsS (π : Pl) (dl : Nat → Nat) (dr : Bool) : Nat → Wd × Nat × Nat × Nat → Wd × Nat × Nat × Nat
  | 0, q => q
  | n + 1, q =>
    let r := actsS π dl dr n q
    let T := tickS π (π.1 3) dl dr r.1 r.2.2.2
    (T.1, r.2.1 + T.2.1, r.2.2.1 + T.2.2.1, T.2.2.2.2)
def ticksS (Z : Zs) (a : Int32) : Zs × Int32 := match Z.2.2.2.2 with
  | none => (zRef Z 2, -1)
  | some q => match ixS a 101 with
    | none => (zRef Z 2, -1)
    | some n => if n = 0 ∨ 999 < q.2.2.1.1 0 + n then (zRef Z 2, -1) else
      ((Z.1, Z.2.1, Z.2.2.1, Z.2.2.2.1, some (q.1, q.2.1, (actsS q.1 q.2.1 false n (q.2.2.1, 0, 0, 0)).1, pushS q.2.2.2.1 q.2.2.1, q.2.2.2.2)), nI (actsS q.1 q.2.1 false n (q.2.2.1, 0, 0, 0)).2.1)
def chanceS (Z : Zs) (a : Int32) : Zs × Int32 := match Z.2.2.2.2 with
  | none => (zRef Z 2, -1)
  | some q => match ixS a 101 with
    | none => (zRef Z 2, -1)
    | some n => if n = 0 ∨ 999 < q.2.2.1.1 0 + n then (zRef Z 2, -1) else
      ((Z.1, Z.2.1, (actsS q.1 q.2.1 true n (q.2.2.1, 0, 0, Z.2.2.1)).2.2.2, Z.2.2.2.1, some (q.1, q.2.1, (actsS q.1 q.2.1 true n (q.2.2.1, 0, 0, Z.2.2.1)).1, pushS q.2.2.2.1 q.2.2.1, q.2.2.2.2)), nI (actsS q.1 q.2.1 true n (q.2.2.1, 0, 0, Z.2.2.1)).2.2.1)
def actZ (Z : Zs) (q : Td) (w : Wd) : Zs := (Z.1, Z.2.1, Z.2.2.1, Z.2.2.2.1, some (q.1, q.2.1, w, pushS q.2.2.2.1 q.2.2.1, q.2.2.2.2))
def joinZ (Z : Zs) (a b : Int32) : Zs × Int32 := match Z.2.2.2.2 with
  | none => (zRef Z 3, nI 0)
  | some q => match ixS a (q.1.1 6) with
    | none => (zRef Z 3, nI 0)
    | some p => match ixS b 1000 with
      | none => (zRef Z 3, nI 0)
      | some k => if q.2.2.1.2.1 p 0 = 1 ∨ q.2.2.1.2.1 p 1 = 1 then (zRef Z 3, nI 0) else (actZ Z q (joinS q.1 q.2.2.1 p k).1, bI (joinS q.1 q.2.2.1 p k).2)
def killS (Z : Zs) (a : Int32) : Zs × Int32 := match Z.2.2.2.2 with
  | none => (zRef Z 3, nI 0)
  | some q => match ixS a (q.1.1 6) with
    | none => (zRef Z 3, nI 0)
    | some p => if freS q.2.2.1 p then (actZ Z q (dieS q.2.2.1 p), nI 1) else (zRef Z 3, nI 0)
def spoilS (Z : Zs) (a : Int32) : Zs × Int32 := match Z.2.2.2.2 with
  | none => (zRef Z 3, nI 0)
  | some q => match ixS a (q.1.1 6) with
    | none => (zRef Z 3, nI 0)
    | some p => if freS q.2.2.1 p ∧ q.2.2.1.2.1 p 5 = 0 then (actZ Z q (wpt q.2.2.1 p 5 1), nI 1) else (zRef Z 3, nI 0)
def undoS (Z : Zs) : Zs × Int32 := match Z.2.2.2.2 with
  | none => (zRef Z 4, nI 0)
  | some q => match q.2.2.2.1.getLast? with
    | none => (zRef Z 4, nI 0)
    | some w => ((Z.1, Z.2.1, Z.2.2.1, Z.2.2.2.1, some (q.1, q.2.1, w, q.2.2.2.1.dropLast, q.2.2.2.2)), nI 1)
/-! what holds of the state -/
def nmOK (π : Pl) : Prop := ∀ p, p < π.1 6 → 1 ≤ (π.2.1 p).length ∧ (π.2.1 p).length ≤ 6 ∧ ∀ c ∈ π.2.1 p, 1 ≤ c ∧ c ≤ 26
def tdOK (q : Td) : Prop := πOK q.1 ∧ nmOK q.1 ∧ (∀ p, p < q.1.1 6 → q.2.1 p = q.1.2.2.1 p) ∧ (∀ p, q.2.1 p ≤ 9999) ∧ gW q.1 q.2.2.1 ∧ (∀ w ∈ q.2.2.2.1, gW q.1 w) ∧ q.2.2.2.1.length ≤ 20 ∧ q.2.2.2.2.length ≤ 16 ∧ ∀ r ∈ q.2.2.2.2, r.1 ≤ 60 ∧ r.2.1 ≤ 1 ∧ r.2.2 ≤ 200
def zOK (Z : Zs) : Prop := Z.1.length ≤ 1600 ∧ (∀ b ∈ Z.1, b < 256) ∧ Z.2.2.1 < 2147483648 ∧ (∀ q, Z.2.2.2.1 = some q → 0 < q.1 ∧ q.1 ≤ 6 ∧ q.2 ≤ 1600) ∧ ∀ q, Z.2.2.2.2 = some q → tdOK q
theorem tdOK.dl {q : Td} (h : tdOK q) : ∀ p, p < q.1.1 6 → 1 ≤ q.2.1 p ∧ q.2.1 p ≤ 9 := fun p hp => by
  rw [h.2.2.1 p hp]
  exact h.1.2.2.2.2.2.2.1 p hp
/-! the class -/
def HW (f : FI) (x : Nat) (π : Pl) (dl : Nat → Nat) (w : Wd) : Prop := ∃ m, CW f x π (π.1 3) dl (w.1 0) w m w.2.2.2.2.1 ∧ PI π w m
def packC : List Nat → Nat
  | [] => 0
  | c :: l => c + 32 * packC l
def PTp (f : FI) (A : Nat) (tp : List Nat) : Prop := f A 1 = nI tp.length ∧ ∀ (k b : Nat), tp[k]? = some b → f (A + 1) k = nI b
def PFl (f : FI) (A : Nat) (fl : Option (Nat × Nat)) : Prop := match fl with
  | none => f (A + 38) 1 = nI 0
  | some q => f (A + 38) 1 = nI q.1 ∧ f (A + 38) 2 = nI q.2
/-- the letters of the own words -/
def ownL : List (List Nat) := [[19, 20, 18, 5, 1, 13], [21, 14, 9, 20], [23, 9, 14, 4, 15, 23], [11, 5, 25], [16, 1, 20, 8], [4, 5, 12, 1, 25], [10, 15, 9, 14], [1, 20], [20, 15, 11, 5, 14], [12, 15, 19, 19], [4, 18, 15, 16, 19], [16, 9, 3, 11, 19], [18, 5, 1, 4, 19], [23, 1, 9, 20, 19], [20, 9, 3, 11], [14, 21, 13, 2, 5, 18], [6, 18, 15, 13], [3, 23, 14, 4], [6, 12, 25, 9, 14, 7], [6, 1, 9, 12, 19], [18, 5, 1, 4, 25], [1, 8, 5, 1, 4], [9, 6], [15, 18], [1, 14, 4], [14, 15, 20], [1, 12, 12], [13, 9, 14], [13, 1, 24]]
def POw (f : FI) (A : Nat) : Prop := ∀ (k : Nat) (o : List Nat), ownL[k]? = some o → f (A + 39) k = nI (packC o)
def PUn (fR : FRt) (f : FI) (A na u : Nat) (π : Pl) (dl : Nat → Nat) (us : List Wd) : Prop := ∀ (k : Nat) (w : Wd), us[k]? = some w → ∃ y, fR (A + 104) ((na + 20 - us.length + k) % 20) = some y ∧ fR y 7 = some u ∧ HW f y π dl w
def PTd (fR : FRt) (f : FI) (A u na : Nat) (q : Td) : Prop := CP f u q.1 ∧ (∀ p, p < q.1.1 6 → f (u + 1) p = nI (packC (q.1.2.1 p))) ∧ HW f (A + 40) q.1 q.2.1 q.2.2.1 ∧ f A 12 = nI q.2.2.2.1.length ∧ PUn fR f A na u q.1 q.2.1 q.2.2.2.1 ∧ f A 14 = nI q.2.2.2.2.length ∧ ∀ (k : Nat) (r : Nat × Nat × Nat), q.2.2.2.2[k]? = some r → f (A + 105) (3 * k) = nI r.1 ∧ f (A + 105) (3 * k + 1) = nI r.2.1 ∧ f (A + 105) (3 * k + 2) = nI r.2.2
def PSr (fR : FRt) (f : FI) (A u : Nat) (fl : Option (Nat × Nat)) (td : Option Td) : Prop := PFl f A fl ∧ POw f A ∧ f A 4 = bI td.isSome ∧ ∃ na, na < 20 ∧ f A 11 = nI na ∧ match td with
  | none => f A 12 = nI 0 ∧ f A 14 = nI 0
  | some q => PTd fR f A u na q
def PSx (fR : FRt) (f : FI) (A u : Nat) (Z : Zs) : Prop := PTp f A Z.1 ∧ (∀ i, i < 6 → f (A + 2) i = nI (Z.2.1 i)) ∧ f (A + 3) 0 = nI Z.2.2.1 ∧ PSr fR f A u Z.2.2.2.1 Z.2.2.2.2
/-- the references: the plan u, the spare one v, the worlds that were made for undoing -/
def PRs (sh : Sh) (fR : FRt) (A u v : Nat) : Prop := StA sh fR A ∧ ((u = A + 4 ∧ v = A + 21) ∨ (u = A + 21 ∧ v = A + 4)) ∧ fR A 5 = some u ∧ fR A 6 = some v ∧ fR (A + 40) 7 = some u ∧ (∃ p, fR (A + 38) 6 = some p ∧ (p = A + 4 ∨ p = A + 21)) ∧ (∃ q, fR (A + 38) 7 = some q ∧ StF sh fR q ∧ A + 4 ≤ q ∧ q + 3 ≤ A + 38) ∧ A + 155 ≤ sh.length ∧ (∀ k y, k < 20 → fR (A + 104) k = some y → StW sh fR y ∧ A + 155 ≤ y ∧ y + 32 ≤ sh.length ∧ ∃ p, fR y 7 = some p ∧ StPl sh fR p ∧ p + 17 ≤ A + 38) ∧ ∀ k k' y y', k < 20 → k' < 20 → k ≠ k' → fR (A + 104) k = some y → fR (A + 104) k' = some y' → y + 32 ≤ y' ∨ y' + 32 ≤ y
def PSt (sh : Sh) (fR : FRt) (f : FI) (A : Nat) (Z : Zs) : Prop := ∃ u v, PRs sh fR A u v ∧ PSx fR f A u Z
theorem PRs.pl {sh : Sh} {fR : FRt} {A u v : Nat} (h : PRs sh fR A u v) : StPl sh fR u ∧ StPl sh fR v ∧ A + 4 ≤ u ∧ u + 17 ≤ A + 38 ∧ A + 4 ≤ v ∧ v + 17 ≤ A + 38 := by
  obtain ⟨h1, h2, -⟩ := h
  rcases h2 with ⟨rfl, rfl⟩ | ⟨rfl, rfl⟩
  · exact ⟨h1.2.2.2.2.2.1, h1.2.2.2.2.2.2, by omega, by omega, by omega, by omega⟩
  · exact ⟨h1.2.2.2.2.2.2, h1.2.2.2.2.2.1, by omega, by omega, by omega, by omega⟩
/-- the places that count -/
def kpP (A u r k : Nat) : Prop := (r = A ∧ k ≠ 1) ∨ (r = A + 38 ∧ k < 3) ∨ r = A + 39 ∨ (u ≤ r ∧ r < u + 17 ∧ r ≠ u + 7 ∧ r ≠ u + 10 ∧ r ≠ u + 13 ∧ r ≠ u + 16) ∨ (A + 40 ≤ r ∧ r < A + 72 ∧ r ≠ A + 67 ∧ ¬ (r = A + 40 ∧ 13 ≤ k)) ∨ r = A + 105 ∨ A + 155 ≤ r
theorem HW.keep {f f' : FI} {x : Nat} {π : Pl} {dl : Nat → Nat} {w : Wd} (h : HW f x π dl w) (e : Sx [11, 12] x f f') : HW f' x π dl w := by
  obtain ⟨m, h1, h2⟩ := h
  exact ⟨m, h1.sm e, h2⟩
theorem CP.keep {f f' : FI} {u : Nat} {π : Pl} (h : CP f u π) (e : ∀ r k, u ≤ r → r < u + 17 → r ≠ u + 7 → r ≠ u + 10 → r ≠ u + 13 → r ≠ u + 16 → f' r k = f r k) : CP f' u π := h.fr (x := u + 17) (Nat.le_refl _) (f' := fun r k => if u ≤ r ∧ r < u + 17 then f' r k else f r k) (fun r k a b c d g => by
    show (if u ≤ r ∧ r < u + 17 then f' r k else f r k) = f r k
    split
    · rename_i hz
      exact e r k hz.1 hz.2 b c d g
    · rfl) |> fun h2 => by
  obtain ⟨h1, h2, h3, h4⟩ := h2
  have ev : ∀ j k, j < 17 → (if u ≤ u + j ∧ u + j < u + 17 then f' (u + j) k else f (u + j) k) = f' (u + j) k := fun j k hj => if_pos ⟨by omega, by omega⟩
  refine ⟨fun i hi => ?_, fun k hk => ?_, fun k hk => ?_, fun i hi => ?_⟩
  · have := h1 i hi
    dsimp only at this
    rw [if_pos ⟨Nat.le_refl _, by omega⟩] at this
    exact this
  · have := h2 k hk
    dsimp only at this
    rw [ev 2 k (by decide)] at this
    exact this
  · have := h3 k hk
    unfold CPj at this ⊢
    dsimp only at this
    split at this
    · rw [ev 3 k (by decide)] at this; exact this
    · rw [ev 3 k (by decide), ev 4 k (by decide)] at this; exact this
  · have := h4 i hi
    unfold CPf at this ⊢
    dsimp only at this
    split at this
    · have e2 := ev (5 + 3 * i) 2 (by omega)
      rw [← Nat.add_assoc] at e2
      rw [e2] at this; exact this
    · refine this.congr (fun k => ?_) (fun k => ?_)
      · have e2 := ev (5 + 3 * i) k (by omega)
        rw [← Nat.add_assoc] at e2
        exact e2.symm
      · have e2 := ev (5 + 3 * i + 1) k (by omega)
        rw [← Nat.add_assoc, ← Nat.add_assoc] at e2
        exact e2.symm
theorem PSr.keep {sh : Sh} {fR : FRt} {f f' : FI} {A u v : Nat} {fl : Option (Nat × Nat)} {td : Option Td} (hr : PRs sh fR A u v) (h : PSr fR f A u fl td) (e : ∀ r k, kpP A u r k → f' r k = f r k) : PSr fR f' A u fl td := by
  obtain ⟨-, -, hu1, hu2, -, -⟩ := hr.pl
  obtain ⟨h4, h5, h6, na, h7, h8, h9⟩ := h
  refine ⟨?_, fun k o hk => by rw [e _ _ (by unfold kpP; omega)]; exact h5 k o hk, by rw [e _ _ (by unfold kpP; omega)]; exact h6, na, h7, by rw [e _ _ (by unfold kpP; omega)]; exact h8, ?_⟩
  · unfold PFl at h4 ⊢
    split at h4
    · rw [e _ _ (by unfold kpP; omega)]; exact h4
    · rw [e _ _ (by unfold kpP; omega), e _ _ (by unfold kpP; omega)]; exact h4
  · split
    · rw [e _ _ (by unfold kpP; omega), e _ _ (by unfold kpP; omega)]
      exact h9
    · obtain ⟨t1, t2, t3, t4, t5, t6, t7⟩ := h9
      refine ⟨t1.keep (fun r k a b c d g i => e r k (by unfold kpP; omega)), fun p hp => by rw [e _ _ (by unfold kpP; omega)]; exact t2 p hp, t3.keep (fun c hc j k hj ec => ?_), by rw [e _ _ (by unfold kpP; omega)]; exact t4, fun k w hk => ?_, by rw [e _ _ (by unfold kpP; omega)]; exact t6, fun k r hk => ?_⟩
      · have n27 : j ≠ 27 := fun z => by subst z; exact hc (by rw [← ec]; show 11 ∈ [11, 12]; decide)
        have n12 : ¬ (j = 0 ∧ 13 ≤ k) := fun z => by
          obtain ⟨rfl, z2⟩ := z
          have : comp 0 k = 12 := by
            show (if k < 8 then 0 else if k ≤ 12 then 1 else 12) = 12
            rw [if_neg (by omega), if_neg (by omega)]
          exact hc (by rw [← ec, this]; decide)
        exact e _ _ (by unfold kpP; omega)
      · obtain ⟨y, y1, y2, y3⟩ := t5 k w hk
        have hy := hr.2.2.2.2.2.2.2.2.1 _ y (Nat.mod_lt _ (by decide)) y1
        exact ⟨y, y1, y2, y3.keep (fun c hc j i hj ec => e _ _ (by unfold kpP; omega))⟩
      · rw [e _ _ (by unfold kpP; omega), e _ _ (by unfold kpP; omega), e _ _ (by unfold kpP; omega)]
        exact t7 k r hk
theorem PTp.keep {f f' : FI} {A : Nat} {tp : List Nat} (h : PTp f A tp) (e1 : f' A 1 = f A 1) (e : ∀ k, f' (A + 1) k = f (A + 1) k) : PTp f' A tp := ⟨by rw [e1]; exact h.1, fun k b hk => by rw [e]; exact h.2 k b hk⟩
theorem PSx.keep {sh : Sh} {fR : FRt} {f f' : FI} {A u v : Nat} {Z : Zs} (hr : PRs sh fR A u v) (h : PSx fR f A u Z) (e : ∀ r k, (kpP A u r k ∨ r = A ∨ r = A + 1 ∨ r = A + 2 ∨ r = A + 3) → f' r k = f r k) : PSx fR f' A u Z := by
  obtain ⟨h1, h2, h3, h4⟩ := h
  exact ⟨h1.keep (e _ _ (by omega)) (fun k => e _ _ (by omega)), fun i hi => by rw [e _ _ (by omega)]; exact h2 i hi, by rw [e _ _ (by omega)]; exact h3, PSr.keep hr h4 (fun r k z => e r k (Or.inl z))⟩
/-- what the class leaves as it was: the script, the reference -/
def FrP (A : Nat) (sh : Sh) (fR : FRt) (f : FI) (sh' : Sh) (fR' : FRt) (f' : FI) : Prop := (∀ r k, (r = 0 ∨ (A + 117 ≤ r ∧ r < A + 155)) → f' r k = f r k ∧ fR' r k = fR r k) ∧ ∀ r, r < sh.length → sh'[r]? = sh[r]?
theorem FrP.rf {A : Nat} {sh : Sh} {fR : FRt} {f : FI} : FrP A sh fR f sh fR f := ⟨fun _ _ _ => ⟨rfl, rfl⟩, fun _ _ => rfl⟩
def RP (A : Nat) (sh : Sh) (fR : FRt) (f : FI) (g : FL) (Z' : Zs) (y : Int32) : Option Value → Hp → Prop := fun r h => ∃ sh' f' fR', r = some (.int y) ∧ h = (sh', f', g, fR') ∧ PSt sh' fR' f' A Z' ∧ FrP A sh fR f sh' fR' f'
/-! the reference -/
def HM (f : FI) (B v : Nat) (π : Pl) (w : Wd) : Prop := ∃ m, RM f B v w m ∧ PI π w m
def packM (l : List Nat) : Nat := l.foldl (fun a c => a * 256 + (c + 96)) 0
def wZ : Wd := (fun _ => 0, fun _ _ => 0, [], [], [], fun _ => false, [])
def MTd (f : FI) (g : FL) (B b : Nat) (q : Td) : Prop := TM f B b q.1 (q.1.1 3) q.2.1 ∧ (∀ p, p < q.1.1 6 → g (B + 15) (4 * b + p) = lN (packM (q.1.2.1 p))) ∧ HM f B 0 q.1 q.2.2.1 ∧ (∃ uf, uf < 20 ∧ f B 49 = nI uf ∧ ∀ (k : Nat) (w : Wd), q.2.2.2.1[k]? = some w → HM f B (2 + (uf + k) % 20) q.1 w) ∧ f B 50 = nI q.2.2.2.1.length ∧ f B 64 = nI q.2.2.2.2.length ∧ ∀ (k : Nat) (r : Nat × Nat × Nat), q.2.2.2.2[k]? = some r → f (B + 34) k = nI r.1 ∧ f (B + 35) k = nI r.2.1 ∧ f (B + 36) k = nI r.2.2
def MTp (f : FI) (B : Nat) (tp : List Nat) : Prop := f B 1 = nI tp.length ∧ ∀ (k b : Nat), tp[k]? = some b → f (B + 1) k = nI b
def MTn (f : FI) (B b : Nat) : Prop := b = 0 ∧ f (B + 2) 0 = nI 0 ∧ f (B + 6) 0 = nI 0 ∧ RM f B 0 wZ [] ∧ f B 50 = nI 0 ∧ f B 64 = nI 0 ∧ (∃ uf, uf < 20 ∧ f B 49 = nI uf)
def MSr (f : FI) (g : FL) (B : Nat) (fl : Option (Nat × Nat)) (td : Option Td) : Prop := (f B 10 = nI ((fl.map (fun q => q.1)).getD 0) ∧ f B 11 = oI (fl.map (fun q => q.2))) ∧ f B 41 = bI td.isSome ∧ f B 60 = bI false ∧ (∀ j, j < 8 → ∃ n, n ≤ 9999 ∧ f (B + 7) j = nI n) ∧ ∃ b, b < 2 ∧ f B 13 = nI b ∧ match td with
  | none => MTn f B b
  | some q => MTd f g B b q
def MSt (f : FI) (g : FL) (B : Nat) (Z : Zs) : Prop := MTp f B Z.1 ∧ (∀ i, i < 6 → f (B + 22) i = nI (Z.2.1 i)) ∧ g B 51 = lN Z.2.2.1 ∧ MSr f g B Z.2.2.2.1 Z.2.2.2.2
/-- the places that count -/
def kpM (B r k : Nat) : Prop := (r = B ∧ (k = 10 ∨ k = 11 ∨ k = 13 ∨ k = 41 ∨ k = 49 ∨ k = 50 ∨ k = 52 ∨ k = 60 ∨ k = 64)) ∨ (B + 2 ≤ r ∧ r ≤ B + 14) ∨ (B + 23 ≤ r ∧ r ≤ B + 28 ∧ ¬ lyr B 1 r k) ∨ r = B + 29 ∨ (B + 34 ≤ r ∧ r ≤ B + 36)
theorem HM.keep {f f' : FI} {B v : Nat} {π : Pl} {w : Wd} (h : HM f B v π w) (hv : v ≠ 1) (e : ∀ r k, kpM B r k → f' r k = f r k) : HM f' B v π w := by
  obtain ⟨m, h1, h2⟩ := h
  exact ⟨m, h1.oly (u := 1) (fun z => hv z.symm) (fun j k a b c => e _ _ (Or.inr (Or.inr (Or.inl ⟨by omega, by omega, c⟩)))), h2⟩
theorem MSr.keep {f f' : FI} {g g' : FL} {B : Nat} {fl : Option (Nat × Nat)} {td : Option Td} (h : MSr f g B fl td) (e : ∀ r k, kpM B r k → f' r k = f r k) (eg : ∀ k, g' (B + 15) k = g (B + 15) k) : MSr f' g' B fl td := by
  obtain ⟨⟨h1, h1'⟩, h2, h3, h4, b, hb, h5, h6⟩ := h
  refine ⟨⟨by rw [e _ _ (by unfold kpM; omega)]; exact h1, by rw [e _ _ (by unfold kpM; omega)]; exact h1'⟩, by rw [e _ _ (by unfold kpM; omega)]; exact h2, by rw [e _ _ (by unfold kpM; omega)]; exact h3, fun j hj => by rw [e _ _ (by unfold kpM; omega)]; exact h4 j hj, b, hb, by rw [e _ _ (by unfold kpM; omega)]; exact h5, ?_⟩
  split
  · obtain ⟨t1, t2, t3, t4, t5, t6, t7⟩ := h6
    refine ⟨t1, by rw [e _ _ (by unfold kpM; omega)]; exact t2, by rw [e _ _ (by unfold kpM; omega)]; exact t3, t4.oly (u := 1) (by decide) (fun j k a b c => e _ _ (Or.inr (Or.inr (Or.inl ⟨by omega, by omega, c⟩)))), by rw [e _ _ (by unfold kpM; omega)]; exact t5, by rw [e _ _ (by unfold kpM; omega)]; exact t6, by rw [e _ _ (by unfold kpM; omega)]; exact t7⟩
  · obtain ⟨t1, t2, t3, ⟨uf, t4, t4', t4''⟩, t5, t6, t7⟩ := h6
    obtain ⟨p1, p2, p3, p4⟩ := t1
    refine ⟨⟨p1.congr (fun j a b i => e _ _ (by unfold kpM; omega)) (e _ _ (by unfold kpM; omega)), by rw [e _ _ (by unfold kpM; omega)]; exact p2, fun p hp => by rw [e _ _ (by unfold kpM; omega)]; exact p3 p hp, p4⟩, fun p hp => by rw [eg]; exact t2 p hp, t3.keep (by decide) e, ⟨uf, t4, by rw [e _ _ (by unfold kpM; omega)]; exact t4', fun k w hk => (t4'' k w hk).keep (by omega) e⟩, by rw [e _ _ (by unfold kpM; omega)]; exact t5, by rw [e _ _ (by unfold kpM; omega)]; exact t6, fun k r hk => ?_⟩
    rw [e (B + 34) k (by unfold kpM; omega), e (B + 35) k (by unfold kpM; omega), e (B + 36) k (by unfold kpM; omega)]
    exact t7 k r hk
theorem MTp.keep {f f' : FI} {B : Nat} {tp : List Nat} (h : MTp f B tp) (e1 : f' B 1 = f B 1) (e : ∀ k, f' (B + 1) k = f (B + 1) k) : MTp f' B tp := ⟨by rw [e1]; exact h.1, fun k b hk => by rw [e]; exact h.2 k b hk⟩
theorem MSt.keep {f f' : FI} {g g' : FL} {B : Nat} {Z : Zs} (h : MSt f g B Z) (e : ∀ r k, (kpM B r k ∨ (r = B ∧ k = 1) ∨ r = B + 1 ∨ r = B + 22) → f' r k = f r k) (eg : ∀ k, g' (B + 15) k = g (B + 15) k) (e51 : g' B 51 = g B 51) : MSt f' g' B Z := by
  obtain ⟨h1, h2, h3, h4⟩ := h
  exact ⟨h1.keep (e _ _ (by omega)) (fun k => e _ _ (by omega)), fun i hi => by rw [e _ _ (by omega)]; exact h2 i hi, by rw [e51]; exact h3, h4.keep (fun r k z => e r k (Or.inl z)) eg⟩
/-- what the reference leaves as it was: all but its own cells -/
def RQ (B : Nat) (sh : Sh) (fR : FRt) (f : FI) (g : FL) (Z' : Zs) (y : Int32) : Option Value → Hp → Prop := fun r h => ∃ f' g', r = some (.int y) ∧ h = (sh, f', g', fR) ∧ MSt f' g' B Z' ∧ ∀ r k, (r < B ∨ B + 38 ≤ r) → f' r k = f r k
