/-! WHAT BOTH SIDES DO, as functions of plain values: worlds, formulas, a tick -/
abbrev Op : Type := Nat × Nat
/-- a segment: path, number, first byte, how many, tick sent, tick of arrival (none: lost, or arrived), flies, wrong -/
abbrev Sg : Type := Nat × Nat × Nat × Nat × Nat × Option Nat × Bool × Bool
/-- an answer: path, number of its segment, needed, edge, tick of arrival; the tick in which its segment was sent (no cell holds this) -/
abbrev An : Type := Nat × Option Nat × Nat × Nat × Nat × Nat
abbrev Kp : Type := Nat × Nat × Nat
/-- a world: numbers (0 tick, 1 sent, 2 needed, 3 edge, 4 read, 5 sent in all, 10 .. 13 refusals), paths (0 joined, 1 dead, 2 cwnd, 3 failed, 4 numbers, 5 spoilt), segments, pieces that are needed, answers, bytes taken, what is kept -/
abbrev Wd : Type := (Nat → Nat) × (Nat → Nat → Nat) × List Sg × List (Nat × Nat) × List An × (Nat → Bool) × List Kp
/-- a plan: numbers (0 statements, 1 length, 2 unit, 3 window, 4 key, 5 loss, 6 paths), names, delays, joins told, formulas (0 drops, 1 picks, 2 reads, 3 waits) -/
abbrev Pl : Type := (Nat → Nat) × (Nat → List Nat) × (Nat → Nat) × (Nat → Option (Nat × Nat)) × (Nat → Option (List Op))
def fu {α : Type} (f : Nat → α) (i : Nat) (v : α) : Nat → α := fun j => if j = i then v else f j
def wsc (w : Wd) (i v : Nat) : Wd := (fu w.1 i v, w.2)
def wpt (w : Wd) (p i v : Nat) : Wd := (w.1, up2 w.2.1 p i v, w.2.2)
def wsg (w : Wd) (l : List Sg) : Wd := (w.1, w.2.1, l, w.2.2.2)
def wpc (w : Wd) (l : List (Nat × Nat)) : Wd := (w.1, w.2.1, w.2.2.1, l, w.2.2.2.2)
def wan (w : Wd) (l : List An) : Wd := (w.1, w.2.1, w.2.2.1, w.2.2.2.1, l, w.2.2.2.2.2)
def wtk (w : Wd) (t : Nat → Bool) : Wd := (w.1, w.2.1, w.2.2.1, w.2.2.2.1, w.2.2.2.2.1, t, w.2.2.2.2.2.2)
def wkp (w : Wd) (l : List Kp) : Wd := (w.1, w.2.1, w.2.2.1, w.2.2.2.1, w.2.2.2.2.1, w.2.2.2.2.2.1, l)
def forN {α : Type} : Nat → (Nat → α → α) → α → α
  | 0, _, s => s
  | n + 1, b, s => b n (forN n b s)
/-! formulas -/
def lim (v : Int) : Int := if v > 1000000 then 1000000 else if v < -1000000 then -1000000 else v
def two (sort : Nat) (a b : Int) : Int :=
  if sort = 31 then lim (a + b) else if sort = 32 then lim (a - b) else if sort = 33 then lim (a * b)
  else if sort = 34 then (if b = 0 then 0 else lim (Int.fdiv a b)) else if sort = 35 then (if b = 0 then 0 else lim (a - b * Int.fdiv a b))
  else if sort = 36 then (if a < b then a else b) else if sort = 37 then (if a > b then a else b)
  else if sort = 38 then (if a < b then 1 else 0) else if sort = 39 then (if a > b then 1 else 0) else if sort = 40 then (if a = b then 1 else 0)
  else if sort = 41 then (if a = 1 ∧ b = 1 then 1 else 0) else (if a = 1 ∨ b = 1 then 1 else 0)
def ev1 (fa : Nat → Int) (st : List Int) (o : Op) : List Int :=
  if o.1 = 0 then (o.2 : Int) :: st
  else if o.1 = 30 then 1 :: st
  else if o.1 < 30 then fa o.1 :: st
  else if o.1 = 43 then (match st with
    | a :: s => (1 - a) :: s
    | [] => [])
  else if o.1 = 44 then (match st with
    | c :: b :: a :: s => (if a = 1 then b else c) :: s
    | _ => [])
  else match st with
    | b :: a :: s => two o.1 a b :: s
    | _ => []
def ev (ops : List Op) (fa : Nat → Int) : Int := (ops.foldl (ev1 fa) []).headD 0
/-! worlds -/
def keepS (w : Wd) (q : Kp) : Wd := wkp w ((if w.2.2.2.2.2.2.length = 40 then w.2.2.2.2.2.2.tail else w.2.2.2.2.2.2) ++ [q])
def refS (w : Wd) (c : Nat) : Wd := wsc w (10 + c) (w.1 (10 + c) + 1)
def freS (w : Wd) (p : Nat) : Bool := w.2.1 p 0 == 1 && w.2.1 p 1 == 0
def entS (w : Wd) (p : Nat) : Wd := wpt (wpt w p 0 1) p 2 2000
def tokS (π : Pl) : Nat := (31 * π.1 4 + 17) % 1000
def joinS (π : Pl) (w : Wd) (p tok : Nat) : Wd × Bool := if w.2.1 p 0 = 1 ∨ w.2.1 p 1 = 1 ∨ tok ≠ tokS π then (refS w 0, false) else (entS w p, true)
def joinsS (π : Pl) (w : Wd) : Wd := forN (π.1 6) (fun p w => match π.2.2.2.1 p with
  | some (t, tok) => if t = w.1 0 then (joinS π w p tok).1 else w
  | none => w) w
def flyS (w : Wd) (p : Nat) : Nat := w.2.2.1.countP (fun s => s.2.2.2.2.2.2.1 && s.1 == p)
def allS (π : Pl) (w : Wd) : Nat := forN (π.1 6) (fun p n => if freS w p then n + w.2.1 p 2 else n) 0
def growS (π : Pl) (w : Wd) (p : Nat) : Wd := wpt w p 2 (if 99000 < w.2.1 p 2 + 1000000 / allS π w then 99000 else w.2.1 p 2 + 1000000 / allS π w)
def sgFl (s : Sg) (b : Bool) : Sg := (s.1, s.2.1, s.2.2.1, s.2.2.2.1, s.2.2.2.2.1, s.2.2.2.2.2.1, b, s.2.2.2.2.2.2.2)
def sgAr (s : Sg) (a : Option Nat) : Sg := (s.1, s.2.1, s.2.2.1, s.2.2.2.1, s.2.2.2.2.1, a, s.2.2.2.2.2.2)
def maxS (a b : Nat) : Nat := if b < a then a else b
def atS (w : Wd) (p n : Nat) : Option Nat := w.2.2.1.findIdx? (fun s => s.1 == p && s.2.1 == n && s.2.2.2.2.2.2.1)
def hear1 (π : Pl) (w : Wd) (a : An) : Wd :=
  let w1 := wsc (wsc w 2 (maxS a.2.2.1 (w.1 2))) 3 (maxS a.2.2.2.1 (w.1 3))
  match a.2.1 with
  | none => w1
  | some n => match atS w1 a.1 n with
    | none => w1
    | some k => growS π (wpt (wsg w1 (w1.2.2.1.modify k (fun s => sgFl s false))) a.1 3 0) a.1
def pcF (w : Wd) : Wd := wpc w (w.2.2.2.1.filter (fun q => decide (w.1 2 < q.1 + q.2)))
def hearS (π : Pl) (w : Wd) : Wd := pcF ((w.2.2.2.2.1.filter (fun a => a.2.2.2.2.1 == w.1 0)).foldl (hear1 π) (wan w (w.2.2.2.2.1.filter (fun a => !(a.2.2.2.2.1 == w.1 0)))))
def takS (w : Wd) (a n : Nat) : Wd := wtk w (fun b => (decide (a ≤ b) && decide (b < a + n)) || w.2.2.2.2.2.1 b)
def allTk (w : Wd) (a : Nat) : Nat → Bool
  | 0 => true
  | n + 1 => allTk w a n && w.2.2.2.2.2.1 (a + n)
def arr1 (win : Nat) (w : Wd) (s : Sg) : Wd :=
  if s.2.2.2.2.2.2.2 then refS w 1
  else if w.1 4 + win < s.2.2.1 + s.2.2.2.1 then refS w 2
  else if allTk w s.2.2.1 s.2.2.2.1 then refS w 3
  else takS w s.2.2.1 s.2.2.2.1
def due (t : Nat) (s : Sg) : Bool := s.2.2.2.2.2.1 == some t
def arrS (win : Nat) (w : Wd) : Wd := wsg ((w.2.2.1.filter (due (w.1 0))).foldl (arr1 win) w) (w.2.2.1.map (fun s => if due (w.1 0) s then sgAr s none else s))
def lackS (tk : Nat → Bool) : Nat → Nat → Nat
  | 0, b => b
  | n + 1, b => if tk b then lackS tk n (b + 1) else b
def lack (π : Pl) (w : Wd) : Nat := lackS w.2.2.2.2.2.1 (π.1 1 - w.1 4) (w.1 4)
def takenS (π : Pl) (w : Wd) : Nat := forN (π.1 1) (fun b n => if w.2.2.2.2.2.1 b then n + 1 else n) 0
def clampS (v : Int) (n : Nat) : Nat := if v < 0 then 0 else if v > n then n else v.toNat
def faR (π : Pl) (w : Wd) (k : Nat) : Int := if k = 1 then w.1 0 else if k = 9 then ((lack π w - w.1 4 : Nat) : Int) else if k = 10 then (takenS π w : Int) - w.1 4 - ((lack π w - w.1 4 : Nat) : Int) else 0
def manyS (π : Pl) (w : Wd) : Nat := match π.2.2.2.2 2 with
  | none => lack π w - w.1 4
  | some ops => clampS (ev ops (faR π w)) (lack π w - w.1 4)
def answS (π : Pl) (win : Nat) (dl : Nat → Nat) (w : Wd) (p : Nat) (n : Option Nat) (t : Nat) : Wd := wan w (w.2.2.2.2.1 ++ [(p, n, lack π w, w.1 4 + win, w.1 0 + dl p, t)])
def openS (π : Pl) (w : Wd) : Option Nat := (List.range (π.1 6)).find? (freS w)
def outS (π : Pl) (win : Nat) (dl : Nat → Nat) (rs : List Sg) (many : Nat) (w : Wd) : Wd :=
  let w1 := rs.foldl (fun w s => answS π win dl w s.1 (some s.2.1) s.2.2.2.2.1) w
  if rs.isEmpty && decide (0 < many) then (match openS π w1 with
    | some p => answS π win dl w1 p none (w1.1 0)
    | none => w1) else w1
def dieS (w : Wd) (p : Nat) : Wd :=
  if w.2.1 p 1 = 1 then w
  else
    let w1 := keepS (wpt w p 1 1) (2, p, w.1 0)
    let hit := fun s : Sg => s.1 == p && s.2.2.2.2.2.2.1
    pcF (wpc (wsg w1 (w1.2.2.1.map (fun s => if hit s then sgFl s false else s))) (w1.2.2.2.1 ++ (w1.2.2.1.filter hit).map (fun s => (s.2.2.1, s.2.2.2.1))))
def halfS (c : Nat) : Nat := if c / 2 < 1000 then 1000 else c / 2
def faW (w : Wd) (dl : Nat → Nat) (p k : Nat) : Int := if k = 1 then w.1 0 else if k = 2 then p else if k = 5 then dl p else if k = 6 then w.2.1 p 2 else if k = 7 then flyS w p else if k = 8 then w.2.1 p 3 else 0
def waitS (π : Pl) (dl : Nat → Nat) (w : Wd) (p : Nat) : Nat :=
  let v : Int := match π.2.2.2.2 3 with
    | none => 4 * dl p + 2
    | some ops => ev ops (faW w dl p)
  if v < 1 then 1 else if v > 99 then 99 else v.toNat
def failS (π : Pl) (dl : Nat → Nat) (w : Wd) (p : Nat) : Wd :=
  if freS w p then
    match w.2.2.1.findIdx? (fun s => s.1 == p && s.2.2.2.2.2.2.1 && decide (waitS π dl w p + s.2.2.2.2.1 ≤ w.1 0)) with
    | none => w
    | some k => match w.2.2.1[k]? with
      | none => w
      | some s =>
        let w1 := keepS w (0, p, s.2.2.1)
        let w2 := pcF (wpc (wsg w1 (w1.2.2.1.modify k (fun s => sgFl s false))) (w1.2.2.2.1 ++ [(s.2.2.1, s.2.2.2.1)]))
        let w3 := wpt (wpt w2 p 3 (w2.2.1 p 3 + 1)) p 2 (halfS (w2.2.1 p 2))
        if w3.2.1 p 3 = 3 then dieS w3 p else w3
  else w
def clearS (w : Wd) : Wd := wsg w (w.2.2.1.filter (fun s => s.2.2.2.2.2.2.1 || s.2.2.2.2.2.1.isSome))
def pickS (π : Pl) (dl : Nat → Nat) (w : Wd) (but : Option Nat) : Option (Nat × Int) := forN (π.1 6) (fun p best =>
  if but = some p ∨ freS w p = false ∨ w.2.1 p 2 ≤ 1000 * flyS w p then best
  else
    let v : Int := match π.2.2.2.2 1 with
      | none => dl p
      | some ops => ev ops (faW w dl p)
    match best with
    | some (_, least) => if v < least then some (p, v) else best
    | none => some (p, v)) none
/-- a tick's own numbers: sent, lost by draws, whether the first is lost by drops; the seed -/
abbrev Tk : Type := Wd × Nat × Nat × Bool × Nat
def drawS (x : Nat) : Nat := (1103515245 * x + 12345) % 2147483648
def faD (w : Wd) (dl : Nat → Nat) (p frm : Nat) (k : Nat) : Int := if k = 3 then w.2.1 p 4 else if k = 4 then frm else faW w dl p k
def lostS (π : Pl) (dl : Nat → Nat) (w : Wd) (p frm : Nat) : Bool := match π.2.2.2.2 0 with
  | none => false
  | some ops => ev ops (faD w dl p frm) == 1
def sendS (π : Pl) (dl : Nat → Nat) (dr : Bool) (T : Tk) (p frm many : Nat) : Tk :=
  let w := T.1
  let l0 := lostS π dl w p frm
  let x := if dr then drawS T.2.2.2.2 else T.2.2.2.2
  let hit := dr && decide (x / 64 % 100 < π.1 5)
  let s : Sg := (p, w.2.1 p 4, frm, many, w.1 0, (if l0 || hit then none else some (w.1 0 + dl p)), true, w.2.1 p 5 == 1)
  (wsc (wpt (wpt (wsg w (w.2.2.1 ++ [s])) p 5 0) p 4 (w.2.1 p 4 + 1)) 5 (w.1 5 + many), T.2.1 + 1, (if hit then T.2.2.1 + 1 else T.2.2.1), (if T.2.1 = 0 then l0 else T.2.2.2.1), x)
def blockS (w : Wd) : Option Nat := w.2.2.1.findIdx? (fun s => s.2.2.2.2.2.2.1 && decide (s.2.2.1 ≤ w.1 2) && decide (w.1 2 < s.2.2.1 + s.2.2.2.1))
def penS (π : Pl) (dl : Nat → Nat) (dr : Bool) (T : Tk) : Option Tk :=
  if T.1.1 1 = T.1.1 3 ∧ T.1.1 1 < π.1 1 then
    match blockS T.1 with
    | none => none
    | some k => match T.1.2.2.1[k]? with
      | none => none
      | some s => match pickS π dl T.1 (some s.1) with
        | none => none
        | some (p, _) =>
          let T1 := sendS π dl dr T p s.2.2.1 s.2.2.2.1
          some (keepS (wpt T1.1 s.1 2 (halfS (T1.1.2.1 s.1 2))) (1, s.1, s.2.2.1), T1.2)
  else none
def minS (a b : Nat) : Nat := if a < b then a else b
/-- pieces and new bytes, as long as it can be; whether none is left -/
def sendsS (π : Pl) (dl : Nat → Nat) (dr : Bool) : Nat → Tk → Tk × Bool
  | 0, T => (T, false)
  | n + 1, T =>
    let lm := minS (T.1.1 3) (π.1 1)
    if T.1.2.2.2.1 = [] ∧ lm ≤ T.1.1 1 then (T, true)
    else match pickS π dl T.1 none with
      | none => (T, false)
      | some (p, _) => match T.1.2.2.2.1 with
        | q :: ps =>
          let T1 := sendS π dl dr T p q.1 q.2
          sendsS π dl dr n (wpc T1.1 ps, T1.2)
        | [] =>
          let m := minS (π.1 2) (lm - T.1.1 1)
          let T1 := sendS π dl dr T p (T.1.1 1) m
          sendsS π dl dr n (wsc T1.1 1 (T1.1.1 1 + m), T1.2)
def tickS (π : Pl) (win : Nat) (dl : Nat → Nat) (dr : Bool) (w : Wd) (x : Nat) : Tk :=
  let w1 := hearS π (joinsS π w)
  let w2 := arrS win w1
  let rs := w1.2.2.1.filter (fun s => due (w1.1 0) s && !s.2.2.2.2.2.2.2)
  let wr := (w1.2.2.1.filter (fun s => due (w1.1 0) s && s.2.2.2.2.2.2.2)).map (fun s => s.1)
  let many := manyS π w2
  let w3 := outS π win dl rs many (wsc w2 4 (w2.1 4 + many))
  let w4 := wr.foldl dieS w3
  let w5 := clearS (forN (π.1 6) (fun p w => failS π dl w p) w4)
  let r := sendsS π dl dr 400 (w5, 0, 0, false, x)
  let T := if r.2 then (match penS π dl dr r.1 with
    | some T => T
    | none => r.1) else r.1
  (wsc T.1 0 (T.1.1 0 + 1), T.2)
