/-! numbers and lists -/
theorem inbN {k n : Nat} (h : k < n) (hn : n < 2 ^ 31) : inb (nI k) n := vp_in_nI h hn
theorem clN {k : Nat} (h : k < 2 ^ 31) : (nI k).toNatClampNeg = k := nI_clamp h
def oI (a : Option Nat) : Int32 := match a with
  | none => -1
  | some a => nI a
def bI (b : Bool) : Int32 := if b then nI 1 else nI 0
theorem bI_1 {b : Bool} : bI b = nI 1 ↔ b = true := by cases b <;> decide
theorem bI_0 {b : Bool} : bI b = 0 ↔ b = false := by cases b <;> decide
theorem bI_01 (b : Bool) : bI b = 0 ∨ bI b = 1 := by cases b <;> decide
theorem nI_m1 {n : Nat} (h : n < 2 ^ 31) : ¬ nI n = -1 := by
  intro e
  have := congrArg Int32.toInt e
  rw [nI_toInt h] at this
  have h2 : (-1 : Int32).toInt = -1 := by decide
  omega
theorem oI_none {a : Option Nat} (h : ∀ k, a = some k → k < 2 ^ 31) : oI a = -1 ↔ a = none := by
  cases a with
  | none => simp [oI]
  | some k => simp [oI, nI_m1 (h k rfl)]
theorem oI_some {a : Option Nat} {t : Nat} (h : ∀ k, a = some k → k < 2 ^ 31) (ht : t < 2 ^ 31) : oI a = nI t ↔ a = some t := by
  cases a with
  | none =>
    simp only [oI]
    constructor
    · intro e
      exact absurd e.symm (nI_m1 ht)
    · intro e
      cases e
  | some k => simp [oI, nI_eq (h k rfl) ht]
def sE (s : Sg) (i : Nat) : Int32 := match i with
  | 0 => nI s.1
  | 1 => nI s.2.1
  | 2 => nI s.2.2.1
  | 3 => nI s.2.2.2.1
  | 4 => nI s.2.2.2.2.1
  | 5 => oI s.2.2.2.2.2.1
  | 6 => bI s.2.2.2.2.2.2.1
  | _ => bI s.2.2.2.2.2.2.2
def aE (a : An) (i : Nat) : Int32 := match i with
  | 0 => nI a.1
  | 1 => oI a.2.1
  | 2 => nI a.2.2.1
  | 3 => nI a.2.2.2.1
  | _ => nI a.2.2.2.2.1
theorem at_len {α : Type} {a : α} {l r : List α} : (l ++ a :: r)[l.length]? = some a := by simp
/-! the reference's layer v -/
def RMg (f : FI) (B v : Nat) (l : List Sg) : Prop := f (B + 23) (40 * v + 6) = nI l.length ∧ l.length ≤ 480 ∧ ∀ (k : Nat) (s : Sg), l[k]? = some s → ∀ i, i < 8 → f (B + 24) (8 * (480 * v + k) + i) = sE s i
/-- all of its numbers are small -/
def sOK (s : Sg) : Prop := s.1 < 4 ∧ s.2.1 ≤ 500000 ∧ s.2.2.1 ≤ 200 ∧ s.2.2.2.1 ≤ 200 ∧ s.2.2.2.2.1 ≤ 1000 ∧ ∀ k, s.2.2.2.2.2.1 = some k → k ≤ 1100
section T1
variable {l : Launch} {G : Gx} {d : Nat} {sh : Sh} {fR : FRt} {B v : Nat} {f : FI} {g : FL}
theorem C_flyingOn {K : Int32 → FI → FL → Prop} {lg : List Sg} {p : Nat} (hs : StM sh fR B) (hv : v < 22) (hg : RMg f B v lg) (hok : ∀ s ∈ lg, sOK s) (hp : p < 2 ^ 31) (H : K (nI (lg.countP (fun s => s.2.2.2.2.2.2.1 && s.1 == p))) f g) : Cl l G (d + 1) 0 0 mX12_flyingOn [.ref B, .int (nI v), .int (nI p)] (sh, f, g, fR) (qi sh fR K) := by
  obtain ⟨h6, hl, hg⟩ := hg
  refine VX12_flyingOn hs ?_
  have loop : ∀ (rest done : List Sg), lg = done ++ rest → LpX12_flyingOn_5 l G d (qi sh fR K) sh fR B f g (nI v) (nI p) (nI (done.countP (fun s => s.2.2.2.2.2.2.1 && s.1 == p))) (nI done.length) := by
    intro rest
    induction rest with
    | nil =>
      intro done e
      rw [List.append_nil] at e
      subst e
      refine VX12_flyingOn_5 hs ?_
      simp only [pk_mul, nI_add]
      rw [clN (by omega), h6]
      exact ⟨inbN (by omega) (by decide), fun _ => ⟨_, _, _, rfl, rfl, H⟩, fun z => absurd (nI_le (Nat.le_refl _) (by omega)) z⟩
    | cons s rest ih =>
      intro done e
      have hk : lg[done.length]? = some s := by rw [e]; exact at_len
      have hlt : done.length < lg.length := (List.getElem?_eq_some_iff.mp hk).1
      have ih' := ih (done ++ [s]) (by rw [e]; simp)
      rw [List.length_append, List.length_singleton, List.countP_append] at ih'
      have hq := hok s (List.mem_of_getElem? hk)
      refine VX12_flyingOn_5 hs ?_
      simp only [pk_mul, nI_add]
      rw [clN (by omega), h6, clN (by omega), hg _ s hk 6 (by decide), clN (by omega), hg _ s hk 0 (by decide)]
      refine ⟨inbN (by omega) (by decide), fun z => absurd z (nI_ge hlt (by omega)), fun _ => ⟨inbN (by omega) (by decide), fun c1 => ?_, fun c1 => ⟨inbN (by omega) (by decide), fun c2 => ?_, fun c2 => ?_⟩⟩⟩
      · intro w e1
        have z1 : s.2.2.2.2.2.2.1 = false := by
          cases hz : s.2.2.2.2.2.2.1 with
          | false => rfl
          | true => exact absurd (bI_1.mpr hz) c1
        rw [e1, Nat.add_zero]
        simpa [z1] using ih'
      · intro w e1
        have z2 : ¬ s.1 = p := fun z => c2 (by show nI s.1 = _; rw [z])
        rw [e1, Nat.add_zero]
        simpa [z2] using ih'
      · intro w e1
        have z1 : s.2.2.2.2.2.2.1 = true := bI_1.mp c1
        have z2 : s.1 = p := (nI_eq (by have := hq.1; omega) hp).mp c2
        rw [e1]
        simpa [z1, z2] using ih'
  exact loop lg [] rfl
end T1
