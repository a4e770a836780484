/-! the reference's small methods -/
section C15
variable {l : Launch} {G : Gx} {d : Nat} {sh : Sh} {fR : FRt} {B v b win : Nat} {f : FI} {g : FL} {w : Wd} {m : List (Nat × Nat)} {π : Pl} {dl : Nat → Nat}
theorem C_isPath {K : Int32 → FI → FL → Prop} {a : Int32} (hs : StM sh fR B) (hP : PM f B b π) (hπ : πOK π) (H1 : ∀ p, p < π.1 6 → a = nI p → K (nI 1) f g) (H0 : (∀ p, p < π.1 6 → a ≠ nI p) → K (nI 0) f g) : Cl l G d 0 0 mX12_isPath [.ref B, .int a] (sh, f, g, fR) (qi sh fR K) := by
  have hb := hP.2.1
  have h4 := hπ.2.2.2.2.2.1
  refine VX12_isPath hs ?_
  rw [hP.1, clN (by omega), hP.2.2.2.2.2.2.2.1]
  refine ⟨fun c => ⟨_, _, _, rfl, rfl, H0 (fun p hp e => ?_)⟩, fun c => ⟨inbN (by omega) (by decide), fun c2 => ⟨_, _, _, rfl, rfl, H0 (fun p hp e => ?_)⟩, fun c2 => ?_⟩⟩
  · rw [e] at c
    exact nI_pos (by omega) c
  · rw [e] at c2
    exact nI_ge hp (by omega) c2
  · rcases pk_ix a (n := π.1 6) (by omega) with q | q | ⟨j, hj, e⟩
    · exact absurd q c
    · exact absurd q c2
    · exact ⟨_, _, _, rfl, rfl, H1 j hj e⟩
theorem C_flying {K : Int32 → FI → FL → Prop} (hs : StM sh fR B) (hv : v < 22) (hR : RM f B v w m) (H : K (nI (w.2.2.1.countP (fun s => s.2.2.2.2.2.2.1))) f g) : Cl l G (d + 1) 0 0 mX12_flying [.ref B, .int (nI v)] (sh, f, g, fR) (qi sh fR K) := by
  obtain ⟨h6, hl, hg⟩ := hR.2.2.1
  generalize w.2.2.1 = lg at *
  refine VX12_flying hs ?_
  have loop : ∀ (rest done : List Sg), lg = done ++ rest → LpX12_flying_4 l G d (qi sh fR K) sh fR B f g (nI v) (nI (done.countP (fun s => s.2.2.2.2.2.2.1))) (nI done.length) := by
    intro rest
    induction rest with
    | nil =>
      intro done e
      rw [List.append_nil] at e
      subst e
      refine VX12_flying_4 hs ?_
      simp (disch := omega) only [pk_mul, nI_add, clN]
      rw [h6]
      exact ⟨inbN (by omega) (by decide), fun _ => ⟨_, _, _, rfl, rfl, H⟩, fun z => absurd (nI_le (Nat.le_refl _) (by omega)) z⟩
    | cons s rest ih =>
      intro done e
      have hk : lg[done.length]? = some s := by rw [e]; exact at_len
      have hlt : done.length < lg.length := (List.getElem?_eq_some_iff.mp hk).1
      have ih' := ih (done ++ [s]) (by rw [e]; simp)
      rw [List.length_append, List.length_singleton, List.countP_append, List.countP_singleton] at ih'
      refine VX12_flying_4 hs ?_
      simp (disch := omega) only [pk_mul, nI_add, clN]
      rw [h6, hg _ s hk 6 (by decide)]
      refine ⟨inbN (by omega) (by decide), fun z => absurd z (nI_ge hlt (by omega)), fun _ => ⟨inbN (by omega) (by decide), fun x hx => ?_⟩⟩
      rw [hx]
      show LpX12_flying_4 l G d (qi sh fR K) sh fR B f g (nI v) (nI _ + bI s.2.2.2.2.2.2.1) (nI (done.length + 1))
      cases hz : s.2.2.2.2.2.2.1 with
      | false =>
        rw [hz] at ih'
        rw [show bI false = nI 0 from rfl, nI_add]
        exact ih'
      | true =>
        rw [hz] at ih'
        rw [show bI true = nI 1 from rfl, nI_add]
        exact ih'
  exact loop lg [] rfl
end C15
