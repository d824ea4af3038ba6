/-- the clauses from the x-th on -/
def clN (n : Nat) (bs : Nat → Nat) : Nat → Nat → Nat → V2 → V2 → Int ⊕ (V2 × V2)
  | 0, _, _, _, _ => .inl 0
  | f + 1, x, q, C, B => match clX n bs x q C B with
    | .inl e => .inl e
    | .inr (q', C', B') => if tK n bs q' = 0 then .inr (C', B') else if tK n bs q' = 59 then clN n bs f (x + 1) (nq n bs q') C' B' else .inl (1 + 8 * (q' : Int) + 0)
theorem clX_40 {n q : Nat} {bs : Nat → Nat} {C B : V2} : ∃ e, clX n bs 40 q C B = .inl e := by
  unfold clX
  by_cases o : opK (tK n bs q) = true
  · rw [if_pos o, if_pos (Or.inl rfl)]
    exact ⟨_, rfl⟩
  · rw [if_neg o]
    exact ⟨_, rfl⟩
theorem clX_k {n q x q' : Nat} {bs : Nat → Nat} {C B C' B' : V2} (hC : CB C) (hB : BD C B) (h : clX n bs x q C B = .inr (q', C', B')) : CB C' ∧ BD C' B' := by
  unfold clX at h
  by_cases o : opK (tK n bs q) = true
  · rw [if_pos o] at h
    by_cases p : x = 40 ∨ ¬ hsP (tK n bs q) C = true
    · rw [if_pos p] at h
      cases h
    · rw [if_neg p] at h
      refine cl_R hC hB ?_ h
      by_cases y : hsP (tK n bs q) C = true
      · exact y
      · exact absurd (Or.inr y) p
  · rw [if_neg o] at h
    cases h
