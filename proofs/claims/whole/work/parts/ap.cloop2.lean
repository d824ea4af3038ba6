/-- one round of the class' loop over clauses -/
theorem m19a {s : S2} {n m q x : Nat} {bs : Nat → Nat} (h : CAt s n bs m q) (hC : CB (cw s 5)) (hx : x ≤ 40) : ∃ s', CRes s s' n bs m (clX n bs x q (cw s 5) (yv s 161)) ∧ f19_a x s = bnd (s' 135 0 0) fun v9 => if ¬ v9 = 0 then (cP (f55 59 s') fun s10 => some (.inl (jadd x 1, s10))) else cP (f32 s') fun r12 => if ¬ r12 = 0 then (cP (f55 59 s') fun s10 => some (.inl (jadd x 1, s10))) else some (.inr (.inl s')) := by
  obtain ⟨s', k1, k2⟩ := m19c (x := x) (R := (Int × S2) ⊕ (S2 ⊕ S2)) h hC (j78 := fun s8 => bnd (s8 135 0 0) fun v9 => jn (fun (_ : Unit) => cP (f55 59 s8) fun s10 => bnd (jadd x 1) fun v11 => some (.inl (v11, s10))) fun j94 => if ¬ v9 = 0 then (j94 ()) else cP (f32 s8) fun r12 => if ¬ r12 = 0 then (j94 ()) else some (.inr (.inl s8)))
  refine ⟨s', k2, ?_⟩
  unfold f19_a
  rw [if_neg (by omega), h.2.1, bnd, if_neg (show ¬ ¬ (0 : Int) = 0 by decide), h.kind, cP_s, m33, cP_s]
  exact k1
