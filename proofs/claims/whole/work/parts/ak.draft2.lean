theorem cl_family {C B C' B' : V2} {n q q' : Nat} {bs : Nat → Nat} (hC : CB C) (hB : BD C B) (ht : C 384 0 ≠ 0) (h7 : C 387 0 < 4) (h : clFamily n bs q C B = .inr (q', C', B')) : CB C' ∧ BD C' B' := by
  obtain ⟨v1, q1, a1, h⟩ := bN_i h
  have b1 := numA_b a1
  cases h
  have z : ∀ f k, cr f k → f ≠ 387 → setC C 387 0 (C 387 0 + 1) f k = C f k := fun f k hr w1 => by
    rw [sC hr, if_neg (by omega)]
  have d7 : setC C 387 0 (C 387 0 + 1) 387 0 = C 387 0 + 1 := by rw [sC (by unfold cr; omega), if_pos ⟨rfl, rfl⟩]
  generalize setC C 387 0 (C 387 0 + 1) = D at z d7
  have d4 : D 384 0 = C 384 0 := z _ _ (by unfold cr; omega) (by omega)
  have d5 : D 385 0 = C 385 0 := z _ _ (by unfold cr; omega) (by omega)
  have d6 : D 386 0 = C 386 0 := z _ _ (by unfold cr; omega) (by omega)
  have d8 : D 388 0 = C 388 0 := z _ _ (by unfold cr; omega) (by omega)
  have d9 : D 389 0 = C 389 0 := z _ _ (by unfold cr; omega) (by omega)
  have d0 : D 390 0 = C 390 0 := z _ _ (by unfold cr; omega) (by omega)
  have r6 : ∀ f l, 391 ≤ f → f ≤ 394 → l < 6 → D f l = C f l := fun f l w1 w2 w3 => z _ _ (by unfold cr; omega) (by omega)
  have r10 : ∀ f l, 395 ≤ f → f ≤ 397 → l < 10 → D f l = C f l := fun f l w1 w2 w3 => z _ _ (by unfold cr; omega) (by omega)
  have r3 : ∀ f l, 398 ≤ f → f ≤ 399 → l < 3 → D f l = C f l := fun f l w1 w2 w3 => z _ _ (by unfold cr; omega) (by omega)
  obtain ⟨c1, c2, c3, c4, c5, c6, c7, c8, e5, e5', e6, e6', e7, e8⟩ := hC
  refine ⟨⟨by rw [d7, d8, d9, d0]; omega, fun k hk => ?_, fun k hk w => ?_, fun l hl => ?_, fun l hl => ?_, fun r hr => ?_, fun r hr => ?_, by rw [d4]; exact c8, by omega, by omega, by omega, by omega, fun w => ?_, fun w => absurd w (by omega)⟩, ?_⟩
  · rw [r10 _ _ (by omega) (by omega) hk, r10 _ _ (by omega) (by omega) hk, r10 _ _ (by omega) (by omega) hk]; exact c2 k hk
  · rw [d9] at w
    rw [r10 _ _ (by omega) (by omega) hk, r10 _ _ (by omega) (by omega) hk, r10 _ _ (by omega) (by omega) hk, d7]
    have := c3 k hk w
    omega
  · rw [r6 _ _ (by omega) (by omega) hl, r6 _ _ (by omega) (by omega) hl, r6 _ _ (by omega) (by omega) hl, r6 _ _ (by omega) (by omega) hl]; exact c4 l hl
  · rw [r6 _ _ (by omega) (by omega) hl, r6 _ _ (by omega) (by omega) hl, r6 _ _ (by omega) (by omega) hl, r6 _ _ (by omega) (by omega) hl, d8]; exact c5 l hl
  · rw [r3 _ _ (by omega) (by omega) hr, r3 _ _ (by omega) (by omega) hr]; exact c6 r hr
  · rw [r3 _ _ (by omega) (by omega) hr, r3 _ _ (by omega) (by omega) hr, d0]; exact c7 r hr
  · rw [d5, d6]
    exact e7 (by omega)
  · obtain ⟨g1, g2, g3, g4, g5⟩ := hB
    obtain ⟨y1, y2, y3, y4, y5, y6⟩ := g1
    refine ⟨⟨fun k hk => ?_, fun k hk => ?_, fun k hk => ?_, fun k hk => ?_, ?_, fun k hk => ?_⟩, ?_, fun l hl => ⟨?_, ?_⟩, fun f hf => ?_, fun k hk w => ?_⟩
    · rw [setF_o (yr515 hk) (by omega), d8, d9]; exact y1 k hk
    · rw [setF_o (yr516 hk) (by omega)]; exact y2 k hk
    · rw [setF_o (yr514 hk) (by omega)]; exact y3 k hk
    · rw [setF_o (yr513 hk) (by omega), d7]
      have := y4 k hk
      omega
    · rw [setF_o yr512 (by omega)]; exact y5
    · rw [setF_o (yr518 hk) (by omega), setF_o yr512 (by omega)]; exact y6 k hk
    · rw [setF_o yr512 (by omega)]; exact g2
    · rw [setF_o (yr513 hl) (by omega)]; exact (g3 l hl).1
    · rw [setF_o (yr514 hl) (by omega)]; exact (g3 l hl).2
    · rw [setF_o (yr518 hf) (by omega)]; exact g4 f hf
    · rw [d9] at w
      rw [setF_o (yr516 hk) (by omega), r10 _ _ (by omega) (by omega) hk]
      exact g5 k hk w
theorem cl_hung {C B C' B' : V2} {n q q' : Nat} {bs : Nat → Nat} (hC : CB C) (hB : BD C B) (h : clHung n bs q C B = .inr (q', C', B')) : CB C' ∧ BD C' B' := by
  obtain ⟨v1, q1, a1, h⟩ := bN_i h
  obtain ⟨v2, q2, a2, h⟩ := bN_i h
  by_cases z : mayI C B v1 v2 = 0
  · rw [if_pos z] at h
    cases h
  · rw [if_neg z] at h
    cases h
    obtain ⟨g1, g2, g3, g4, g5⟩ := hB
    refine ⟨hC, putS_YB g1, ?_⟩
    have hm : mayH C B v1 v2 := by
      by_cases w : mayH C B v1 v2
      · exact w
      · exact absurd (mayI_z w) z
    unfold putS
    rw [if_pos hm]
    refine ⟨by rw [so512]; exact g2, fun l hl => ⟨by rw [so513 hl]; exact (g3 l hl).1, by rw [so514 hl]; exact (g3 l hl).2⟩, fun f hf => by rw [so518 hf]; exact g4 f hf, fun k hk w => by rw [so516 hk]; exact g5 k hk w⟩
