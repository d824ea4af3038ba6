theorem cl_rain {C B C' B' : V2} {n q q' : Nat} {bs : Nat → Nat} (hC : CB C) (hB : BD C B) (ht : C 384 0 ≠ 0) (h0 : C 390 0 < 3) (h : clRain n bs q C B = .inr (q', C', B')) : CB C' ∧ BD C' B' := by
  obtain ⟨v1, q1, a1, h⟩ := bN_i h
  obtain ⟨v2, q2, a2, h⟩ := bN_i h
  have b1 := numA_b a1
  have b2 := numA_b a2
  cases h
  obtain ⟨c1, c2, c3, c4, c5, c6, c7, c8, e5, e5', e6, e6', e7, e8⟩ := hC
  obtain ⟨k, hk⟩ := Int.eq_ofNat_of_zero_le (show 0 ≤ C 390 0 by omega)
  rw [hk, Int.toNat_natCast]
  have z : ∀ f j, cr f j → f ≠ 390 → f ≠ 398 → f ≠ 399 → setC (setC (setC C 398 k v1) 399 k v2) 390 0 ((k : Int) + 1) f j = C f j := fun f j hr w1 w2 w3 => by
    rw [sC hr, if_neg (by omega), sC hr, if_neg (by omega), sC hr, if_neg (by omega)]
  have d0 : setC (setC (setC C 398 k v1) 399 k v2) 390 0 ((k : Int) + 1) 390 0 = (k : Int) + 1 := by rw [sC (by unfold cr; omega), if_pos ⟨rfl, rfl⟩]
  have s8 : ∀ r, r < 3 → setC (setC (setC C 398 k v1) 399 k v2) 390 0 ((k : Int) + 1) 398 r = if r = k then v1 else C 398 r := fun r hr => by
    have hc : cr 398 r := by unfold cr; omega
    rw [sC hc, if_neg (by omega), sC hc, if_neg (by omega), sC hc]
    by_cases e : r = k
    · rw [if_pos ⟨rfl, e⟩, if_pos e]
    · rw [if_neg (by omega), if_neg e]
  have s9 : ∀ r, r < 3 → setC (setC (setC C 398 k v1) 399 k v2) 390 0 ((k : Int) + 1) 399 r = if r = k then v2 else C 399 r := fun r hr => by
    have hc : cr 399 r := by unfold cr; omega
    rw [sC hc, if_neg (by omega), sC hc]
    by_cases e : r = k
    · rw [if_pos ⟨rfl, e⟩, if_pos e]
    · rw [if_neg (by omega), if_neg e, sC hc, if_neg (by omega)]
  generalize setC (setC (setC C 398 k v1) 399 k v2) 390 0 ((k : Int) + 1) = D at z d0 s8 s9
  have d : ∀ f, 384 ≤ f → f ≤ 389 → D f 0 = C f 0 := fun f w1 w2 => z _ _ (by unfold cr; omega) (by omega) (by omega) (by omega)
  have d4 := d 384 (by omega) (by omega)
  have d5 := d 385 (by omega) (by omega)
  have d6 := d 386 (by omega) (by omega)
  have d7 := d 387 (by omega) (by omega)
  have d8 := d 388 (by omega) (by omega)
  have d9 := d 389 (by omega) (by omega)
  have r6 : ∀ f l, 391 ≤ f → f ≤ 394 → l < 6 → D f l = C f l := fun f l w1 w2 w3 => z _ _ (by unfold cr; omega) (by omega) (by omega) (by omega)
  have r10 : ∀ f l, 395 ≤ f → f ≤ 397 → l < 10 → D f l = C f l := fun f l w1 w2 w3 => z _ _ (by unfold cr; omega) (by omega) (by omega) (by omega)
  refine ⟨⟨by rw [d7, d8, d9, d0]; omega, fun k hk => ?_, fun k hk w => ?_, fun l hl => ?_, fun l hl => ?_, fun r hr => ?_, fun r hr w => ?_, by rw [d4]; exact c8, by omega, by omega, by omega, by omega, fun w => ?_, fun w => absurd w (by omega)⟩, ?_⟩
  · rw [r10 _ _ (by omega) (by omega) hk, r10 _ _ (by omega) (by omega) hk, r10 _ _ (by omega) (by omega) hk]; exact c2 k hk
  · rw [d9] at w
    rw [r10 _ _ (by omega) (by omega) hk, r10 _ _ (by omega) (by omega) hk, r10 _ _ (by omega) (by omega) hk, d7]
    exact c3 k hk w
  · rw [r6 _ _ (by omega) (by omega) hl, r6 _ _ (by omega) (by omega) hl, r6 _ _ (by omega) (by omega) hl, r6 _ _ (by omega) (by omega) hl]; exact c4 l hl
  · rw [r6 _ _ (by omega) (by omega) hl, r6 _ _ (by omega) (by omega) hl, r6 _ _ (by omega) (by omega) hl, r6 _ _ (by omega) (by omega) hl, d8]; exact c5 l hl
  · rw [s8 r hr, s9 r hr]
    by_cases e : r = k
    · rw [if_pos e, if_pos e]; omega
    · rw [if_neg e, if_neg e]; exact c6 r hr
  · rw [s8 r hr, s9 r hr]
    by_cases e : r = k
    · rw [if_pos e, if_pos e]; omega
    · rw [if_neg e, if_neg e]
      exact c7 r hr (by omega)
  · rw [d5, d6]
    exact e7 (by omega)
  · obtain ⟨g1, g2, g3, g4, g5⟩ := hB
    refine ⟨?_, g2, g3, g4, fun j hj w => ?_⟩
    · unfold YB
      rw [d8, d9, d7]
      exact g1
    · rw [d9] at w
      rw [r10 _ _ (by omega) (by omega) hj]
      exact g5 j hj w
