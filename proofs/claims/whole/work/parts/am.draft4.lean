theorem cl_line {C B C' B' : V2} {n q q' : Nat} {bs : Nat → Nat} (hC : CB C) (hB : BD C B) (ht : C 384 0 ≠ 0) (h0 : C 388 0 < 6) (h : clLine n bs q C B = .inr (q', C', B')) : CB C' ∧ BD C' B' := by
  obtain ⟨v1, q1, a1, h⟩ := bN_i h
  obtain ⟨v2, q2, a2, h⟩ := bN_i h
  by_cases ne : v1 = v2
  · rw [if_pos ne] at h
    cases h
  rw [if_neg ne] at h
  obtain ⟨v3, q3, a3, h⟩ := bN_i h
  obtain ⟨v4, q4, a4, h⟩ := bN_i h
  have b1 := numA_b a1
  have b2 := numA_b a2
  have b3 := numA_b a3
  have b4 := numA_b a4
  cases h
  obtain ⟨c1, c2, c3, c4, c5, c6, c7, c8, e5, e5', e6, e6', e7, e8⟩ := hC
  obtain ⟨k, hk⟩ := Int.eq_ofNat_of_zero_le (show 0 ≤ C 388 0 by omega)
  rw [hk, Int.toNat_natCast]
  have ev : ∀ f j, cr f j → setC (setC (setC (setC (setC C 391 k v1) 392 k v2) 393 k v3) 394 k v4) 388 0 ((k : Int) + 1) f j = if f = 388 ∧ j = 0 then (k : Int) + 1 else if f = 394 ∧ j = k then v4 else if f = 393 ∧ j = k then v3 else if f = 392 ∧ j = k then v2 else if f = 391 ∧ j = k then v1 else C f j := fun f j hr => by
    rw [sC hr, sC hr, sC hr, sC hr, sC hr]
  generalize setC (setC (setC (setC (setC C 391 k v1) 392 k v2) 393 k v3) 394 k v4) 388 0 ((k : Int) + 1) = D at ev
  have z : ∀ f j, cr f j → f ≠ 388 → (f < 391 ∨ 394 < f) → D f j = C f j := fun f j hr w1 w2 => by
    rw [ev f j hr, if_neg (by omega), if_neg (by omega), if_neg (by omega), if_neg (by omega), if_neg (by omega)]
  have d8 : D 388 0 = (k : Int) + 1 := by rw [ev _ _ (by unfold cr; omega), if_pos ⟨rfl, rfl⟩]
  have s1 : ∀ l, l < 6 → D 391 l = if l = k then v1 else C 391 l := fun l hl => by
    rw [ev _ _ (by unfold cr; omega), if_neg (by omega), if_neg (by omega), if_neg (by omega), if_neg (by omega)]
    by_cases e : l = k
    · rw [if_pos ⟨rfl, e⟩, if_pos e]
    · rw [if_neg (by omega), if_neg e]
  have s2 : ∀ l, l < 6 → D 392 l = if l = k then v2 else C 392 l := fun l hl => by
    rw [ev _ _ (by unfold cr; omega), if_neg (by omega), if_neg (by omega), if_neg (by omega)]
    by_cases e : l = k
    · rw [if_pos ⟨rfl, e⟩, if_pos e]
    · rw [if_neg (by omega), if_neg (by omega), if_neg e]
  have s3 : ∀ l, l < 6 → D 393 l = if l = k then v3 else C 393 l := fun l hl => by
    rw [ev _ _ (by unfold cr; omega), if_neg (by omega), if_neg (by omega)]
    by_cases e : l = k
    · rw [if_pos ⟨rfl, e⟩, if_pos e]
    · rw [if_neg (by omega), if_neg (by omega), if_neg (by omega), if_neg e]
  have s4 : ∀ l, l < 6 → D 394 l = if l = k then v4 else C 394 l := fun l hl => by
    rw [ev _ _ (by unfold cr; omega), if_neg (by omega)]
    by_cases e : l = k
    · rw [if_pos ⟨rfl, e⟩, if_pos e]
    · rw [if_neg (by omega), if_neg (by omega), if_neg (by omega), if_neg (by omega), if_neg e]
  have d : ∀ f, 384 ≤ f → f ≤ 390 → f ≠ 388 → D f 0 = C f 0 := fun f w1 w2 w3 => z _ _ (by unfold cr; omega) w3 (by omega)
  have d4 := d 384 (by omega) (by omega) (by omega)
  have d5 := d 385 (by omega) (by omega) (by omega)
  have d6 := d 386 (by omega) (by omega) (by omega)
  have d7 := d 387 (by omega) (by omega) (by omega)
  have d9 := d 389 (by omega) (by omega) (by omega)
  have d0 := d 390 (by omega) (by omega) (by omega)
  have r10 : ∀ f l, 395 ≤ f → f ≤ 397 → l < 10 → D f l = C f l := fun f l w1 w2 w3 => z _ _ (by unfold cr; omega) (by omega) (by omega)
  have r3 : ∀ f l, 398 ≤ f → f ≤ 399 → l < 3 → D f l = C f l := fun f l w1 w2 w3 => z _ _ (by unfold cr; omega) (by omega) (by omega)
  clear ev z d
  refine ⟨⟨by rw [d7, d8, d9, d0]; omega, fun k hk => ?_, fun k hk w => ?_, fun l hl => ?_, fun l hl w => ?_, fun r hr => ?_, fun r hr w => ?_, by rw [d4]; exact c8, by omega, by omega, by omega, by omega, fun w => ?_, fun w => absurd w (by omega)⟩, ?_⟩
  · rw [r10 _ _ (by omega) (by omega) hk, r10 _ _ (by omega) (by omega) hk, r10 _ _ (by omega) (by omega) hk]; exact c2 k hk
  · rw [d9] at w
    rw [r10 _ _ (by omega) (by omega) hk, r10 _ _ (by omega) (by omega) hk, r10 _ _ (by omega) (by omega) hk, d7]
    exact c3 k hk w
  · rw [s1 l hl, s2 l hl, s3 l hl, s4 l hl]
    by_cases e : l = k
    · rw [if_pos e, if_pos e, if_pos e, if_pos e]; omega
    · rw [if_neg e, if_neg e, if_neg e, if_neg e]; exact c4 l hl
  · rw [s1 l hl, s2 l hl, s3 l hl, s4 l hl]
    by_cases e : l = k
    · rw [if_pos e, if_pos e, if_pos e, if_pos e]; exact ⟨by omega, by omega, ne, by omega, by omega⟩
    · rw [if_neg e, if_neg e, if_neg e, if_neg e]; exact c5 l hl (by omega)
  · rw [r3 _ _ (by omega) (by omega) hr, r3 _ _ (by omega) (by omega) hr]; exact c6 r hr
  · rw [d0] at w
    rw [r3 _ _ (by omega) (by omega) hr, r3 _ _ (by omega) (by omega) hr]; exact c7 r hr w
  · rw [d5, d6]
    exact e7 (by omega)
  · obtain ⟨g1, g2, g3, g4, g5⟩ := hB
    obtain ⟨y1, y2, y3, y4, y5, y6⟩ := g1
    refine ⟨⟨fun j hj => ?_, y2, y3, by rw [d7]; exact y4, y5, y6⟩, g2, g3, g4, fun j hj w => ?_⟩
    · rw [d8, d9]
      have := y1 j hj
      omega
    · rw [d9] at w
      rw [r10 _ _ (by omega) (by omega) hj]
      exact g5 j hj w
