theorem cl_linen {C B C' B' : V2} {n q q' : Nat} {bs : Nat → Nat} (hC : CB C) (hB : BD C B) (ht : C 384 0 ≠ 0) (h0 : C 389 0 < 10) (h : clLinen n bs q C B = .inr (q', C', B')) : CB C' ∧ BD C' B' := by
  obtain ⟨v1, q1, a1, h⟩ := bN_i h
  obtain ⟨v2, q2, a2, h⟩ := bN_i h
  obtain ⟨v3, q3, a3, h⟩ := bN_i h
  have b1 := numA_b a1
  have b2 := numA_b a2
  have b3 := numA_b a3
  cases h
  obtain ⟨c1, c2, c3, c4, c5, c6, c7, c8, e5, e5', e6, e6', e7, e8⟩ := hC
  obtain ⟨k, hk⟩ := Int.eq_ofNat_of_zero_le (show 0 ≤ C 389 0 by omega)
  rw [hk, Int.toNat_natCast]
  have ev : ∀ f j, cr f j → setC (setC (setC (setC C 395 k v1) 396 k v2) 397 k v3) 389 0 ((k : Int) + 1) f j = if f = 389 ∧ j = 0 then (k : Int) + 1 else if f = 397 ∧ j = k then v3 else if f = 396 ∧ j = k then v2 else if f = 395 ∧ j = k then v1 else C f j := fun f j hr => by
    rw [sC hr, sC hr, sC hr, sC hr]
  generalize setC (setC (setC (setC C 395 k v1) 396 k v2) 397 k v3) 389 0 ((k : Int) + 1) = D at ev
  have z : ∀ f j, cr f j → f ≠ 389 → (f < 395 ∨ 397 < f) → D f j = C f j := fun f j hr w1 w2 => by
    rw [ev f j hr, if_neg (by omega), if_neg (by omega), if_neg (by omega), if_neg (by omega)]
  have d9 : D 389 0 = (k : Int) + 1 := by rw [ev _ _ (by unfold cr; omega), if_pos ⟨rfl, rfl⟩]
  have s1 : ∀ l, l < 10 → D 395 l = if l = k then v1 else C 395 l := fun l hl => by
    rw [ev _ _ (by unfold cr; omega), if_neg (by omega), if_neg (by omega), if_neg (by omega)]
    by_cases e : l = k
    · rw [if_pos ⟨rfl, e⟩, if_pos e]
    · rw [if_neg (by omega), if_neg e]
  have s2 : ∀ l, l < 10 → D 396 l = if l = k then v2 else C 396 l := fun l hl => by
    rw [ev _ _ (by unfold cr; omega), if_neg (by omega), if_neg (by omega)]
    by_cases e : l = k
    · rw [if_pos ⟨rfl, e⟩, if_pos e]
    · rw [if_neg (by omega), if_neg (by omega), if_neg e]
  have s3 : ∀ l, l < 10 → D 397 l = if l = k then v3 else C 397 l := fun l hl => by
    rw [ev _ _ (by unfold cr; omega), if_neg (by omega)]
    by_cases e : l = k
    · rw [if_pos ⟨rfl, e⟩, if_pos e]
    · rw [if_neg (by omega), if_neg (by omega), if_neg (by omega), if_neg e]
  have d : ∀ f, 384 ≤ f → f ≤ 390 → f ≠ 389 → D f 0 = C f 0 := fun f w1 w2 w3 => z _ _ (by unfold cr; omega) w3 (by omega)
  have d4 := d 384 (by omega) (by omega) (by omega)
  have d5 := d 385 (by omega) (by omega) (by omega)
  have d6 := d 386 (by omega) (by omega) (by omega)
  have d7 := d 387 (by omega) (by omega) (by omega)
  have d8 := d 388 (by omega) (by omega) (by omega)
  have d0 := d 390 (by omega) (by omega) (by omega)
  have r6 : ∀ f l, 391 ≤ f → f ≤ 394 → l < 6 → D f l = C f l := fun f l w1 w2 w3 => z _ _ (by unfold cr; omega) (by omega) (by omega)
  have r3 : ∀ f l, 398 ≤ f → f ≤ 399 → l < 3 → D f l = C f l := fun f l w1 w2 w3 => z _ _ (by unfold cr; omega) (by omega) (by omega)
  clear ev z d
  refine ⟨⟨by rw [d7, d8, d9, d0]; omega, fun l hl => ?_, fun l hl w => ?_, fun l hl => ?_, fun l hl w => ?_, fun r hr => ?_, fun r hr w => ?_, by rw [d4]; exact c8, by omega, by omega, by omega, by omega, fun w => ?_, fun w => absurd w (by omega)⟩, ?_⟩
  · rw [s1 l hl, s2 l hl, s3 l hl]
    by_cases e : l = k
    · rw [if_pos e, if_pos e, if_pos e]; omega
    · rw [if_neg e, if_neg e, if_neg e]; exact c2 l hl
  · rw [s1 l hl, s2 l hl, s3 l hl, d7]
    by_cases e : l = k
    · rw [if_pos e, if_pos e, if_pos e]; omega
    · rw [if_neg e, if_neg e, if_neg e]; exact c3 l hl (by omega)
  · rw [r6 _ _ (by omega) (by omega) hl, r6 _ _ (by omega) (by omega) hl, r6 _ _ (by omega) (by omega) hl, r6 _ _ (by omega) (by omega) hl]; exact c4 l hl
  · rw [d8] at w
    rw [r6 _ _ (by omega) (by omega) hl, r6 _ _ (by omega) (by omega) hl, r6 _ _ (by omega) (by omega) hl, r6 _ _ (by omega) (by omega) hl]; exact c5 l hl w
  · rw [r3 _ _ (by omega) (by omega) hr, r3 _ _ (by omega) (by omega) hr]; exact c6 r hr
  · rw [d0] at w
    rw [r3 _ _ (by omega) (by omega) hr, r3 _ _ (by omega) (by omega) hr]; exact c7 r hr w
  · rw [d5, d6]
    exact e7 (by omega)
  · obtain ⟨g1, g2, g3, g4, g5⟩ := hB
    have gY : YB C (setF B 516 k v3) := set_YB g1 (by omega)
    obtain ⟨y1, y2, y3, y4, y5, y6⟩ := gY
    refine ⟨⟨fun j hj => ?_, y2, y3, by rw [d7]; exact y4, y5, y6⟩, ?_, fun l hl => ⟨?_, ?_⟩, fun f hf => ?_, fun j hj w => ?_⟩
    · rw [d8, d9]
      have := y1 j hj
      omega
    · rw [setF_o yr512 (by omega)]; exact g2
    · rw [setF_o (yr513 hl) (by omega)]; exact (g3 l hl).1
    · rw [setF_o (yr514 hl) (by omega)]; exact (g3 l hl).2
    · rw [setF_o (yr518 hf) (by omega)]; exact g4 f hf
    · rw [s3 j hj, setF_e (yr516 hj)]
      by_cases e : j = k
      · rw [if_pos ⟨rfl, e⟩, if_pos e]
      · rw [if_neg (by omega), if_neg e]
        exact g5 j hj (by omega)
