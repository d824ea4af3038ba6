/-! what a draft is between clauses -/
theorem numA_b {n q q' : Nat} {bs : Nat → Nat} {lo hi v : Int} (h : numA n bs lo hi q = .inr (v, q')) : lo ≤ v ∧ v ≤ hi := by
  unfold numA at h
  by_cases b : numB n bs lo hi q = true
  · rw [if_pos b] at h
    cases h
    exact (of_decide_eq_true b).2
  · rw [if_neg b] at h
    cases h
theorem bN_i {R : Type} {x : Int ⊕ (Int × Nat)} {k : Int → Nat → Int ⊕ R} {r : R} (h : bN x k = .inr r) : ∃ v q, x = .inr (v, q) ∧ k v q = .inr r := by
  cases x with
  | inl e => cases h
  | inr p => exact ⟨p.1, p.2, rfl, h⟩
def BD (C B : V2) : Prop := YB C B ∧ B 512 0 = 0 ∧ (∀ l, l < 6 → B 513 l = -1 ∧ B 514 l = 0) ∧ (∀ f, f < 4 → B 518 f = 0) ∧ ∀ n : Nat, n < 10 → (n : Int) < C 389 0 → B 516 n = C 397 n
theorem sC {C : V2} {g j f k : Nat} {v : Int} (h : cr f k) : setC C g j v f k = if f = g ∧ k = j then v else C f k := setC_e h
theorem cl_court {C B C' B' : V2} {n q q' : Nat} {bs : Nat → Nat} (hC : CB C) (hB : BD C B) (ht : C 384 0 = 0) (h : clCourt n bs q C B = .inr (q', C', B')) : CB C' ∧ BD C' B' := by
  obtain ⟨v1, q1, a1, h⟩ := bN_i h
  obtain ⟨v2, q2, a2, h⟩ := bN_i h
  have b1 := numA_b a1
  have b2 := numA_b a2
  cases h
  have z : ∀ f k, cr f k → f ≠ 384 → f ≠ 385 → f ≠ 386 → setC (setC (setC C 385 0 v1) 386 0 v2) 384 0 1 f k = C f k := fun f k hr w1 w2 w3 => by
    rw [sC hr, if_neg (by omega), sC hr, if_neg (by omega), sC hr, if_neg (by omega)]
  have z4 : setC (setC (setC C 385 0 v1) 386 0 v2) 384 0 1 384 0 = 1 := by rw [sC (by unfold cr; omega), if_pos ⟨rfl, rfl⟩]
  have z5 : setC (setC (setC C 385 0 v1) 386 0 v2) 384 0 1 385 0 = v1 := by
    rw [sC (by unfold cr; omega), if_neg (by omega), sC (by unfold cr; omega), if_neg (by omega), sC (by unfold cr; omega), if_pos ⟨rfl, rfl⟩]
  have z6 : setC (setC (setC C 385 0 v1) 386 0 v2) 384 0 1 386 0 = v2 := by
    rw [sC (by unfold cr; omega), if_neg (by omega), sC (by unfold cr; omega), if_pos ⟨rfl, rfl⟩]
  generalize setC (setC (setC C 385 0 v1) 386 0 v2) 384 0 1 = D at z z4 z5 z6
  have d7 : D 387 0 = C 387 0 := z _ _ (by unfold cr; omega) (by omega) (by omega) (by omega)
  have d8 : D 388 0 = C 388 0 := z _ _ (by unfold cr; omega) (by omega) (by omega) (by omega)
  have d9 : D 389 0 = C 389 0 := z _ _ (by unfold cr; omega) (by omega) (by omega) (by omega)
  have d0 : D 390 0 = C 390 0 := z _ _ (by unfold cr; omega) (by omega) (by omega) (by omega)
  have r6 : ∀ f l, 391 ≤ f → f ≤ 394 → l < 6 → D f l = C f l := fun f l w1 w2 w3 => z _ _ (by unfold cr; omega) (by omega) (by omega) (by omega)
  have r10 : ∀ f l, 395 ≤ f → f ≤ 397 → l < 10 → D f l = C f l := fun f l w1 w2 w3 => z _ _ (by unfold cr; omega) (by omega) (by omega) (by omega)
  have r3 : ∀ f l, 398 ≤ f → f ≤ 399 → l < 3 → D f l = C f l := fun f l w1 w2 w3 => z _ _ (by unfold cr; omega) (by omega) (by omega) (by omega)
  obtain ⟨c1, c2, c3, c4, c5, c6, c7, c8, c9⟩ := hC
  refine ⟨⟨by rw [d7, d8, d9, d0]; exact c1, fun k hk => ?_, fun k hk => ?_, fun l hl => ?_, fun l hl => ?_, fun r hr => ?_, fun r hr => ?_, Or.inr z4, by omega, by omega, by omega, by omega, fun _ => by omega, fun w => by omega⟩, ?_⟩
  · rw [r10 _ _ (by omega) (by omega) hk, r10 _ _ (by omega) (by omega) hk, r10 _ _ (by omega) (by omega) hk]; exact c2 k hk
  · rw [r10 _ _ (by omega) (by omega) hk, r10 _ _ (by omega) (by omega) hk, r10 _ _ (by omega) (by omega) hk, d7, d9]; exact c3 k hk
  · rw [r6 _ _ (by omega) (by omega) hl, r6 _ _ (by omega) (by omega) hl, r6 _ _ (by omega) (by omega) hl, r6 _ _ (by omega) (by omega) hl]; exact c4 l hl
  · rw [r6 _ _ (by omega) (by omega) hl, r6 _ _ (by omega) (by omega) hl, r6 _ _ (by omega) (by omega) hl, r6 _ _ (by omega) (by omega) hl, d8]; exact c5 l hl
  · rw [r3 _ _ (by omega) (by omega) hr, r3 _ _ (by omega) (by omega) hr]; exact c6 r hr
  · rw [r3 _ _ (by omega) (by omega) hr, r3 _ _ (by omega) (by omega) hr, d0]; exact c7 r hr
  · obtain ⟨e1, e2, e3, e4, e5⟩ := hB
    refine ⟨?_, e2, e3, e4, fun k hk w => ?_⟩
    · unfold YB
      rw [d8, d9, d7]
      exact e1
    · rw [d9] at w
      rw [r10 _ _ (by omega) (by omega) hk]
      exact e5 k hk w
