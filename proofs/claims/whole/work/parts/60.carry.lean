/-! ROWS CARRIED into images and back -/
def svR (s : S2) (g n p : Nat) : S2 := fun f i k => if f = 1608 ∧ i = 0 ∧ k = 0 then ((p + n : Nat) : Int) else if f = 1606 ∧ i = 0 ∧ p ≤ k ∧ k < p + n then s g 0 (k - p) else s f i k
def rsR (s : S2) (g n p : Nat) : S2 := fun f i k => if f = 1608 ∧ i = 0 ∧ k = 0 then ((p + n : Nat) : Int) else if f = g ∧ i = 0 ∧ k < n then s 1606 0 (p + k) else s f i k
theorem svR_d {s : S2} {g n p f i k : Nat} : svR s g n p f i k = if f = 1608 ∧ i = 0 ∧ k = 0 then ((p + n : Nat) : Int) else if f = 1606 ∧ i = 0 ∧ p ≤ k ∧ k < p + n then s g 0 (k - p) else s f i k := rfl
theorem rsR_d {s : S2} {g n p f i k : Nat} : rsR s g n p f i k = if f = 1608 ∧ i = 0 ∧ k = 0 then ((p + n : Nat) : Int) else if f = g ∧ i = 0 ∧ k < n then s 1606 0 (p + k) else s f i k := rfl
theorem m235s {s : S2} {g n p : Nat} (hn : am_ln g = n) (hn2 : n ≤ 1000) (hg : g < 1606) (hp : p + n ≤ 5500) (h1 : s 1609 0 0 = 0) (h2 : s 1608 0 0 = p) : f235 g s = some (svR s g n p) := by
  unfold f235
  refine seq_cP (fun i => ((i : Int), svR s g i p)) n (svR s g n p) ?_ (by omega) ?_ ?_ rfl
  · have : svR s g 0 p = s := by
      funext f i k
      rw [svR_d]
      by_cases h : f = 1608 ∧ i = 0 ∧ k = 0
      · obtain ⟨rfl, rfl, rfl⟩ := h
        rw [if_pos ⟨rfl, rfl, rfl⟩, h2]; rfl
      · rw [if_neg h, if_neg (by omega)]
    rw [this]; rfl
  · intro i hi
    have q1 : svR s g i p 1609 0 0 = 0 := by rw [svR_d, if_neg (by omega), if_neg (by omega)]; exact h1
    have q2 : svR s g i p 1608 0 0 = ((p + i : Nat) : Int) := by rw [svR_d, if_pos ⟨rfl, rfl, rfl⟩]
    have q3 : svR s g i p g 0 i = s g 0 i := by rw [svR_d, if_neg (by omega), if_neg (by omega)]
    have q4 : st2 (svR s g i p) 1606 0 (p + i) (s g 0 i) 1608 0 0 = ((p + i : Nat) : Int) := by rw [st2_ne (by omega)]; exact q2
    have q5 : st2 (st2 (svR s g i p) 1606 0 (p + i) (s g 0 i)) 1608 0 0 ((p + (i + 1) : Nat) : Int) = svR s g (i + 1) p := by
      funext f j k
      rw [st2_d, st2_d, svR_d, svR_d]
      by_cases e1 : f = 1608 ∧ j = 0 ∧ k = 0
      · rw [if_pos e1, if_pos e1]
      · rw [if_neg e1, if_neg e1, if_neg e1]
        by_cases e2 : f = 1606 ∧ j = 0 ∧ k = p + i
        · rw [if_pos e2, if_pos (by omega)]
          congr 1
          omega
        · rw [if_neg e2]
          by_cases e3 : f = 1606 ∧ j = 0 ∧ p ≤ k ∧ k < p + i
          · rw [if_pos e3, if_pos (by omega)]
          · rw [if_neg e3, if_neg (by omega)]
    show f235_a g i (svR s g i p) = _
    unfold f235_a
    rw [hn, if_neg (by omega), bnd, q1, jn, if_pos rfl, bnd, q2, ld_t (by omega) (by omega), Int.toNat_natCast, q3, sto_t (by omega) (by omega), Int.toNat_natCast]
    dsimp only
    rw [bnd, q4, bnd, bnd, jadd_e (by omega) (by omega), jadd_e (by omega) (by omega), ← q5]
    rfl
  · show f235_a g n (svR s g n p) = _
    unfold f235_a
    rw [hn, if_pos (by omega)]
theorem m235r {s : S2} {g n p : Nat} (hn : am_ln g = n) (hn2 : n ≤ 1000) (hg : g < 1606) (hp : p + n ≤ 5500) (h1 : s 1609 0 0 = 1) (h2 : s 1608 0 0 = p) : f235 g s = some (rsR s g n p) := by
  unfold f235
  refine seq_cP (fun i => ((i : Int), rsR s g i p)) n (rsR s g n p) ?_ (by omega) ?_ ?_ rfl
  · have : rsR s g 0 p = s := by
      funext f i k
      rw [rsR_d]
      by_cases h : f = 1608 ∧ i = 0 ∧ k = 0
      · obtain ⟨rfl, rfl, rfl⟩ := h
        rw [if_pos ⟨rfl, rfl, rfl⟩, h2]; rfl
      · rw [if_neg h, if_neg (by omega)]
    rw [this]; rfl
  · intro i hi
    have q1 : rsR s g i p 1609 0 0 = 1 := by rw [rsR_d, if_neg (by omega), if_neg (by omega)]; exact h1
    have q2 : rsR s g i p 1608 0 0 = ((p + i : Nat) : Int) := by rw [rsR_d, if_pos ⟨rfl, rfl, rfl⟩]
    have q3 : rsR s g i p 1606 0 (p + i) = s 1606 0 (p + i) := by rw [rsR_d, if_neg (by omega), if_neg (by omega)]
    have q4 : st2 (rsR s g i p) g 0 i (s 1606 0 (p + i)) 1608 0 0 = ((p + i : Nat) : Int) := by rw [st2_ne (by omega)]; exact q2
    have q5 : st2 (st2 (rsR s g i p) g 0 i (s 1606 0 (p + i))) 1608 0 0 ((p + (i + 1) : Nat) : Int) = rsR s g (i + 1) p := by
      funext f j k
      rw [st2_d, st2_d, rsR_d, rsR_d]
      by_cases e1 : f = 1608 ∧ j = 0 ∧ k = 0
      · rw [if_pos e1, if_pos e1]
      · rw [if_neg e1, if_neg e1, if_neg e1]
        by_cases e2 : f = g ∧ j = 0 ∧ k = i
        · rw [if_pos e2, if_pos (by omega)]
          congr 1
          omega
        · rw [if_neg e2]
          by_cases e3 : f = g ∧ j = 0 ∧ k < i
          · rw [if_pos e3, if_pos (by omega)]
          · rw [if_neg e3, if_neg (by omega)]
    show f235_a g i (rsR s g i p) = _
    unfold f235_a
    rw [hn, if_neg (by omega), bnd, q1, jn, if_neg (by decide), bnd, q2, ld_t (by omega) (by omega), Int.toNat_natCast, q3, sto_t (by omega) (by omega), Int.toNat_natCast]
    dsimp only
    rw [bnd, q4, bnd, bnd, jadd_e (by omega) (by omega), jadd_e (by omega) (by omega), ← q5]
    rfl
  · show f235_a g n (rsR s g n p) = _
    unfold f235_a
    rw [hn, if_pos (by omega)]
