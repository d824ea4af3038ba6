def LDs (s0 : S2) (k n : Nat) : S2 := fun f i q => if f = 1608 ∧ i = 0 ∧ q = 0 then ((1100 * k + n : Nat) : Int) else if f = 1609 ∧ i = 0 ∧ q = 0 then 1 else if i = 0 ∧ gJ (offJ f + q) = f ∧ offJ f + q < n then s0 1606 0 (1100 * k + (offJ f + q)) else s0 f i q
theorem LDs_o {s0 : S2} {k n f i q : Nat} (h : ¬ ((1537 ≤ f ∧ f ≤ 1556) ∨ f = 1593 ∨ f = 1591)) (h2 : f ≠ 1608) (h3 : f ≠ 1609) : LDs s0 k n f i q = s0 f i q := by
  unfold LDs
  have := gJ_bd (q := offJ f + q)
  rw [if_neg (by omega), if_neg (by omega), if_neg (by omega)]
theorem LDs_8 {s0 : S2} {k n : Nat} : LDs s0 k n 1608 0 0 = ((1100 * k + n : Nat) : Int) := by
  unfold LDs
  rw [if_pos ⟨rfl, rfl, rfl⟩]
theorem LDs_9 {s0 : S2} {k n : Nat} : LDs s0 k n 1609 0 0 = 1 := by
  unfold LDs
  rw [if_neg (by omega), if_pos ⟨rfl, rfl, rfl⟩]
theorem LDs_s {s0 : S2} {k n0 len g : Nat} (hg : g < 1606) (ho : offJ g = n0) (hr : ∀ i, i < len → gJ (n0 + i) = g) : rsR (LDs s0 k n0) g len (1100 * k + n0) = LDs s0 k (n0 + len) := by
  funext f i q
  rw [rsR_d, LDs_o (f := 1606) (by omega) (by omega) (by omega)]
  unfold LDs
  by_cases h1 : f = 1608 ∧ i = 0 ∧ q = 0
  · rw [if_pos h1, if_pos h1, Nat.add_assoc]
  · rw [if_neg h1, if_neg h1, if_neg h1]
    by_cases h2 : f = g ∧ i = 0 ∧ q < len
    · obtain ⟨rfl, rfl, h2⟩ := h2
      rw [if_pos ⟨rfl, rfl, h2⟩, if_neg (by omega), ho, if_pos ⟨rfl, hr q h2, by omega⟩, Nat.add_assoc]
    · rw [if_neg h2]
      by_cases h3 : f = 1609 ∧ i = 0 ∧ q = 0
      · rw [if_pos h3, if_pos h3]
      · rw [if_neg h3, if_neg h3]
        by_cases h4 : i = 0 ∧ gJ (offJ f + q) = f ∧ offJ f + q < n0
        · rw [if_pos h4, if_pos ⟨h4.1, h4.2.1, by omega⟩]
        · rw [if_neg h4, if_neg ?_]
          rintro ⟨w1, w2, w3⟩
          by_cases h5 : offJ f + q < n0
          · exact h4 ⟨w1, w2, h5⟩
          · have := hr (offJ f + q - n0) (by omega)
            rw [show n0 + (offJ f + q - n0) = offJ f + q by omega, w2] at this
            subst this
            exact h2 ⟨rfl, w1, by omega⟩
theorem m235l {s0 : S2} {k n0 len g : Nat} (hk : k < 4) (hl : am_ln g = len) (hlen : len ≤ 720) (hn : n0 + len ≤ 870) (hg : g < 1606) (ho : offJ g = n0) (hr : ∀ i, i < len → gJ (n0 + i) = g) : f235 g (LDs s0 k n0) = some (LDs s0 k (n0 + len)) := by
  rw [m235r (p := 1100 * k + n0) hl (by omega) hg (by omega) LDs_9 LDs_8, LDs_s hg ho hr]
theorem gJ_k {g n0 len : Nat} (ho : offJ g = n0) (hj : ∀ i, i < len → jr g i) : ∀ i, i < len → gJ (n0 + i) = g := fun i hi => by rw [← ho]; exact gJ_jr (hj i hi)
theorem m234r {s : S2} {k : Nat} (hk : k < 4) : ∃ s', f234 k 1 s = some s' ∧ live s' = im s k ∧ ∀ f i, ¬ ((1537 ≤ f ∧ f ≤ 1556) ∨ (1591 ≤ f ∧ f ≤ 1593) ∨ f = 1608 ∨ f = 1609) → s' f i = s f i := by
  have e0 : st2 (st2 s 1608 0 0 ((1100 * k : Nat) : Int)) 1609 0 0 1 = LDs s k 0 := by
    funext f i q
    simp only [st2_d]
    unfold LDs
    rw [if_neg (show ¬ (i = 0 ∧ gJ (offJ f + q) = f ∧ offJ f + q < 0) by omega)]
    by_cases h1 : f = 1609 ∧ i = 0 ∧ q = 0
    · rw [if_pos h1, if_neg (by omega), if_pos h1]
    · rw [if_neg h1, if_neg h1]
      rfl
  have e1 : ∀ (s : S2) (n : Nat) (v : Int), st2 (LDs s k n) 1592 0 0 v = LDs (st2 s 1592 0 0 v) k n := fun s n v => by
    funext f i q
    simp only [st2_d]
    unfold LDs
    rw [st2_ne (f' := 1606) (by omega), st2_d]
    by_cases h1 : f = 1592 ∧ i = 0 ∧ q = 0
    · have := gJ_bd (q := offJ f + q)
      rw [if_pos h1, if_neg (by omega), if_neg (by omega), if_neg (by omega), if_pos h1]
    · rw [if_neg h1, if_neg h1]
  have e4 : ∀ z : S2, st2 (rsR (LDs z k 45) 1592 1 (1100 * k + 45)) 1593 0 0 (z 1606 0 (1100 * k + 45)) = LDs (st2 z 1592 0 0 (z 1606 0 (1100 * k + 45))) k 46 := fun z => by
    rw [← e1]
    funext f i q
    rw [st2_d, st2_d, rsR_d, LDs_o (f := 1606) (by omega) (by omega) (by omega)]
    unfold LDs
    by_cases h0 : f = 1593 ∧ i = 0 ∧ q = 0
    · obtain ⟨rfl, rfl, rfl⟩ := h0
      rw [if_pos ⟨rfl, rfl, rfl⟩, if_neg (by omega), if_neg (by omega), if_neg (by omega), if_pos ⟨rfl, rfl, by decide⟩]
      rfl
    · rw [if_neg h0]
      by_cases h1 : f = 1608 ∧ i = 0 ∧ q = 0
      · rw [if_pos h1, if_neg (by omega), if_pos h1]
      · rw [if_neg h1, if_neg h1]
        by_cases h2 : f = 1592 ∧ i = 0 ∧ q = 0
        · rw [if_pos (by omega), if_pos h2, h2.2.2]
        · rw [if_neg (by omega), if_neg h2, if_neg h1]
          by_cases h3 : f = 1609 ∧ i = 0 ∧ q = 0
          · rw [if_pos h3, if_pos h3]
          · rw [if_neg h3, if_neg h3]
            by_cases h4 : i = 0 ∧ gJ (offJ f + q) = f ∧ offJ f + q < 45
            · rw [if_pos h4, if_pos ⟨h4.1, h4.2.1, by omega⟩]
            · rw [if_neg h4, if_neg ?_]
              rintro ⟨w1, w2, w3⟩
              by_cases h5 : offJ f + q < 45
              · exact h4 ⟨w1, w2, h5⟩
              · have h6 : offJ f + q = 45 := by omega
                rw [h6] at w2
                have w4 : f = 1593 := w2.symm
                subst w4
                have w5 : offJ 1593 = 45 := rfl
                exact h0 ⟨rfl, w1, by omega⟩
  generalize hz : st2 s 1592 0 0 (LDs s k 45 1593 0 0) = z at *
  have zo : ∀ f i, f ≠ 1592 → z f i = s f i := fun f i h => by
    rw [← hz]
    funext q
    exact st2_ne (by omega)
  generalize hy : st2 z 1592 0 0 (z 1606 0 (1100 * k + 45)) = y at *
  have yo : ∀ f i, f ≠ 1592 → y f i = s f i := fun f i h => by
    rw [← zo f i h, ← hy]
    funext q
    exact st2_ne (by omega)
  refine ⟨LDs y k 870, ?_, nJ_ext fun f i hr => ?_, fun f i hf => ?_⟩
  · unfold f234
    rw [jmul_e (by omega) (by omega), show (1100 * (k : Int)) = ((1100 * k : Nat) : Int) by omega, bnd, gd_t (Or.inr rfl), bnd, e0]
    rw [m235l (n0 := 0) (len := 11) hk rfl (by omega) (by omega) (by omega) rfl (gJ_k rfl fun i hi => by unfold jr; omega), cP_s]
    rw [m235l (n0 := 0 + 11) (len := 4) hk rfl (by omega) (by omega) (by omega) rfl (gJ_k rfl fun i hi => by unfold jr; omega), cP_s]
    rw [m235l (n0 := 0 + 11 + 4) (len := 4) hk rfl (by omega) (by omega) (by omega) rfl (gJ_k rfl fun i hi => by unfold jr; omega), cP_s]
    rw [m235l (n0 := 0 + 11 + 4 + 4) (len := 6) hk rfl (by omega) (by omega) (by omega) rfl (gJ_k rfl fun i hi => by unfold jr; omega), cP_s]
    rw [m235l (n0 := 0 + 11 + 4 + 4 + 6) (len := 10) hk rfl (by omega) (by omega) (by omega) rfl (gJ_k rfl fun i hi => by unfold jr; omega), cP_s]
    rw [m235l (n0 := 0 + 11 + 4 + 4 + 6 + 10) (len := 10) hk rfl (by omega) (by omega) (by omega) rfl (gJ_k rfl fun i hi => by unfold jr; omega), cP_s]
    rw [if_pos (by omega), show (0 + 11 + 4 + 4 + 6 + 10 + 10) = 45 from rfl, bnd, sto_t (by omega) (by omega), show Int.toNat 0 = 0 from rfl, e1, hz]
    rw [m235r (n := 1) (p := 1100 * k + 45) rfl (by omega) (by omega) (by omega) LDs_9 LDs_8, cP_s]
    rw [ld_t (by omega) (by omega), bnd, show Int.toNat 0 = 0 from rfl, show rsR (LDs z k 45) 1592 1 (1100 * k + 45) 1592 0 0 = z 1606 0 (1100 * k + 45) by rw [rsR_h (by omega) (by omega), LDs_o (by omega) (by omega) (by omega)], e4, hy]
    rw [m235l (n0 := 46) (len := 6) hk rfl (by omega) (by omega) (by omega) rfl (gJ_k rfl fun i hi => by unfold jr; omega), cP_s]
    rw [m235l (n0 := 46 + 6) (len := 6) hk rfl (by omega) (by omega) (by omega) rfl (gJ_k rfl fun i hi => by unfold jr; omega), cP_s]
    rw [m235l (n0 := 46 + 6 + 6) (len := 6) hk rfl (by omega) (by omega) (by omega) rfl (gJ_k rfl fun i hi => by unfold jr; omega), cP_s]
    rw [m235l (n0 := 46 + 6 + 6 + 6) (len := 6) hk rfl (by omega) (by omega) (by omega) rfl (gJ_k rfl fun i hi => by unfold jr; omega), cP_s]
    rw [m235l (n0 := 46 + 6 + 6 + 6 + 6) (len := 10) hk rfl (by omega) (by omega) (by omega) rfl (gJ_k rfl fun i hi => by unfold jr; omega), cP_s]
    rw [m235l (n0 := 46 + 6 + 6 + 6 + 6 + 10) (len := 10) hk rfl (by omega) (by omega) (by omega) rfl (gJ_k rfl fun i hi => by unfold jr; omega), cP_s]
    rw [m235l (n0 := 46 + 6 + 6 + 6 + 6 + 10 + 10) (len := 3) hk rfl (by omega) (by omega) (by omega) rfl (gJ_k rfl fun i hi => by unfold jr; omega), cP_s]
    rw [m235l (n0 := 46 + 6 + 6 + 6 + 6 + 10 + 10 + 3) (len := 3) hk rfl (by omega) (by omega) (by omega) rfl (gJ_k rfl fun i hi => by unfold jr; omega), cP_s]
    rw [m235l (n0 := 46 + 6 + 6 + 6 + 6 + 10 + 10 + 3 + 3) (len := 10) hk rfl (by omega) (by omega) (by omega) rfl (gJ_k rfl fun i hi => by unfold jr; omega), cP_s]
    rw [m235l (n0 := 46 + 6 + 6 + 6 + 6 + 10 + 10 + 3 + 3 + 10) (len := 10) hk rfl (by omega) (by omega) (by omega) rfl (gJ_k rfl fun i hi => by unfold jr; omega), cP_s]
    rw [m235l (n0 := 46 + 6 + 6 + 6 + 6 + 10 + 10 + 3 + 3 + 10 + 10) (len := 10) hk rfl (by omega) (by omega) (by omega) rfl (gJ_k rfl fun i hi => by unfold jr; omega), cP_s]
    rw [m235l (n0 := 46 + 6 + 6 + 6 + 6 + 10 + 10 + 3 + 3 + 10 + 10 + 10) (len := 4) hk rfl (by omega) (by omega) (by omega) rfl (gJ_k rfl fun i hi => by unfold jr; omega), cP_s]
    rw [m235l (n0 := 46 + 6 + 6 + 6 + 6 + 10 + 10 + 3 + 3 + 10 + 10 + 10 + 4) (len := 10) hk rfl (by omega) (by omega) (by omega) rfl (gJ_k rfl fun i hi => by unfold jr; omega), cP_s]
    rw [m235l (n0 := 46 + 6 + 6 + 6 + 6 + 10 + 10 + 3 + 3 + 10 + 10 + 10 + 4 + 10) (len := 10) hk rfl (by omega) (by omega) (by omega) rfl (gJ_k rfl fun i hi => by unfold jr; omega), cP_s]
    rw [m235l (n0 := 46 + 6 + 6 + 6 + 6 + 10 + 10 + 3 + 3 + 10 + 10 + 10 + 4 + 10 + 10) (len := 720) hk rfl (by omega) (by omega) (by omega) rfl (gJ_k rfl fun i hi => by unfold jr; omega), cP_s]
  · have hb := offJ_bd hr
    show LDs y k 870 f 0 i = s 1606 0 (1100 * k + offJ f + i)
    unfold LDs
    rw [if_neg (by unfold jr at hr; omega), if_neg (by unfold jr at hr; omega), if_pos ⟨rfl, gJ_jr hr, hb⟩, yo _ _ (by omega), Nat.add_assoc]
  · funext q
    rw [LDs_o (by omega) (by omega) (by omega), yo _ _ (by omega)]
