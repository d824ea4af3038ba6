theorem cl_R {C B C' B' : V2} {n q q' : Nat} {K : Int} {bs : Nat → Nat} (hC : CB C) (hB : BD C B) (hp : hsP K C = true) (h : clR n bs K q C B = .inr (q', C', B')) : CB C' ∧ BD C' B' := by
  unfold hsP at hp
  unfold clR at h
  by_cases k1 : K = 256
  · rw [if_pos k1] at hp h
    have w := of_decide_eq_true hp
    exact cl_family hC hB w.1 w.2 h
  · rw [if_neg k1] at hp h
    by_cases k2 : K = 257
    · rw [if_pos k2] at hp h
      have w := of_decide_eq_true hp
      exact cl_line hC hB w.1 w.2 h
    · rw [if_neg k2] at hp h
      by_cases k3 : K = 268
      · rw [if_pos k3] at hp h
        have w := of_decide_eq_true hp
        exact cl_rain hC hB w.1 w.2 h
      · rw [if_neg k3] at hp h
        by_cases k4 : K = 274
        · rw [if_pos k4] at hp h
          exact cl_court hC hB (of_decide_eq_true hp) h
        · rw [if_neg k4] at hp h
          by_cases k5 : K = 275
          · rw [if_pos k5] at hp h
            have w := of_decide_eq_true hp
            exact cl_linen hC hB w.1 w.2 h
          · rw [if_neg k5] at hp h
            exact cl_hung hC hB h
