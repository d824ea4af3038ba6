theorem call_worth {s : S2} {C Y : V2} {code : List Int} {a b : Int} (h : Rel s C Y code) (ia : i32 a) (ib : i32 b) : ∃ r s1 s2, f136 a b s = some (r, s1) ∧ f257 a b s1 = some (r, s2) ∧ Ask s s2 := by
  have hM := h.2.2.2.2.2.2.2
  have hC := h.2.2.1
  have hcc := hC.1
  obtain ⟨e1, e2, e3⟩ := cw0f h.1
  have jb : ji2l b = b := by unfold i32 at ib; exact ji2l_e (by omega) (by omega)
  by_cases ha : 0 ≤ a ∧ a < C 389 0
  · obtain ⟨n, rfl⟩ := Int.eq_ofNat_of_zero_le ha.1
    have q2 : s 515 0 n = Y 515 n := by rw [← h.2.1, yv515 (by omega)]
    have q1 : s 1548 0 n = Y 515 n := (hM.2.1.2.2.2.1 n (by omega) ha.2).2
    have e214 : f214 n s = some 1 := by rw [m214 hC hM.1 ia, if_pos ha]
    have e98 : f98 0 n s = if Y 515 n = -1 then some 0 else some 1 := by
      unfold f98
      rw [m49t (by omega), cP_s, if_neg ne10, ld_t (by omega) (by omega), Int.toNat_natCast]
      show (if s 515 0 n = -1 then _ else _) = _
      rw [q2]
    by_cases hu : Y 515 n = -1
    · refine ⟨-100000, s, s, ?_, ?_, Ask.rf⟩
      · unfold f136
        rw [e98, if_pos hu, cP_s, if_pos rfl]
      · unfold f257
        rw [e214, cP_s, if_neg ne10, ld_t (by omega) (by omega), Int.toNat_natCast, q1, if_pos hu]
    · by_cases hb : 1 ≤ b ∧ b ≤ 60
      · obtain ⟨m, rfl⟩ := Int.eq_ofNat_of_zero_le (show 0 ≤ b by omega)
        obtain ⟨f1, f2, -, -⟩ := hC.2.2.1 n (by omega) ha.2
        obtain ⟨fam, hfam⟩ := Int.eq_ofNat_of_zero_le f1
        obtain ⟨s1, k1, k2, k3⟩ := c136 h (n := m) (by omega) ha.2 hu hfam (by omega) (by omega)
        obtain ⟨s2, l1, l2⟩ := c257 hC h.2.2.2.1 h.2.2.2.2.1 (hM.cl k3) (n := m) (by omega) ha.2 hu hfam (by omega) (by omega)
        exact ⟨_, s1, s2, k1, l1, (Ask.cl k2 k3).tr l2⟩
      · refine ⟨-100000, s, s, ?_, ?_, Ask.rf⟩
        · unfold f136
          rw [e98, if_neg hu, cP_s, if_neg ne10]
          by_cases b1 : b < 1
          · rw [if_pos b1]
          · rw [if_neg b1, if_neg (by omega)]
        · unfold f257
          rw [e214, cP_s, if_neg ne10, ld_t (by omega) (by omega), Int.toNat_natCast, q1, if_neg hu, jb, m173f hb, cP_s, if_neg (by decide)]
  · refine ⟨-100000, s, s, ?_, ?_, Ask.rf⟩
    · unfold f136 f98
      rw [m49f (by omega), cP_s, if_pos rfl, cP_s, if_pos rfl]
    · unfold f257
      rw [m214 hC hM.1 ia, if_neg ha, cP_s, if_pos rfl]
