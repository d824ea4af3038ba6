/-! line, linen, family -/
theorem call_linen {s : S2} {C Y : V2} {code : List Int} {a b : Int} (h : Rel s C Y code) (ia : i32 a) : ∃ r, f91 a b s = some r ∧ f213 a b s = some r := by
  have hM := h.2.2.2.2.2.2.2
  have hC := h.2.2.1
  have hcc := hC.1
  obtain ⟨e1, e2, e3⟩ := cw0f h.1
  unfold f91 f213
  rw [m214 hC hM.1 ia]
  by_cases ha : 0 ≤ a ∧ a < C 389 0
  · obtain ⟨n, rfl⟩ := Int.eq_ofNat_of_zero_le ha.1
    have hn : n < 10 := by omega
    obtain ⟨w1, w2, w3⟩ := hM.1.2.2.1 n hn ha.2
    obtain ⟨w4, w5⟩ := hM.2.1.2.2.2.1 n hn ha.2
    have v1 : s 395 0 n = C 395 n := by rw [← h.1, cw10 (by omega) (by omega) hn]
    have v2 : s 396 0 n = C 396 n := by rw [← h.1, cw10 (by omega) (by omega) hn]
    have v4 : s 516 0 n = Y 516 n := by rw [← h.2.1, yv516 hn]
    have v5 : s 515 0 n = Y 515 n := by rw [← h.2.1, yv515 hn]
    rw [m49t (by omega), cP_s, if_pos ha, cP_s, if_pos ne10, if_pos ne10]
    simp (disch := omega) only [ld_t, Int.toNat_natCast, w1, w2, w4, w5, v1, v2, v4, v5]
    refine ⟨if b = 0 then C 395 n else if b = 1 then C 396 n else if b = 2 then Y 516 n else if b = 3 then Y 515 n else -2, ?_, ?_⟩
    · grind
    · grind
  · rw [m49f (by omega), cP_s, if_neg ha, cP_s, if_neg (by decide), if_neg (by decide)]
    exact ⟨_, rfl, rfl⟩
theorem call_line {s : S2} {C Y : V2} {code : List Int} {a b : Int} (h : Rel s C Y code) (ia : i32 a) : ∃ r s1 s2, f88 a b s = some (r, s1) ∧ f209 a b s1 = some (r, s2) ∧ Ask s s2 := by
  have hM := h.2.2.2.2.2.2.2
  have hC := h.2.2.1
  have hY := h.2.2.2.1
  have hcc := hC.1
  obtain ⟨e1, e2, e3⟩ := cw0f h.1
  by_cases ha : 0 ≤ a ∧ a < C 388 0
  · obtain ⟨n, rfl⟩ := Int.eq_ofNat_of_zero_le ha.1
    have hn : n < 6 := by omega
    obtain ⟨w1, w2, w3, w4⟩ := hM.1.2.1 n hn ha.2
    have w7 := hM.2.1.2.2.1 n hn ha.2
    have v1 : s 391 0 n = C 391 n := by rw [← h.1, cw6 (by omega) (by omega) hn]
    have v2 : s 392 0 n = C 392 n := by rw [← h.1, cw6 (by omega) (by omega) hn]
    have v3 : s 393 0 n = C 393 n := by rw [← h.1, cw6 (by omega) (by omega) hn]
    have v4 : s 394 0 n = C 394 n := by rw [← h.1, cw6 (by omega) (by omega) hn]
    have v7 : s 513 0 n = Y 513 n := by rw [← h.2.1, yv513 hn]
    have v8 : s 514 0 n = Y 514 n := by rw [← h.2.1, yv514 hn]
    have v5 : f52 0 0 n s = some (left C Y n) := by rw [m52n (by rw [h.1]; exact hC), h.1, h.2.1]
    have w5 := m211 hC hY hM.1 hM.2.1 hn ha.2
    have v6 : f89 0 n s = some (setB 10 (fun k => decide (Y 515 k = n))) := by rw [m89, h.2.1]
    have w6 := m212 (l := (n : Int)) hC hY hM.1 hM.2.1 (by omega)
    have w8 := m201 hY hM.2.1 hn
    obtain ⟨s1, k1, k2, k3⟩ := rel_own h hn
    have hM1 := hM.cl k3
    obtain ⟨s2, l1, l2⟩ := m200 hC hY hM1 hn ha.2
    unfold f88 f209
    rw [m50t (by omega), cP_s, if_pos ne10]
    have hx : ∀ t : S2, MS C Y code 0 t → f210 n t = some 1 := fun t ht => by rw [m210 hC ht.1 ia, if_pos ha]
    by_cases b6 : b = 6
    · subst b6
      refine ⟨own C Y (rainI C Y 0) code n, s1, s2, ?_, ?_, (Ask.cl k2 k3).tr (Ask.pO l2)⟩
      · simp only [Int.reduceEq, if_false, if_true]
        rw [k1]
        rfl
      · rw [hx s1 hM1, cP_s, if_pos ne10]
        simp only [Int.reduceEq, if_false, if_true]
        rw [l1]
        rfl
    · refine ⟨if b = 0 then C 391 n else if b = 1 then C 392 n else if b = 2 then C 393 n else if b = 3 then C 394 n else if b = 4 then left C Y n else if b = 5 then setB 10 (fun k => decide (Y 515 k = n)) else if b = 7 then Y 513 n else if b = 8 then Y 514 n else -2, s, s, ?_, ?_, Ask.rf⟩
      · simp (disch := omega) only [b6, if_false, ld_t, Int.toNat_natCast, v1, v2, v3, v4, v5, v6, v7, v8, cP_s]
        grind
      · rw [hx s hM, cP_s, if_pos ne10]
        simp (disch := omega) only [w1, w2, w3, w4, w5, w6, w7, w8, b6, if_false, ld_t, Int.toNat_natCast, cP_s]
        have := hY.2.2.1 n hn
        grind
  · refine ⟨-2, s, s, ?_, ?_, Ask.rf⟩
    · unfold f88
      rw [m50f (by omega), cP_s, if_neg (by decide)]
    · unfold f209
      rw [m210 hC hM.1 ia, if_neg ha, cP_s, if_neg (by decide)]
theorem call_family {s : S2} {C Y : V2} {code : List Int} {a b : Int} (h : Rel s C Y code) (ia : i32 a) : ∃ r s1 s2, f73 a b s = some (r, s1) ∧ f197 a b s1 = some (r, s2) ∧ Ask s s2 := by
  have hM := h.2.2.2.2.2.2.2
  have hC := h.2.2.1
  have hY := h.2.2.2.1
  have hcc := hC.1
  obtain ⟨e1, e2, e3⟩ := cw0f h.1
  by_cases ha : 0 ≤ a ∧ a < C 387 0
  · obtain ⟨n, rfl⟩ := Int.eq_ofNat_of_zero_le ha.1
    have hn : n < 4 := by omega
    obtain ⟨w1, w2⟩ := hM.2.1.2.2.2.2 n hn ha.2
    have v1 : s 517 0 n = Y 517 n := by rw [← h.2.1, yv517 hn]
    have v2 : s 518 0 n = Y 518 n := by rw [← h.2.1, yv518 hn]
    have v3 : f87 0 n s = some (setB 10 (fun k => decide ((k : Int) < C 389 0 ∧ C 395 k = n))) := by rw [m87, h.1]
    obtain ⟨s1, k1, k2, k3⟩ := h.lines (f := (n : Int))
    have hM1 := hM.cl k3
    obtain ⟨s2, l1, l2⟩ := m199 (f := (n : Int)) hC hY (by omega) hM1
    have hx : ∀ t : S2, MS C Y code 0 t → f198 n t = some 1 := fun t ht => by rw [m198 hC ht.1 ia, if_pos ha]
    unfold f73 f197
    rw [m51t (by omega), cP_s, if_pos ne10]
    by_cases b0 : b = 0
    · subst b0
      refine ⟨Y 517 n, s, s, ?_, ?_, Ask.rf⟩
      · rw [if_pos rfl, ld_t (by omega) (by omega), Int.toNat_natCast, v1]
      · rw [hx s hM, cP_s, if_pos ne10, if_pos rfl, ld_t (by omega) (by omega), Int.toNat_natCast, w1]
    · rw [if_neg b0]
      by_cases b1 : b = 1
      · subst b1
        refine ⟨Y 518 n, s, s, ?_, ?_, Ask.rf⟩
        · rw [if_pos rfl, ld_t (by omega) (by omega), Int.toNat_natCast, v2]
        · rw [hx s hM, cP_s, if_pos ne10, if_neg (by decide), if_pos rfl, ld_t (by omega) (by omega), Int.toNat_natCast, w2]
      · rw [if_neg b1]
        by_cases b2 : b = 2
        · subst b2
          refine ⟨linesS C Y code n, s1, s2, ?_, ?_, (Ask.cl k2 k3).tr (Ask.pO l2)⟩
          · rw [if_pos rfl, k1]
            rfl
          · rw [hx s1 hM1, cP_s, if_pos ne10, if_neg (by decide), if_neg (by decide), if_pos rfl, l1]
            rfl
        · rw [if_neg b2]
          by_cases b3 : b = 3
          · subst b3
            refine ⟨setB 10 (fun k => decide ((k : Int) < C 389 0 ∧ C 395 k = n)), s, s, ?_, ?_, Ask.rf⟩
            · rw [if_pos rfl, v3]
              rfl
            · rw [hx s hM, cP_s, if_pos ne10, if_neg (by decide), if_neg (by decide), if_neg (by decide), if_pos rfl, m197a hC hM.1]
          · refine ⟨-1, s, s, by rw [if_neg b3], ?_, Ask.rf⟩
            rw [hx s hM, cP_s, if_pos ne10, if_neg b0, if_neg b1, if_neg b2, if_neg b3]
  · refine ⟨-1, s, s, ?_, ?_, Ask.rf⟩
    · unfold f73
      rw [m51f (by omega), cP_s, if_neg (by decide)]
    · unfold f197
      rw [m198 hC hM.1 ia, if_neg ha, cP_s, if_neg (by decide)]
