theorem gd01 {α : Type} {e : Option α} : gd ((1 : Int) = 0 ∨ (1 : Int) = 1) e = e := if_pos (Or.inr rfl)
theorem gd00 {α : Type} {e : Option α} : gd ((0 : Int) = 0 ∨ (0 : Int) = 1) e = e := if_pos (Or.inl rfl)
theorem m232 {t : S2} {C : V2} {a c : Int} (hC : CB C) (hR : CR C t) (ia : i32 a) (hc : 0 ≤ c ∧ c ≤ 2) : (aheadP C a c → f232 a c t = some 1) ∧ (¬ aheadP C a c → f232 a c t = some 0) := by
  unfold f232 aheadP
  rw [m198 hC hR ia, m210 hC hR ia, m214 hC hR ia]
  have : c = 0 ∨ c = 1 ∨ c = 2 := by omega
  rcases this with rfl | rfl | rfl
  · rw [if_neg (show ¬ ¬ (0 : Int) = 0 by decide)]
    constructor
    · intro h
      rw [if_pos (by omega), cP_s, gd01]
    · intro h
      rw [if_neg (by omega), cP_s, gd00]
  · rw [if_pos (show ¬ (1 : Int) = 0 by decide), if_neg (show ¬ ¬ (1 : Int) = 1 by decide)]
    constructor
    · intro h
      rw [if_pos (by omega), cP_s, gd01]
    · intro h
      rw [if_neg (by omega), cP_s, gd00]
  · rw [if_pos (show ¬ (2 : Int) = 0 by decide), if_pos (show ¬ (2 : Int) = 1 by decide)]
    constructor
    · intro h
      rw [if_pos (by omega), cP_s, gd01]
    · intro h
      rw [if_neg (by omega), cP_s, gd00]
theorem call_ahead {s : S2} {C Y : V2} {code : List Int} {a b c : Int} (h : Rel s C Y code) (ia : i32 a) (ib : i32 b) (ic : i32 c) : ∃ r s1 s2, f106 a b c s = some (r, s1) ∧ f231 a b c s1 = some (r, s2) ∧ Ask s s2 := by
  have hM := h.2.2.2.2.2.2.2
  have hC := h.2.2.1
  have hY := h.2.2.2.1
  have hcc := hC.1
  have hh := hY.2.2.2.2.1
  have h9 := h.2.2.2.2.1
  have jc : ji2l c = c := by unfold i32 at ic; exact ji2l_e (by omega) (by omega)
  have jb : ji2l b = b := by unfold i32 at ib; exact ji2l_e (by omega) (by omega)
  by_cases hy : aheadP C a c
  · have hc2 : 0 ≤ c ∧ c ≤ 2 := by unfold aheadP at hy; omega
    rw [m106_yes h hy]
    by_cases hb : 0 ≤ b ∧ b ≤ 100
    · obtain ⟨n, rfl⟩ := Int.eq_ofNat_of_zero_le hb.1
      rw [if_neg (by omega), if_pos hb.2]
      obtain ⟨s2, s3, k1, k2, k3, k4, k5, k6⟩ := h.run (n := n) (by omega)
      obtain ⟨t1, t2, t3, l1, l2, l3, l4, l5⟩ := mrun (n := n) hC hY (hM.cl k6) (by omega) (by omega)
      have hVN := l3.2.1
      rw [k1, cP_s, k2, cP_s]
      have e231 : f231 a n c s3 = (jn (fun (x6 : Int) => cP (f237 t2) fun s7 => some (x6, s7)) fun j78 => if ¬ c = 0 then (if ¬ c = 1 then (ld t2 1539 0 4 a fun v8 => j78 v8) else ld t2 1547 0 10 a fun v9 => j78 v9) else ld t2 1544 0 6 a fun v10 => j78 v10) := by
        unfold f231
        rw [jc, jb, m173t hc2, cP_s, if_neg ne10, (m232 hC (hM.cl k6).1 ia hc2).1 hy, cP_s, if_neg ne10, m173t hb, cP_s, if_pos ne10, l1, cP_s, l2, cP_s]
      rcases hy with ⟨rfl, h1, h2⟩ | ⟨rfl, h1, h2⟩ | ⟨rfl, h1, h2⟩
      · obtain ⟨m, rfl⟩ := Int.eq_ofNat_of_zero_le h1
        refine ⟨passN C code n Y 513 m, s3, t3, ?_, ?_, (Ask.cl k5 k6).tr l5⟩
        · rw [if_neg (show ¬ ¬ (0 : Int) = 0 by decide), ld_t (by omega) (by omega), Int.toNat_natCast, ← k3, yv513 (by omega)]
        · rw [e231, jn, if_neg (show ¬ ¬ (0 : Int) = 0 by decide), ld_t (by omega) (by omega), Int.toNat_natCast, hVN.2.2.1 m (by omega) h2, l4]
          rfl
      · obtain ⟨m, rfl⟩ := Int.eq_ofNat_of_zero_le h1
        refine ⟨passN C code n Y 516 m, s3, t3, ?_, ?_, (Ask.cl k5 k6).tr l5⟩
        · rw [if_pos (show ¬ (1 : Int) = 0 by decide), if_neg (show ¬ ¬ (1 : Int) = 1 by decide), ld_t (by omega) (by omega), Int.toNat_natCast, ← k3, yv516 (by omega)]
        · rw [e231, jn, if_pos (show ¬ (1 : Int) = 0 by decide), if_neg (show ¬ ¬ (1 : Int) = 1 by decide), ld_t (by omega) (by omega), Int.toNat_natCast, (hVN.2.2.2.1 m (by omega) h2).1, l4]
          rfl
      · obtain ⟨m, rfl⟩ := Int.eq_ofNat_of_zero_le h1
        refine ⟨passN C code n Y 518 m, s3, t3, ?_, ?_, (Ask.cl k5 k6).tr l5⟩
        · rw [if_pos (show ¬ (2 : Int) = 0 by decide), if_pos (show ¬ (2 : Int) = 1 by decide), ld_t (by omega) (by omega), Int.toNat_natCast, ← k3, yv518 (by omega)]
        · rw [e231, jn, if_pos (show ¬ (2 : Int) = 0 by decide), if_pos (show ¬ (2 : Int) = 1 by decide), ld_t (by omega) (by omega), Int.toNat_natCast, (hVN.2.2.2.2 m (by omega) h2).2, l4]
          rfl
    · refine ⟨-2, s, s, ?_, ?_, Ask.rf⟩
      · by_cases b0 : b < 0
        · rw [if_pos b0]
        · rw [if_neg b0, if_neg (by omega)]
      · unfold f231
        rw [jc, jb, m173t hc2, cP_s, if_neg ne10, (m232 hC hM.1 ia hc2).1 hy, cP_s, if_neg ne10, m173f hb, cP_s, if_neg (by decide)]
  · refine ⟨-2, s, s, m106_no h hy, ?_, Ask.rf⟩
    unfold f231
    rw [jc]
    by_cases hc2 : 0 ≤ c ∧ c ≤ 2
    · rw [m173t hc2, cP_s, if_neg ne10, (m232 hC hM.1 ia hc2).2 hy, cP_s, if_pos rfl]
    · rw [m173f hc2, cP_s, if_pos rfl]
