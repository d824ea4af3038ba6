theorem ln_1538 : am_ln 1538 = 4 := rfl
theorem ln_1539 : am_ln 1539 = 4 := rfl
theorem ln_1544 : am_ln 1544 = 6 := rfl
theorem ln_1547 : am_ln 1547 = 10 := rfl
theorem ln_1548 : am_ln 1548 = 10 := rfl
/-- n numbers of the live yard written into row m -/
def RAs (s0 : S2) (m n : Nat) : S2 := fun f i k => if f = 1591 ∧ i = 0 ∧ 36 * m ≤ k ∧ k < 36 * m + n then rowA s0 (k - 36 * m) else if f = 1594 ∧ i = 0 ∧ k = 0 then ((36 * m + n : Nat) : Int) else if f = 1595 ∧ i = 0 ∧ k = 0 then 0 else s0 f i k
theorem RAs_o {s0 : S2} {m n f i k : Nat} (h : ¬ f = 1591) (h2 : ¬ f = 1594) (h3 : ¬ f = 1595) : RAs s0 m n f i k = s0 f i k := by
  unfold RAs
  rw [if_neg (by omega), if_neg (by omega), if_neg (by omega)]
theorem RAs_a {s0 : S2} {m n : Nat} : RAs s0 m n 1594 0 0 = ((36 * m + n : Nat) : Int) := by
  unfold RAs
  rw [if_neg (by omega), if_pos ⟨rfl, rfl, rfl⟩]
theorem RAs_b {s0 : S2} {m n : Nat} : RAs s0 m n 1595 0 0 = 0 := by
  unfold RAs
  rw [if_neg (by omega), if_neg (by omega), if_pos ⟨rfl, rfl, rfl⟩]
theorem RAs_s {s0 : S2} {m n : Nat} : st2 (st2 (RAs s0 m n) 1591 0 (36 * m + n) (rowA s0 n)) 1594 0 0 ((36 * m + (n + 1) : Nat) : Int) = RAs s0 m (n + 1) := by
  funext f i k
  simp only [st2_d]
  unfold RAs
  by_cases h1 : f = 1594 ∧ i = 0 ∧ k = 0
  · rw [if_pos h1, if_neg (by omega), if_pos h1]
  · rw [if_neg h1, if_neg h1, if_neg h1]
    by_cases h2 : f = 1591 ∧ i = 0 ∧ k = 36 * m + n
    · rw [if_pos h2, if_pos (by omega), h2.2.2, show 36 * m + n - 36 * m = n by omega]
    · rw [if_neg h2]
      by_cases h3 : f = 1591 ∧ i = 0 ∧ 36 * m ≤ k ∧ k < 36 * m + n
      · rw [if_pos h3, if_pos (by omega)]
      · rw [if_neg h3, if_neg (show ¬ (f = 1591 ∧ i = 0 ∧ 36 * m ≤ k ∧ k < 36 * m + (n + 1)) by omega)]
theorem m217a {s0 : S2} {m n : Nat} (h : 36 * m + n < 720) : f217 (rowA s0 n) (RAs s0 m n) = some (rowA s0 n, RAs s0 m (n + 1)) := by
  unfold f217
  simp only [jn, bnd]
  rw [RAs_b, if_pos rfl, RAs_a, sto_t (by omega) (by omega), Int.toNat_natCast, st2_ne (f' := 1594) (by omega), RAs_a, jadd_e (by omega) (by omega), show ((36 * m + n : Nat) : Int) + 1 = ((36 * m + (n + 1) : Nat) : Int) by omega, RAs_s]
theorem st2_id {s : S2} {f i k : Nat} {v : Int} (h : s f i k = v) : st2 s f i k v = s := by
  funext f' i' k'
  rw [st2_d]
  split
  · rename_i q
    obtain ⟨rfl, rfl, rfl⟩ := q
    exact h.symm
  · rfl
theorem m218a {s0 : S2} {y m n0 len : Nat} (hl : am_ln y = len) (hlen : len ≤ 10) (h : 36 * m + n0 + len ≤ 720) (hy : y ≠ 1591 ∧ y ≠ 1594 ∧ y ≠ 1595) (hr : ∀ i, i < len → rowA s0 (n0 + i) = s0 y 0 i) : f218 y (RAs s0 m n0) = some (RAs s0 m (n0 + len)) := by
  unfold f218
  refine seq_cP (fun i => ((i : Int), RAs s0 m (n0 + i))) len _ rfl (by omega) ?_ ?_ rfl
  · intro i hi
    show f218_a y _ _ = _
    unfold f218_a
    rw [hl, if_neg (by omega), ld_t (by omega) (by omega), Int.toNat_natCast, RAs_o hy.1 hy.2.1 hy.2.2, ← hr i hi, m217a (by omega), cR_s, sto_t (by omega) (by omega), Int.toNat_natCast, st2_id (by rw [RAs_o hy.1 hy.2.1 hy.2.2, hr i hi]), bnd, jadd_e (by omega) (by omega)]
    rfl
  · show f218_a y _ _ = _
    unfold f218_a
    rw [hl, if_pos (by omega)]
theorem m216a {s : S2} {m : Nat} (h : m < 20) : f216 m 0 s = some (RAs s m 36) := by
  have e0 : st2 (st2 s 1594 0 0 ((36 * m : Nat) : Int)) 1595 0 0 0 = RAs s m 0 := by
    funext f i k
    simp only [st2_d]
    unfold RAs
    rw [if_neg (show ¬ (f = 1591 ∧ i = 0 ∧ 36 * m ≤ k ∧ k < 36 * m + 0) by omega)]
    by_cases h1 : f = 1595 ∧ i = 0 ∧ k = 0
    · rw [if_pos h1, if_neg (by omega), if_pos h1]
    · rw [if_neg h1, if_neg h1]
      rfl
  unfold f216
  rw [jmul_e (by omega) (by omega), show (36 * (m : Int)) = ((36 * m : Nat) : Int) by omega, bnd, gd_t (Or.inl rfl), bnd, e0, ld_t (by omega) (by omega), RAs_o (by omega) (by omega) (by omega), show s 1537 0 (Int.toNat 6) = rowA s 0 from rfl, m217a (by omega), cR_s, sto_t (by omega) (by omega), st2_id (by rw [RAs_o (by omega) (by omega) (by omega)]; rfl), ld_t (by omega) (by omega), RAs_o (by omega) (by omega) (by omega), show s 1537 0 (Int.toNat 7) = rowA s (0 + 1) from rfl, m217a (by omega), cR_s, sto_t (by omega) (by omega), st2_id (by rw [RAs_o (by omega) (by omega) (by omega)]; rfl)]
  rw [m218a (n0 := 0 + 1 + 1) ln_1538 (by omega) (by omega) (by omega) (fun i hi => rA_2 hi), cP_s, m218a (n0 := 0 + 1 + 1 + 4) ln_1539 (by omega) (by omega) (by omega) (fun i hi => rA_3 hi), cP_s, m218a (n0 := 0 + 1 + 1 + 4 + 4) ln_1544 (by omega) (by omega) (by omega) (fun i hi => rA_4 hi), cP_s, m218a (n0 := 0 + 1 + 1 + 4 + 4 + 6) ln_1547 (by omega) (by omega) (by omega) (fun i hi => rA_5 hi), cP_s, m218a (n0 := 0 + 1 + 1 + 4 + 4 + 6 + 10) ln_1548 (by omega) (by omega) (by omega) (fun i hi => rA_6), cP_s]
/-- where a number of the live yard stands in a row -/
def cellN (f k : Nat) : Nat := if f = 1537 then (if k = 6 then 0 else if k = 7 then 1 else 36) else if f = 1538 then (if k < 4 then 2 + k else 36) else if f = 1539 then (if k < 4 then 6 + k else 36) else if f = 1544 then (if k < 6 then 10 + k else 36) else if f = 1547 then (if k < 10 then 16 + k else 36) else if f = 1548 then (if k < 10 then 26 + k else 36) else 36
theorem cellN_bd {f k : Nat} (h : cellN f k < 36) : f = 1537 ∨ f = 1538 ∨ f = 1539 ∨ f = 1544 ∨ f = 1547 ∨ f = 1548 := by
  unfold cellN at h
  grind (splits := 30)
theorem cellN_e {f k n : Nat} (hn : n < 36) : cellN f k = n ↔ f = cellF n ∧ k = cellK n := by
  unfold cellN cellF cellK
  constructor
  · intro h
    grind (splits := 60)
  · rintro ⟨rfl, rfl⟩
    grind (splits := 60)
