theorem ch5 {s : S2} {f : Nat} (h1 : 384 ≤ f) (h2 : f ≤ 390) : s f 5 0 = cw s 5 f 0 := (cw0 h1 h2).symm
def clRain (n : Nat) (bs : Nat → Nat) (q : Nat) (C B : V2) : Int ⊕ (Nat × V2 × V2) := bN (numA n bs 0 99 q) fun v1 q1 => bN (numA n bs v1 99 q1) fun v2 q2 => .inr (q2, setC (setC (setC C 398 (C 390 0).toNat v1) 399 (C 390 0).toNat v2) 390 0 (C 390 0 + 1), B)
theorem m46 {s : S2} {n m q k : Nat} {bs : Nat → Nat} (h : CAt s n bs m q) (hS : CS (cw s 5)) (hk : cw s 5 390 0 = k) (hk3 : k < 3) : ∃ s', f46 s = some s' ∧ CRes s s' n bs m (clRain n bs q (cw s 5) (yv s 161)) := by
  have e0 : s 390 5 0 = k := (ch5 (by omega) (by omega)).trans hk
  have tail : ∀ (z : S2) (r1 r3 : Int), z 390 5 0 = k → (bnd (z 390 5 0) fun v5 => if v5 < 0 then (some z) else bnd (z 390 5 0) fun v6 => if 3 ≤ v6 then (some z) else bnd (z 390 5 0) fun v7 => sto z 398 5 3 v7 r1 fun s8 => bnd (s8 390 5 0) fun v9 => sto s8 399 5 3 v9 r3 fun s10 => bnd (s10 390 5 0) fun v11 => bnd (st2 s10 390 5 0 (jadd v11 1)) fun s12 => some s12) = some (st2 (st2 (st2 z 398 5 k r1) 399 5 k r3) 390 5 0 ((k : Int) + 1)) := fun z r1 r3 hz => by
    simp only [bnd]
    rw [hz, if_neg (by omega), if_neg (by omega), sto_t (by omega) (by omega), Int.toNat_natCast, st2_ne (f' := 390) (by omega), hz, sto_t (by omega) (by omega), Int.toNat_natCast, st2_ne (f' := 390) (by omega), st2_ne (f' := 390) (by omega), hz, jadd_e (by omega) (by omega)]
  unfold f46 clRain
  rcases h.num (lo := 0) (hi := 99) with ⟨v1, q1, s1, a1, a2, a3, a4, a5, a6⟩ | ⟨e, s1, a1, a4, a5, a6⟩
  · rw [a1, bN_r, a4, cR_s]
    rcases a5.num (lo := v1) (hi := 99) with ⟨v2, q2, s3, b1, b2, b3, b4, b5, b6⟩ | ⟨e, s3, b1, b4, b5, b6⟩
    · rw [b1, bN_r, b4, cR_s, tail s3 v1 v2 (by rw [b6 _ _ (p13_f.mpr (by omega)), a6 _ _ (p13_f.mpr (by omega))]; exact e0)]
      refine ⟨_, rfl, (((a6.p13.tr b6.p13).st (pDr_t (by omega))).st (pDr_t (by omega))).st (pDr_t (by omega)), ((b5.st (by omega)).st (by omega)).st (by omega), ?_, ?_⟩
      · rw [cw_st, cw_st, cw_st, cw13 b6, cw13 a6, hk]
        rfl
      · rw [yvC (by omega), yvC (by omega), yvC (by omega), yv13 b6, yv13 a6]
    · rw [b1, bN_l, b4, cR_s, tail s3 v1 (-1) (by rw [b6 _ _ (p13_f.mpr (by omega)), a6 _ _ (p13_f.mpr (by omega))]; exact e0)]
      refine ⟨_, rfl, (((a6.p13.tr b6.p13).st (pDr_t (by omega))).st (pDr_t (by omega))).st (pDr_t (by omega)), ((b5.st (by omega)).st (by omega)).st (by omega), ?_⟩
      rw [cw_st, cw_st, cw_st, cw13 b6, cw13 a6]
      exact ((hS.set (by omega)).set (by omega)).set (by omega)
  · rw [a1, bN_l, a4, cR_s, a5.num, cR_s, tail s1 (-1) (-1) (by rw [a6 _ _ (p13_f.mpr (by omega))]; exact e0)]
    refine ⟨_, rfl, ((a6.p13.st (pDr_t (by omega))).st (pDr_t (by omega))).st (pDr_t (by omega)), ((a5.st (by omega)).st (by omega)).st (by omega), ?_⟩
    rw [cw_st, cw_st, cw_st, cw13 a6]
    exact ((hS.set (by omega)).set (by omega)).set (by omega)
def clLinen (n : Nat) (bs : Nat → Nat) (q : Nat) (C B : V2) : Int ⊕ (Nat × V2 × V2) := bN (numA n bs 0 (C 387 0 - 1) q) fun v1 q1 => bN (numA n bs 1 4 q1) fun v2 q2 => bN (numA n bs 0 20 q2) fun v3 q3 => .inr (q3, setC (setC (setC (setC C 395 (C 389 0).toNat v1) 396 (C 389 0).toNat v2) 397 (C 389 0).toNat v3) 389 0 (C 389 0 + 1), setF B 516 (C 389 0).toNat v3)
theorem m45 {s : S2} {n m q k F : Nat} {bs : Nat → Nat} (h : CAt s n bs m q) (hS : CS (cw s 5)) (hk : cw s 5 389 0 = k) (hk9 : k < 10) (hF : cw s 5 387 0 = F) (hF4 : F ≤ 4) : ∃ s', f45 s = some s' ∧ CRes s s' n bs m (clLinen n bs q (cw s 5) (yv s 161)) := by
  have e0 : s 389 5 0 = k := (ch5 (by omega) (by omega)).trans hk
  have eF : s 387 5 0 = F := (ch5 (by omega) (by omega)).trans hF
  have tail : ∀ (z : S2) (r2 r4 r6 : Int), z 389 5 0 = k → (bnd (z 389 5 0) fun v8 => if v8 < 0 then (some z) else if 10 ≤ v8 then (some z) else sto z 395 5 10 v8 r2 fun s9 => sto s9 396 5 10 v8 r4 fun s10 => sto s10 397 5 10 v8 r6 fun s11 => sto s11 516 161 10 v8 r6 fun s12 => bnd (s12 389 5 0) fun v13 => bnd (st2 s12 389 5 0 (jadd v13 1)) fun s14 => some s14) = some (st2 (st2 (st2 (st2 (st2 z 395 5 k r2) 396 5 k r4) 397 5 k r6) 516 161 k r6) 389 5 0 ((k : Int) + 1)) := fun z r2 r4 r6 hz => by
    simp only [bnd]
    rw [hz, if_neg (by omega), if_neg (by omega), sto_t (by omega) (by omega), Int.toNat_natCast, sto_t (by omega) (by omega), Int.toNat_natCast, sto_t (by omega) (by omega), Int.toNat_natCast, sto_t (by omega) (by omega), Int.toNat_natCast, st2_ne (f' := 389) (by omega), st2_ne (f' := 389) (by omega), st2_ne (f' := 389) (by omega), st2_ne (f' := 389) (by omega), hz, jadd_e (by omega) (by omega)]
  have fin : ∀ (z : S2) (r2 r4 r6 : Int), Fr pDr s z → Fr pDr s (st2 (st2 (st2 (st2 (st2 z 395 5 k r2) 396 5 k r4) 397 5 k r6) 516 161 k r6) 389 5 0 ((k : Int) + 1)) := fun z r2 r4 r6 hz => ((((hz.st (pDr_t (by omega))).st (pDr_t (by omega))).st (pDr_t (by omega))).st (pDr_t (by omega))).st (pDr_t (by omega))
  have fcs : ∀ (z : S2) (r2 r4 r6 : Int), CS (cw z 5) → (-1 ≤ r2 ∧ r2 ≤ 3) → (-1 ≤ r4 ∧ r4 ≤ 4) → (-1 ≤ r6 ∧ r6 ≤ 20) → CS (cw (st2 (st2 (st2 (st2 (st2 z 395 5 k r2) 396 5 k r4) 397 5 k r6) 516 161 k r6) 389 5 0 ((k : Int) + 1)) 5) := fun z r2 r4 r6 hz w1 w2 w3 => by
    rw [cw_st, cwY (by omega), cw_st, cw_st, cw_st]
    exact (((hz.set (by omega)).set (by omega)).set (by omega)).set (by omega)
  have fer : ∀ (z : S2) (r2 r4 r6 e : Int), CEr z n bs m e → CEr (st2 (st2 (st2 (st2 (st2 z 395 5 k r2) 396 5 k r4) 397 5 k r6) 516 161 k r6) 389 5 0 ((k : Int) + 1)) n bs m e := fun z r2 r4 r6 e hz => ((((hz.st (by omega)).st (by omega)).st (by omega)).st (by omega)).st (by omega)
  have ej : jsub (F : Int) 1 = (F : Int) - 1 := jsub_e (by omega) (by omega)
  unfold f45 clLinen
  rw [eF, bnd, ej, hF]
  rcases h.num (lo := 0) (hi := (F : Int) - 1) with ⟨v1, q1, s1, a1, a2, a3, a4, a5, a6⟩ | ⟨e, s1, a1, a4, a5, a6⟩
  · rw [a1, bN_r, a4, cR_s]
    rcases a5.num (lo := 1) (hi := 4) with ⟨v2, q2, s2, b1, b2, b3, b4, b5, b6⟩ | ⟨e, s2, b1, b4, b5, b6⟩
    · rw [b1, bN_r, b4, cR_s]
      rcases b5.num (lo := 0) (hi := 20) with ⟨v3, q3, s3, c1, c2, c3, c4, c5, c6⟩ | ⟨e, s3, c1, c4, c5, c6⟩
      · rw [c1, bN_r, c4, cR_s, tail s3 v1 v2 v3 (by rw [c6 _ _ (p13_f.mpr (by omega)), b6 _ _ (p13_f.mpr (by omega)), a6 _ _ (p13_f.mpr (by omega))]; exact e0)]
        refine ⟨_, rfl, fin _ _ _ _ ((a6.p13.tr b6.p13).tr c6.p13), ((((c5.st (by omega)).st (by omega)).st (by omega)).st (by omega)).st (by omega), ?_, ?_⟩
        · rw [cw_st, cwY (by omega), cw_st, cw_st, cw_st, cw13 c6, cw13 b6, cw13 a6, hk]
          rfl
        · rw [yvC (by omega), yv_st, yvC (by omega), yvC (by omega), yvC (by omega), yv13 c6, yv13 b6, yv13 a6, hk]
          rfl
      · rw [c1, bN_l, c4, cR_s, tail s3 v1 v2 (-1) (by rw [c6 _ _ (p13_f.mpr (by omega)), b6 _ _ (p13_f.mpr (by omega)), a6 _ _ (p13_f.mpr (by omega))]; exact e0)]
        exact ⟨_, rfl, fin _ _ _ _ ((a6.p13.tr b6.p13).tr c6.p13), fer _ _ _ _ _ c5, fcs _ _ _ _ (by rw [cw13 c6, cw13 b6, cw13 a6]; exact hS) (by omega) (by omega) (by omega)⟩
    · rw [b1, bN_l, b4, cR_s, b5.num, cR_s, tail s2 v1 (-1) (-1) (by rw [b6 _ _ (p13_f.mpr (by omega)), a6 _ _ (p13_f.mpr (by omega))]; exact e0)]
      exact ⟨_, rfl, fin _ _ _ _ (a6.p13.tr b6.p13), fer _ _ _ _ _ b5, fcs _ _ _ _ (by rw [cw13 b6, cw13 a6]; exact hS) (by omega) (by omega) (by omega)⟩
  · rw [a1, bN_l, a4, cR_s, a5.num, cR_s, a5.num, cR_s, tail s1 (-1) (-1) (-1) (by rw [a6 _ _ (p13_f.mpr (by omega))]; exact e0)]
    exact ⟨_, rfl, fin _ _ _ _ a6.p13, fer _ _ _ _ _ a5, fcs _ _ _ _ (by rw [cw13 a6]; exact hS) (by omega) (by omega) (by omega)⟩
