theorem CB.cs {C : V2} (h : CB C) : CS C := ⟨h.2.1, h.2.2.2.1, h.2.2.2.2.2.1⟩
def clHung (n : Nat) (bs : Nat → Nat) (q : Nat) (C B : V2) : Int ⊕ (Nat × V2 × V2) := bN (numA n bs 0 (C 389 0 - 1) q) fun v1 q1 => bN (numA n bs 0 (C 388 0 - 1) q1) fun v2 q2 => if mayI C B v1 v2 = 0 then .inl (1 + 8 * (q1 : Int) + 1) else .inr (q2, C, putS C B v1 v2)
theorem mayI_neg {C Y : V2} {a b : Int} (h : a < 0 ∨ b < 0) : mayI C Y a b = 0 := mayI_z fun w => by
  obtain ⟨⟨w1, -, -⟩, ⟨w2, -, -⟩, -⟩ := w
  omega
theorem m47 {s : S2} {n m q : Nat} {bs : Nat → Nat} (h : CAt s n bs m q) (hC : CB (cw s 5)) : ∃ s', f47 s = some s' ∧ CRes s s' n bs m (clHung n bs q (cw s 5) (yv s 161)) := by
  have hcc := hC.1
  have hn4 := h.2.2.2
  have e9 : s 389 5 0 = cw s 5 389 0 := ch5 (by omega) (by omega)
  have e8 : s 388 5 0 = cw s 5 388 0 := ch5 (by omega) (by omega)
  have ej9 : jsub (cw s 5 389 0) 1 = cw s 5 389 0 - 1 := jsub_e (by omega) (by omega)
  have ej8 : jsub (cw s 5 388 0) 1 = cw s 5 388 0 - 1 := jsub_e (by omega) (by omega)
  unfold f47 clHung
  rw [bnd, e9, ej9]
  rcases h.num (lo := 0) (hi := cw s 5 389 0 - 1) with ⟨v1, q1, s1, a1, a2, a3, a4, a5, a6⟩ | ⟨e, s1, a1, a4, a5, a6⟩
  · obtain ⟨p1, p2⟩ := a5.place
    have e81 : s1 388 5 0 = cw s 5 388 0 := by rw [a6 _ _ (p13_f.mpr (by omega))]; exact e8
    rw [a1, bN_r, a4, cR_s, p2, cP_s, bnd, e81, ej8]
    rcases a5.num (lo := 0) (hi := cw s 5 388 0 - 1) with ⟨v2, q2, s2, b1, b2, b3, b4, b5, b6⟩ | ⟨e, s2, b1, b4, b5, b6⟩
    · have hc2 : cw s2 5 = cw s 5 := by rw [cw13 b6, cw13 a6]
      have hy2 : yv s2 161 = yv s 161 := by rw [yv13 b6, yv13 a6]
      have hC2 : CB (cw s2 5) := by rw [hc2]; exact hC
      rw [b1, bN_r, b4, cR_s, m48n hC2, cP_s, hc2, hy2]
      by_cases z : mayI (cw s 5) (yv s 161) v1 v2 = 0
      · obtain ⟨s3, k1, k2, k3⟩ := b5.ref (p := q1) (k := 1) (by omega) (by omega)
        rw [if_pos z, if_pos z, k1, cP_s]
        exact ⟨s3, rfl, (a6.p13.tr b6.p13).tr k3.p13, k2, by rw [cw13 k3, hc2]; exact hC.cs⟩
      · obtain ⟨s3, k1, k2, k3⟩ := m54 (y := 161) (c := 5) (n := v1) (l := v2) (s := s2) hC2
        rw [if_neg z, if_neg z, k1, cP_s]
        rw [hc2, hy2] at k2
        refine ⟨s3, rfl, (a6.p13.tr b6.p13).tr (k3.mo fun f i w => pY_f.mpr (by have := pDr_f.mp w; omega)), b5.fr k3 (fun f g1 g2 => pY_f.mpr (by omega)), ?_, k2⟩
        rw [k3.cw fun f g1 g2 => pY_f.mpr (by omega), hc2]
    · have hc2 : cw s2 5 = cw s 5 := by rw [cw13 b6, cw13 a6]
      have hC2 : CB (cw s2 5) := by rw [hc2]; exact hC
      rw [b1, bN_l, b4, cR_s, m48n hC2, cP_s, mayI_neg (by omega), if_pos rfl, b5.ref (by omega) (by omega), cP_s]
      exact ⟨s2, rfl, a6.p13.tr b6.p13, b5, by rw [hc2]; exact hC.cs⟩
  · obtain ⟨p, p1, p2⟩ := a5.place
    have e81 : s1 388 5 0 = cw s 5 388 0 := by rw [a6 _ _ (p13_f.mpr (by omega))]; exact e8
    have hC2 : CB (cw s1 5) := by rw [cw13 a6]; exact hC
    rw [a1, bN_l, a4, cR_s, p2, cP_s, bnd, a5.num, cR_s, m48n hC2, cP_s, mayI_neg (by omega), if_pos rfl, a5.ref p1 (by omega), cP_s]
    exact ⟨s1, rfl, a6.p13, a5, by rw [cw13 a6]; exact hC.cs⟩
def clLine (n : Nat) (bs : Nat → Nat) (q : Nat) (C B : V2) : Int ⊕ (Nat × V2 × V2) := bN (numA n bs 0 7 q) fun v1 q1 => bN (numA n bs 0 7 q1) fun v2 q2 => if v1 = v2 then .inl (1 + 8 * (q1 : Int) + 1) else bN (numA n bs 1 9 q2) fun v3 q3 => bN (numA n bs 1 99 q3) fun v4 q4 => .inr (q4, setC (setC (setC (setC (setC C 391 (C 388 0).toNat v1) 392 (C 388 0).toNat v2) 393 (C 388 0).toNat v3) 394 (C 388 0).toNat v4) 388 0 (C 388 0 + 1), B)
theorem m42 {s : S2} {n m q k : Nat} {bs : Nat → Nat} (h : CAt s n bs m q) (hS : CS (cw s 5)) (hk : cw s 5 388 0 = k) (hk6 : k < 6) : ∃ s', f42 s = some s' ∧ CRes s s' n bs m (clLine n bs q (cw s 5) (yv s 161)) := by
  have hn4 := h.2.2.2
  have e0 : s 388 5 0 = k := (ch5 (by omega) (by omega)).trans hk
  have tail : ∀ (z : S2) (r1 r4 r7 r9 : Int), z 388 5 0 = k → (bnd (z 388 5 0) fun v11 => if v11 < 0 then (some z) else if 6 ≤ v11 then (some z) else sto z 391 5 6 v11 r1 fun s12 => sto s12 392 5 6 v11 r4 fun s13 => sto s13 393 5 6 v11 r7 fun s14 => sto s14 394 5 6 v11 r9 fun s15 => bnd (s15 388 5 0) fun v16 => bnd (st2 s15 388 5 0 (jadd v16 1)) fun s17 => some s17) = some (st2 (st2 (st2 (st2 (st2 z 391 5 k r1) 392 5 k r4) 393 5 k r7) 394 5 k r9) 388 5 0 ((k : Int) + 1)) := fun z r1 r4 r7 r9 hz => by
    simp only [bnd]
    rw [hz, if_neg (by omega), if_neg (by omega), sto_t (by omega) (by omega), Int.toNat_natCast, sto_t (by omega) (by omega), Int.toNat_natCast, sto_t (by omega) (by omega), Int.toNat_natCast, sto_t (by omega) (by omega), Int.toNat_natCast, st2_ne (f' := 388) (by omega), st2_ne (f' := 388) (by omega), st2_ne (f' := 388) (by omega), st2_ne (f' := 388) (by omega), hz, jadd_e (by omega) (by omega)]
  have fin : ∀ (z : S2) (r1 r4 r7 r9 : Int), Fr pDr s z → Fr pDr s (st2 (st2 (st2 (st2 (st2 z 391 5 k r1) 392 5 k r4) 393 5 k r7) 394 5 k r9) 388 5 0 ((k : Int) + 1)) := fun z r1 r4 r7 r9 hz => ((((hz.st (pDr_t (by omega))).st (pDr_t (by omega))).st (pDr_t (by omega))).st (pDr_t (by omega))).st (pDr_t (by omega))
  have ferr : ∀ (z : S2) (r1 r4 r7 r9 e : Int), Fr pDr s z → cw z 5 = cw s 5 → CEr z n bs m e → (-1 ≤ r1 ∧ r1 ≤ 7) → (-1 ≤ r4 ∧ r4 ≤ 7) → (-1 ≤ r7 ∧ r7 ≤ 9) → (-1 ≤ r9 ∧ r9 ≤ 99) → CRes s (st2 (st2 (st2 (st2 (st2 z 391 5 k r1) 392 5 k r4) 393 5 k r7) 394 5 k r9) 388 5 0 ((k : Int) + 1)) n bs m (.inl e) := fun z r1 r4 r7 r9 e hz hc he w1 w2 w3 w4 => by
    refine ⟨fin _ _ _ _ _ hz, ((((he.st (by omega)).st (by omega)).st (by omega)).st (by omega)).st (by omega), ?_⟩
    rw [cw_st, cw_st, cw_st, cw_st, cw_st, hc]
    exact ((((hS.set (by omega)).set (by omega)).set (by omega)).set (by omega)).set (by omega)
  have hz : ∀ z : S2, cw z 5 = cw s 5 → z 388 5 0 = k := fun z hc => by
    rw [show z 388 5 0 = cw z 5 388 0 from ch5 (by omega) (by omega), hc, hk]
  unfold f42 clLine
  simp only [jn]
  rcases h.num (lo := 0) (hi := 7) with ⟨v1, q1, s1, a1, a2, a3, a4, a5, a6⟩ | ⟨e, s1, a1, a4, a5, a6⟩
  · obtain ⟨p1, p2⟩ := a5.place
    rw [a1, bN_r, a4, cR_s, p2, cP_s]
    rcases a5.num (lo := 0) (hi := 7) with ⟨v2, q2, s2, b1, b2, b3, b4, b5, b6⟩ | ⟨e, s2, b1, b4, b5, b6⟩
    · have hc2 : cw s2 5 = cw s 5 := by rw [cw13 b6, cw13 a6]
      rw [b1, bN_r, b4, cR_s]
      by_cases c : v1 = v2
      · obtain ⟨s3, k1, k2, k3⟩ := b5.ref (p := q1) (k := 1) (by omega) (by omega)
        have hc3 : cw s3 5 = cw s 5 := by rw [cw13 k3, hc2]
        rw [if_neg (fun w => w c), if_pos c, k1, cP_s, k2.num, cR_s, k2.num, cR_s, tail s3 v1 v2 (-1) (-1) (hz s3 hc3)]
        exact ⟨_, rfl, ferr _ _ _ _ _ _ ((a6.p13.tr b6.p13).tr k3.p13) hc3 k2 (by omega) (by omega) (by omega) (by omega)⟩
      · rw [if_pos c, if_neg c]
        rcases b5.num (lo := 1) (hi := 9) with ⟨v3, q3, s3, c1, c2, c3, c4, c5, c6⟩ | ⟨e, s3, c1, c4, c5, c6⟩
        · have hc3 : cw s3 5 = cw s 5 := by rw [cw13 c6, hc2]
          rw [c1, bN_r, c4, cR_s]
          rcases c5.num (lo := 1) (hi := 99) with ⟨v4, q4, s4, d1, d2, d3, d4, d5, d6⟩ | ⟨e, s4, d1, d4, d5, d6⟩
          · have hc4 : cw s4 5 = cw s 5 := by rw [cw13 d6, hc3]
            rw [d1, bN_r, d4, cR_s, tail s4 v1 v2 v3 v4 (hz s4 hc4)]
            refine ⟨_, rfl, fin _ _ _ _ _ (((a6.p13.tr b6.p13).tr c6.p13).tr d6.p13), ((((d5.st (by omega)).st (by omega)).st (by omega)).st (by omega)).st (by omega), ?_, ?_⟩
            · rw [cw_st, cw_st, cw_st, cw_st, cw_st, hc4, hk]
              rfl
            · rw [yvC (by omega), yvC (by omega), yvC (by omega), yvC (by omega), yvC (by omega), yv13 d6, yv13 c6, yv13 b6, yv13 a6]
          · have hc4 : cw s4 5 = cw s 5 := by rw [cw13 d6, hc3]
            rw [d1, bN_l, d4, cR_s, tail s4 v1 v2 v3 (-1) (hz s4 hc4)]
            exact ⟨_, rfl, ferr _ _ _ _ _ _ (((a6.p13.tr b6.p13).tr c6.p13).tr d6.p13) hc4 d5 (by omega) (by omega) (by omega) (by omega)⟩
        · have hc3 : cw s3 5 = cw s 5 := by rw [cw13 c6, hc2]
          rw [c1, bN_l, c4, cR_s, c5.num, cR_s, tail s3 v1 v2 (-1) (-1) (hz s3 hc3)]
          exact ⟨_, rfl, ferr _ _ _ _ _ _ ((a6.p13.tr b6.p13).tr c6.p13) hc3 c5 (by omega) (by omega) (by omega) (by omega)⟩
    · have hc2 : cw s2 5 = cw s 5 := by rw [cw13 b6, cw13 a6]
      rw [b1, bN_l, b4, cR_s, if_pos (show ¬ v1 = -1 by omega), b5.num, cR_s, b5.num, cR_s, tail s2 v1 (-1) (-1) (-1) (hz s2 hc2)]
      exact ⟨_, rfl, ferr _ _ _ _ _ _ (a6.p13.tr b6.p13) hc2 b5 (by omega) (by omega) (by omega) (by omega)⟩
  · obtain ⟨p, p1, p2⟩ := a5.place
    have hc1 : cw s1 5 = cw s 5 := cw13 a6
    rw [a1, bN_l, a4, cR_s, p2, cP_s, a5.num, cR_s, if_neg (show ¬ ¬ (-1 : Int) = -1 from fun w => w rfl), a5.ref p1 (by omega), cP_s, a5.num, cR_s, a5.num, cR_s, tail s1 (-1) (-1) (-1) (-1) (hz s1 hc1)]
    exact ⟨_, rfl, ferr _ _ _ _ _ _ a6.p13 hc1 a5 (by omega) (by omega) (by omega) (by omega)⟩
