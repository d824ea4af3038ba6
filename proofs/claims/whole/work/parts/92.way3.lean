/-! WAY on both sides -/
theorem WR.congr {d d' m : Nat → Int} (h : WR d m) (e : ∀ v, v < 8 → d v = d' v) : WR d' m := fun v hv => by
  rcases h v hv with ⟨q1, q2⟩ | ⟨L, E, q1, q2, q3, q4, q5, q6, q7⟩
  · exact Or.inl ⟨by rw [← e v hv]; exact q1, q2⟩
  · refine Or.inr ⟨L, E, by rw [← e v hv]; exact q1, q2, q3, q4, q5, q6, ?_⟩
    have : cntD d' (d' v) = cntD d (d v) := by
      unfold cntD
      refine cntB_congr fun i hi => ?_
      rw [e v hv, e i hi]
    rw [this]
    exact q7
def wayS (C Y : V2) (a b c : Int) : Int := if rsN C Y 16 (d0 1000000 b) 7 a.toNat < 1000000 then (if c = 0 then rsN C Y 16 (d0 1000000 b) 7 a.toNat / 16 else if a = b then -1 else fsL C Y 16 (rsN C Y 16 (d0 1000000 b) 7) a 6 0) else -2
theorem c129 {s : S2} {C Y : V2} {a b : Nat} (hC : CB C) (hs : cw s 0 = C) (hy : yv s 0 = Y) (ha : a < 8) (hb : b < 8) : ∃ s', f129 0 0 a b s = some (if 1000000 ≤ rsN C Y 16 (d0 1000000 b) 7 a then 0 else 1, s') ∧ s' 1280 0 0 = rsN C Y 16 (d0 1000000 b) 7 a / 16 ∧ s' 1282 0 0 = (if (a : Int) = b then -1 else fsL C Y 16 (rsN C Y 16 (d0 1000000 b) 7) a 6 0) ∧ Fr pWc s s' := by
  obtain ⟨s1, a1, a2, a3⟩ := c129a (s := s) (to := (b : Int))
  have h1 : cw s1 0 = C := by rw [a3.cw fun f g1 g2 => pWc_f.mpr (by omega)]; exact hs
  have h2 : yv s1 0 = Y := by rw [a3.yv fun f g1 g2 => pWc_f.mpr (by omega)]; exact hy
  obtain ⟨s2, b1, b2, b3⟩ := c129b (to := b) hC h1 h2 a2 BI_0
  have hB := rs_BI (Y := Y) hC (BI_0 (C := C) (Y := Y) (to := b)) (r := 7)
  have hd := hB.2.1 a ha
  have h3 : cw s2 0 = C := by rw [b3.cw fun f g1 g2 => pWc_f.mpr (by omega)]; exact h1
  have h4 : yv s2 0 = Y := by rw [b3.yv fun f g1 g2 => pWc_f.mpr (by omega)]; exact h2
  generalize hD : rsN C Y 16 (d0 1000000 b) 7 = D at b2 hB hd ⊢
  have hr : rowI (st2 (st2 s2 1280 0 0 (D a / 16)) 1282 0 0 (-1)) 1291 D := fun v hv => by
    rw [st2_ne (by omega), st2_ne (by omega)]
    exact b2 v hv
  have F : Fr pWc s2 (st2 (st2 s2 1280 0 0 (D a / 16)) 1282 0 0 (-1)) := (Fr.rf.st rfl).st rfl
  obtain ⟨s3, c1, c2, c3, c4⟩ := c129d (Y := Y) (fr := (a : Int)) (to := (b : Int)) hC (by rw [F.cw fun f g1 g2 => pWc_f.mpr (by omega)]; exact h3) (by rw [F.yv fun f g1 g2 => pWc_f.mpr (by omega)]; exact h4) hr hB.2.1 st2_eq
  rw [Int.toNat_natCast] at c1
  refine ⟨s3, ?_, by rw [c3, st2_ne (by omega), st2_eq], c2, (a3.tr b3).tr (F.tr c4)⟩
  unfold f129
  rw [a1, cP_s, b1, cP_s, m131 b2 ha, cP_s, jdiv_e (by omega) (by omega) (by decide) (by decide), bnd, bnd, c1, cP_s]
  by_cases q : 1000000 ≤ D a
  · rw [if_pos q, if_pos q]
  · rw [if_neg q, if_neg q]
theorem call_way {s : S2} {C Y : V2} {code : List Int} {a b c : Int} (h : Rel s C Y code) (ia : i32 a) (ib : i32 b) (ic : i32 c) : ∃ r s1 s2, f128 a b c s = some (r, s1) ∧ f251 a b c s1 = some (r, s2) ∧ Ask s s2 := by
  have hM := h.2.2.2.2.2.2.2
  have hC := h.2.2.1
  have hY := h.2.2.2.1
  have e4 : s 384 0 0 = C 384 0 := by rw [← h.1, cw0 (by omega) (by omega)]
  have ja : ji2l a = a := by unfold i32 at ia; exact ji2l_e (by omega) (by omega)
  have jb : ji2l b = b := by unfold i32 at ib; exact ji2l_e (by omega) (by omega)
  have jc : ji2l c = c := by unfold i32 at ic; exact ji2l_e (by omega) (by omega)
  by_cases hp : ¬ C 384 0 = 0 ∧ (0 ≤ a ∧ a ≤ 7) ∧ (0 ≤ b ∧ b ≤ 7) ∧ (0 ≤ c ∧ c ≤ 1)
  · obtain ⟨h0, ha, hb, hc⟩ := hp
    obtain ⟨a, rfl⟩ := Int.eq_ofNat_of_zero_le ha.1
    obtain ⟨b, rfl⟩ := Int.eq_ofNat_of_zero_le hb.1
    have ha8 : a < 8 := by omega
    have hb8 : b < 8 := by omega
    obtain ⟨s1, k1, k2, k3, k4⟩ := c129 hC h.1 h.2.1 ha8 hb8
    have F1 : Fr pAk s s1 := k4.mo fun f i q => pWc_f.mpr (by have := pAk_f.mp q; omega)
    have F2 : Fr pCl s s1 := k4.mo fun f i q => pWc_f.mpr (by have := pCl_f.mp q; omega)
    have hM1 := hM.cl F2
    obtain ⟨t1, l1, l2, l3⟩ := m252 (to := (b : Int)) hC hY hM1.1 hM1.2.1
    have hB := rs_BI (Y := Y) hC (BI_0 (C := C) (Y := Y) (to := b)) (r := 7)
    have hW : WR (rsN C Y 16 (d0 1000000 b) 7) (rsN C Y 100 (d0 100000 b) 8) := (WR.rs (Y := Y) hC (WR_0 (to := (b : Int))) (r := 8)).congr (rs_fix hC hb8 BI_0)
    have hAk : Ask s1 t1 := Ask.mo l3 (fun f i q => pWm_f.mpr (by have := pAk_f.mp q; omega)) (fun f g1 g2 g3 => pWm_f.mpr (by omega))
    refine ⟨wayS C Y a b c, s1, t1, ?_, ?_, (Ask.cl F1 F2).tr hAk⟩
    · unfold f128 wayS
      simp only [jn]
      rw [if_neg (by omega), if_neg (by omega), if_neg (by omega), if_neg (by omega), bnd, e4, if_neg h0, if_neg ne10, if_neg (by omega), if_pos hc.2, k1, cR_s, Int.toNat_natCast]
      by_cases q : 1000000 ≤ rsN C Y 16 (d0 1000000 b) 7 a
      · rw [if_pos q, if_pos rfl, if_neg (by omega)]
      · have hlt : rsN C Y 16 (d0 1000000 b) 7 a < 1000000 := by omega
        rw [if_neg q, if_neg ne10, if_pos hlt]
        by_cases c0 : c = 0
        · rw [if_neg (show ¬ ¬ c = 0 from fun w => w c0), bnd, k2, if_pos c0]
        · rw [if_pos c0, bnd, k3, if_neg c0]
    · have hWa := hW a ha8
      have hbd := hWa.bd
      have e251 := m251a (to := (b : Int)) hC hY (hM1.1.wm l3) (hM1.2.1.wm l3) l2 (fun v hv => by have := (hW v hv).bd; omega) ha8
      unfold f251 wayS
      rw [m220 hC hM1.1, cP_s, if_neg h0, ja, m173t ha, cP_s, if_neg ne10, jb, m173t hb, cP_s, if_neg ne10, jc, m173t hc, cP_s, if_pos ne10, l1, cP_s, ld_t (by omega) (by omega), Int.toNat_natCast, l2 a ha8]
      by_cases q : rsN C Y 16 (d0 1000000 b) 7 a < 1000000
      · rw [if_pos (hbd.2.2.2.2.mpr q), if_pos q]
        by_cases c0 : c = 0
        · rw [if_neg (show ¬ ¬ c = 0 from fun w => w c0), if_pos c0, ld_t (by omega) (by omega), Int.toNat_natCast, l2 a ha8, jdiv_e (by omega) (by omega) (by decide) (by decide), bnd]
          rcases hWa with ⟨w1, w2⟩ | ⟨L, E, w1, w2, w3, w4, w5, w6, w7⟩
          · omega
          · rw [w1, w2, show (100 * L + E) / 100 = (16 * L + E) / 16 by omega]
        · rw [if_pos c0, if_neg c0, e251]
          by_cases f1 : (a : Int) = b
          · rw [if_pos f1, if_pos f1]
          · rw [if_neg f1, if_neg f1]
            rw [fsL_congr fun x g1 g2 => lead_iff hC hW ha8 q (by omega)]
      · rw [if_neg (fun w => q (hbd.2.2.2.2.mp w)), if_neg q]
  · refine ⟨-3, s, s, ?_, ?_, Ask.rf⟩
    · have L0 : ∀ (e : Option (Int × S2)), (if C 384 0 = 0 then some ((-3 : Int), s) else if (0 : Int) = 0 then some (-3, s) else e) = some (-3, s) := fun e => by
        by_cases h0 : C 384 0 = 0
        · rw [if_pos h0]
        · rw [if_neg h0, if_pos rfl]
      unfold f128
      simp only [jn, bnd, e4]
      by_cases a0 : a < 0
      · rw [if_pos a0]; (by_cases h0 : C 384 0 = 0 <;> simp [h0])
      · rw [if_neg a0]
        by_cases a8 : 8 ≤ a
        · rw [if_pos a8]; (by_cases h0 : C 384 0 = 0 <;> simp [h0])
        · rw [if_neg a8]
          by_cases b0 : b < 0
          · rw [if_pos b0]; (by_cases h0 : C 384 0 = 0 <;> simp [h0])
          · rw [if_neg b0]
            by_cases b8 : 8 ≤ b
            · rw [if_pos b8]; (by_cases h0 : C 384 0 = 0 <;> simp [h0])
            · rw [if_neg b8]
              by_cases h0 : C 384 0 = 0
              · rw [if_pos h0]
              · rw [if_neg h0, if_neg ne10]
                by_cases c0 : c < 0
                · rw [if_pos c0]
                · rw [if_neg c0, if_neg (fun w => hp ⟨h0, by omega, by omega, by omega⟩)]
    · unfold f251
      rw [m220 hC hM.1, cP_s, ja]
      by_cases h0 : C 384 0 = 0
      · rw [if_pos h0]
      · rw [if_neg h0]
        by_cases ha : 0 ≤ a ∧ a ≤ 7
        · rw [m173t ha, cP_s, if_neg ne10, jb]
          by_cases hb : 0 ≤ b ∧ b ≤ 7
          · rw [m173t hb, cP_s, if_neg ne10, jc, m173f (fun w => hp ⟨h0, ha, hb, w⟩), cP_s, if_neg (by decide)]
          · rw [m173f hb, cP_s, if_pos rfl]
        · rw [m173f ha, cP_s, if_pos rfl]
