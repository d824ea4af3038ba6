theorem ldw_z {α : Type} {s : S2} {f i n : Nat} {x : Int} {k1 : Option α} {k2 : Nat → Option α} (h : 0 ≤ x ∧ x < n) (h2 : s f i x.toNat = 0) : ldw s f i n x k1 k2 = k1 := by
  unfold ldw
  rw [if_pos h, if_pos h2]
theorem ldw_n {α : Type} {s : S2} {f i n w : Nat} {x : Int} {k1 : Option α} {k2 : Nat → Option α} (h : 0 ≤ x ∧ x < n) (h2 : s f i x.toNat = w) (h3 : w ≠ 0) : ldw s f i n x k1 k2 = k2 w := by
  unfold ldw
  rw [if_pos h, if_neg (by omega), h2, Int.toNat_natCast]
theorem nw2_o2 {s : S2} {m f i k : Nat} (h : s 9999 0 0 = m) (h2 : f ≠ 9999 ∧ (f < 384 ∨ 1152 ≤ f)) : nw2 s f i k = s f i k := by
  unfold nw2
  rw [if_neg h2.1, if_neg (by omega)]
theorem call_image {s : S2} {a : Int} (h : Inv s) (ia : i32 a) : ∃ r s1 s2, f152 a s = some (r, s1) ∧ f270 a s1 = some (r, s2) ∧ Inv s2 := by
  have ja : ji2l a = a := by unfold i32 at ia; exact ji2l_e (by omega) (by omega)
  by_cases ha : 0 ≤ a ∧ a < 4
  · obtain ⟨R, K, hB, hW, hR⟩ := h.rel
    obtain ⟨-, -, hC, hY, h9, hL, hw, hM⟩ := hR
    have hIM : IM R s := by
      obtain ⟨R', K', b1, b2, b3, b4, b5, b6⟩ := id h
      have : R' = R := by have := hB.1; have := b1.1; omega
      subst this
      exact b4
    obtain ⟨m, c1, c2, c3, c4⟩ := hIM
    obtain ⟨n, rfl⟩ := Int.eq_ofNat_of_zero_le ha.1
    have hn : n < 4 := by omega
    have ht : s 384 0 0 = 0 ∨ s 384 0 0 = 1 := by
      have := hC.2.2.2.2.2.2.2.1
      rw [cw0 (by omega) (by omega)] at this
      exact this
    have hcb := cntB_bd (p := fun k => !decide (s 5 0 k = 0)) (n := 4)
    have e512 : s 512 0 0 = yv s 0 512 0 := yv512.symm
    have model : ∀ s1 : S2, (∀ f, 1537 ≤ f → f ≤ 1609 → s1 f 0 = s f 0) → ∃ s2, f270 n s1 = some (yv s 0 512 0, s2) ∧ im s2 n = live s ∧ (∀ q, (q < 1100 * n ∨ 1100 * n + 870 ≤ q) → s2 1606 0 q = s 1606 0 q) ∧ (∀ k, s2 1607 0 k = if k = n then 1 else s 1607 0 k) ∧ ∀ f i, ¬ (f = 1592 ∨ f = 1606 ∨ f = 1607 ∨ f = 1608 ∨ f = 1609) → s2 f i = s1 f i := fun s1 hs => by
      obtain ⟨s2, k1, k2, k3, k4⟩ := m234s (s := st2 s1 1607 0 n 1) hn
      refine ⟨s2, ?_, ?_, fun q hq => ?_, fun k => ?_, fun f i hf => ?_⟩
      · unfold f270
        have e7 : s2 1537 0 (Int.toNat 7) = yv s 0 512 0 := by
          rw [k4 _ _ (by omega), st2_ne (by omega), hs _ (by omega) (by omega)]
          exact hM.2.1.1
        rw [ja, m173t (by omega), cP_s, if_pos ne10, sto_t (by omega) (by omega), Int.toNat_natCast, k1, cP_s, ld_t (by omega) (by omega), e7]
      · rw [k2]
        exact live_e fun f k hr => by
          unfold jr at hr
          rw [st2_ne (by omega), hs _ (by omega) (by omega)]
      · rw [k3 q hq, st2_ne (by omega), hs _ (by omega) (by omega)]
      · rw [k4 _ _ (by omega), st2_d]
        by_cases e : k = n
        · rw [if_pos ⟨rfl, rfl, e⟩, if_pos e]
        · rw [if_neg (by omega), if_neg e, hs _ (by omega) (by omega)]
      · rw [k4 _ _ (by omega)]
        funext k
        exact st2_ne (by omega)
    have fin : ∀ (w m2 : Nat) (z s1 : S2), 1 ≤ w → w ≤ m2 → m2 ≤ 4 → m ≤ m2 → (∀ f, 1592 ≤ f → f ≤ 1609 → z f 0 = s f 0) → Fr (pIg w) s z → (∀ k, z 5 0 k = if k = n then (w : Int) else s 5 0 k) → z 9999 0 0 = m2 → ((m2 : Int) = cntB 4 (fun k => !decide (z 5 0 k = 0))) → (∀ k, k < 4 → k ≠ n → s 5 0 k ≠ w) → f153 w 0 z = some s1 → cw s1 w = cw z 0 → (∀ j, j < 22 → yv s1 (32 * w + j) = yv z (32 * 0 + j)) → uw s1 w = uw z 0 → Fr (pWo w) z s1 → ∃ s2, f270 n s1 = some (yv s 0 512 0, s2) ∧ Inv s2 := by
      intro w m2 z s1 w1 w2 w3 w4 zm fz z5 z9 zc wk x1 x2 x3 x4 x5
      have x6 : Fr (pIg w) z s1 := x5.mo fun f i q => pWo_f.mpr (by have := pIg_f.mp q; omega)
      have f1 := fz.tr x6
      obtain ⟨s2, k1, k2, k3, k4, k5⟩ := model s1 (fun f g1 g2 => by
        by_cases q : f = 1592 ∨ f = 1606 ∨ f = 1607 ∨ f = 1608 ∨ f = 1609
        · have hz : z f 0 = s f 0 := zm f (by omega) (by omega)
          rw [x5 _ _ (pWo_f.mpr (by omega)), hz]
        · exact f1 _ _ (pIg_f.mpr (by omega)))
      have c0 : cw z 0 = cw s 0 := fz.cw fun f g1 g2 => pIg_f.mpr (by omega)
      have y0 : ∀ j, j < 22 → yv z (32 * 0 + j) = yv s (32 * 0 + j) := fun j hj => fz.yv fun f g1 g2 => pIg_f.mpr (by omega)
      have u0 : uw z 0 = uw s 0 := uw_ext fun f k hr => by
        unfold ur at hr
        rw [fz _ _ (pIg_f.mpr (by omega))]
      have f2 : Fr (pIg w) s1 s2 := fun f i q => k5 f i (by have := pIg_f.mp q; omega)
      have s5 : s2 5 0 = z 5 0 := by rw [k5 _ _ (by omega), x5 _ _ (pWo_f.mpr (by omega))]
      have s9 : s2 9999 0 = z 9999 0 := by rw [k5 _ _ (by omega), x5 _ _ (pWo_f.mpr (by omega))]
      refine ⟨s2, k1, h.imaged (w := w) (m2 := m2) hn ⟨w1, w2, w3⟩ (f1.tr f2) (by rw [s9]; exact z9) (by rw [s5]; exact zc) (by omega) (by rw [s5, z5, if_pos rfl]) (fun k hk q => ⟨by rw [s5, z5, if_neg q], wk k hk q⟩) (by rw [k4, if_pos rfl]) (fun k hk q => by rw [k4, if_neg q]) ?_ (fun j hj => ?_) ?_ k2 k3⟩
      · rw [← c0, ← x2]
        refine nC_ext fun f k hr => ?_
        unfold cv
        unfold cr at hr
        rw [k5 _ _ (by omega)]
      · rw [← y0 j hj, ← x3 j hj]
        refine nY_ext fun f k hr => ?_
        unfold cv
        unfold yr at hr
        rw [k5 _ _ (by omega)]
      · rw [← u0, ← x4]
        refine uw_ext fun f k hr => ?_
        unfold ur at hr
        rw [k5 _ _ (by omega)]
    by_cases e0 : s 5 0 n = 0
    · have hq := cnt4 (p := fun k => !decide (s 5 0 k = 0)) (q := fun k => !decide (st2 (nw2 s) 5 0 n (m + 1) 5 0 k = 0)) hn (by rw [e0]; rfl) (by rw [st2_eq, decide_eq_false (by omega)]; rfl) (fun k hk q => by rw [st2_ne (by omega), nw2_o2 c1 (by omega)])
      have fz : Fr (pIg (m + 1)) s (st2 (nw2 s) 5 0 n (m + 1)) := fun f i q => by
        have q' := pIg_f.mp q
        funext k
        rw [st2_ne (by omega), nw2_o c1 (by omega) q]
      have hz0 : st2 (nw2 s) 5 0 n (m + 1) 384 0 0 = s 384 0 0 := by rw [fz _ _ (pIg_f.mpr (by omega))]
      obtain ⟨s1, x1, x2, x3, x4, x5⟩ := m153 (s := st2 (nw2 s) 5 0 n (m + 1)) (a := m + 1) (b := 0) (by omega) (by rw [hz0]; exact ht)
      obtain ⟨s2, k1, k2⟩ := fin (m + 1) (m + 1) _ s1 (by omega) (by omega) (by omega) (by omega) (fun f g1 g2 => by
        funext k
        rw [st2_ne (by omega), nw2_o2 c1 (by omega)]) fz (fun k => by
        by_cases q : k = n
        · rw [if_pos q, q, st2_eq]
          rfl
        · rw [if_neg q, st2_ne (by omega), nw2_o2 c1 (by omega)]) (by rw [st2_ne (by omega), nw2_p, c1]; rfl) (by rw [hq.1, ← c2]; rfl) (fun k hk q => by
        rcases c3 k hk with y | ⟨v, y1, y2, y3, -⟩
        · rw [y.1]; omega
        · rw [y3]; omega) x1 x2 x3 x4 x5
      refine ⟨yv s 0 512 0, s1, s2, ?_, k1, k2⟩
      have e5 : s1 512 0 0 = yv s 0 512 0 := by
        rw [x5 _ _ (pWo_f.mpr (by omega)), fz _ _ (pIg_f.mpr (by omega)), e512]
      unfold f152
      rw [if_neg (by omega), if_pos (by omega), ldw_z (by omega) (by rw [Int.toNat_natCast]; exact e0)]
      simp only [jn]
      unfold nww
      rw [c1, if_pos (by omega), show ((m : Int) + 1).toNat = m + 1 by omega]
      show sto (nw2 s) 5 0 4 n ((m : Int) + 1) _ = _
      rw [sto_t (by omega) (by omega), Int.toNat_natCast]
      show cP (f153 (m + 1) 0 (st2 (nw2 s) 5 0 n (m + 1))) _ = _
      rw [x1, cP_s, bnd, e5]
    · obtain ⟨w, y1, y2, y3, y4, y5⟩ : ∃ w : Nat, 1 ≤ w ∧ w ≤ m ∧ s 5 0 n = w ∧ s 1607 0 n = 1 ∧ IW R s w (im s n) := by
        rcases c3 n hn with y | y
        · exact absurd y.1 e0
        · exact y
      obtain ⟨s1, x1, x2, x3, x4, x5⟩ := m153 (s := s) (a := w) (b := 0) (by omega) ht
      obtain ⟨s2, k1, k2⟩ := fin w m s s1 y1 y2 (by omega) (by omega) (fun f g1 g2 => rfl) Fr.rf (fun k => by
        by_cases q : k = n
        · rw [if_pos q, q, y3]
        · rw [if_neg q]) c1 c2 (fun k hk q z => q (by
          have := c4 n k hn hk e0 (by rw [y3, z])
          exact this.symm)) x1 x2 x3 x4 x5
      refine ⟨yv s 0 512 0, s1, s2, ?_, k1, k2⟩
      have e5 : s1 512 0 0 = yv s 0 512 0 := by
        rw [x5 _ _ (pWo_f.mpr (by omega)), e512]
      unfold f152
      rw [if_neg (by omega), if_pos (by omega), ldw_n (by omega) (by rw [Int.toNat_natCast]; exact y3) (by omega)]
      simp only [jn]
      rw [x1, cP_s, bnd, e5]
  · refine ⟨-1, s, s, ?_, ?_, h⟩
    · unfold f152
      by_cases q : a < 0
      · rw [if_pos q]
      · rw [if_neg q, if_neg (by omega)]
    · unfold f270
      rw [ja, m173f (by omega), cP_s, if_neg (by decide)]
theorem call_back {s : S2} {a : Int} (h : Inv s) (ia : i32 a) : ∃ r s1 s2, f154 a s = some (r, s1) ∧ f271 a s1 = some (r, s2) ∧ Inv s2 := by
  have ja : ji2l a = a := by unfold i32 at ia; exact ji2l_e (by omega) (by omega)
  by_cases ha : 0 ≤ a ∧ a < 4
  · obtain ⟨R, K, hB, -, -, hIM, -, h9⟩ := id h
    obtain ⟨m, c1, c2, c3, c4⟩ := hIM
    obtain ⟨n, rfl⟩ := Int.eq_ofNat_of_zero_le ha.1
    have hn : n < 4 := by omega
    have hcb := cntB_bd (p := fun k => !decide (s 5 0 k = 0)) (n := 4)
    rcases c3 n hn with ⟨y1, y2⟩ | ⟨w, y1, y2, y3, y4, y5⟩
    · refine ⟨-1, s, s, ?_, ?_, h⟩
      · unfold f154
        simp only [jn]
        rw [if_neg (by omega), if_neg (by omega), ldw_z (by omega) (by rw [Int.toNat_natCast]; exact y1)]
      · unfold f271
        rw [ja, m173t (by omega), cP_s, if_neg ne10, ld_t (by omega) (by omega), Int.toNat_natCast, y2, if_neg (by decide)]
    · have hCw := y5.1.1
      have ht : s 384 w 0 = 0 ∨ s 384 w 0 = 1 := by
        have := hCw.2.2.2.2.2.2.2.1
        rw [cw0 (by omega) (by omega)] at this
        exact this
      obtain ⟨s1, x1, x2, x3, x4, x5⟩ := m153 (s := s) (a := 0) (b := w) (by omega) ht
      obtain ⟨s2, k1, k2, k3⟩ := m234r (s := s1) hn
      have e6 : s1 1606 0 = s 1606 0 := x5 _ _ (pWo_f.mpr (by omega))
      have eim : im s1 n = im s n := nJ_ext fun f i hr => by rw [e6]
      rw [eim] at k2
      have hWI : IW R s2 0 (live s2) := by
        rw [k2]
        refine y5.cp ?_ (fun j hj => ?_) ?_
        · rw [← x2]
          refine nC_ext fun f k hr => ?_
          unfold cv
          unfold cr at hr
          rw [k3 _ _ (by omega)]
        · rw [← x3 j hj]
          refine nY_ext fun f k hr => ?_
          unfold cv
          unfold yr at hr
          rw [k3 _ _ (by omega)]
        · rw [← x4]
          refine uw_ext fun f k hr => ?_
          unfold ur at hr
          rw [k3 _ _ (by omega)]
      have e5 : s1 512 0 0 = yv s (32 * w) 512 0 := by
        have := x3 0 (by omega)
        rw [show 32 * 0 + 0 = 0 from rfl, Nat.add_zero] at this
        rw [← this, yv512]
      have e7 : s2 1537 0 7 = yv s (32 * w) 512 0 := by
        have q : live s2 1537 7 = s2 1537 0 7 := live_t (by unfold jr; omega)
        rw [← q, k2]
        exact y5.1.2.2.2.2.1
      refine ⟨yv s (32 * w) 512 0, s1, s2, ?_, ?_, ?_⟩
      · unfold f154
        simp only [jn]
        rw [if_neg (by omega), if_neg (by omega), ldw_n (by omega) (by rw [Int.toNat_natCast]; exact y3) (by omega), x1, cP_s, bnd, e5]
      · unfold f271
        rw [ja, m173t (by omega), cP_s, if_neg ne10, ld_t (by omega) (by omega), Int.toNat_natCast, x5 _ _ (pWo_f.mpr (by omega)), y4, if_pos ne10, k1, cP_s, ld_t (by omega) (by omega), show s2 1537 0 (Int.toNat 7) = yv s (32 * w) 512 0 from e7]
      · refine h.act (fun f i q => ?_) (fun i hi => ?_) ?_ (fun R' K' hB' _ => ?_)
        · have q1 := pAct_f.mp q
          have q2 := pAk_f.mp q1.1
          rw [k3 _ _ (by omega), x5 _ _ (pWo_f.mpr (by omega))]
        · rw [k3 _ _ (by omega), e6]
        · rw [k3 _ _ (by omega), x5 _ _ (pWo_f.mpr (by omega))]; exact h9
        · have : R' = R := by have := hB.1; have := hB'.1; omega
          subst this
          exact hWI
  · refine ⟨-1, s, s, ?_, ?_, h⟩
    · unfold f154
      simp only [jn]
      by_cases q : a < 0
      · rw [if_pos q]
      · rw [if_neg q, if_pos (by omega)]
    · unfold f271
      rw [ja, m173f (by omega), cP_s, if_pos rfl]
