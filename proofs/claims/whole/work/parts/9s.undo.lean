theorem RBs_o {s0 : S2} {m f i k : Nat} (h : cellN f k = 36) (h2 : f ≠ 1594) (h3 : f ≠ 1595) : RBs s0 m 36 f i k = s0 f i k := by
  unfold RBs
  rw [if_neg (by omega), if_neg (by omega), if_neg (by omega)]
theorem cellN_7 {k : Nat} (h : k ≠ 6) (h2 : k ≠ 7) : cellN 1537 k = 36 := by
  unfold cellN
  rw [if_pos rfl, if_neg h, if_neg h2]
theorem rowJ {s : S2} {j i : Nat} (hj : j < 20) (hi : i < 36) : rowA (pJ' (live s) j) i = s 1591 0 (36 * j + i) := by
  rw [rA_p hi, live_t (by unfold jr; omega)]
theorem call_undo {s : S2} (h : Inv s) : ∃ r s1 s2, f104 s = some (r, s1) ∧ f215 s1 = some (r, s2) ∧ Inv s2 := by
  obtain ⟨m, p, b1, b2, b3, b4, b5⟩ := h.pasts
  by_cases m0 : m = 0
  · subst m0
    refine ⟨-2, s, s, ?_, ?_, h⟩
    · unfold f104 f105
      rw [b3, bnd, if_neg (by decide), cR_s, if_pos rfl]
    · unfold f215
      rw [b5, bnd, if_neg (by decide)]
  · obtain ⟨s1, a1, a2, a3, a4, a5⟩ := m105 b4 b3 b2 b1 (by omega)
    have z5 : s1 1593 0 0 = m := by rw [a5 _ _ (pRz_f.mpr (by omega))]; exact b5
    have ej : jsub (m : Int) 1 = ((m - 1 : Nat) : Int) := by rw [jsub_e (by omega) (by omega)]; omega
    generalize hz : st2 s1 1593 0 0 ((m - 1 : Nat) : Int) = z
    have z1 : z 1593 0 0 = ((m - 1 : Nat) : Int) := by rw [← hz, st2_eq]
    have zf : ∀ f i, (f ≠ 1593) → z f i = s1 f i := fun f i g => by
      rw [← hz]
      funext k
      exact st2_ne (by omega)
    have k1 : f104 s = some (((m - 1 : Nat) : Int), s1) := by
      unfold f104
      rw [a1, cR_s, if_neg ne10, bnd, a3]
    have k2 : f215 s1 = some (((m - 1 : Nat) : Int), RBs z (m - 1) 36) := by
      unfold f215
      simp only [bnd]
      rw [z5, if_pos (by omega), ej, hz, z1, m216b (by omega), cP_s, RBs_o (cellN_o (by omega)) (by omega) (by omega), z1]
    refine ⟨_, _, _, k1, k2, ?_⟩
    have r1591 : ∀ k, RBs z (m - 1) 36 1591 0 k = s 1591 0 k := fun k => by
      rw [RBs_c (by omega), zf _ _ (by omega), a5 _ _ (pRz_f.mpr (by omega))]
    have ro : ∀ f i, ¬ (f = 1537 ∨ f = 1538 ∨ f = 1539 ∨ f = 1544 ∨ f = 1547 ∨ f = 1548 ∨ f = 1593 ∨ f = 1594 ∨ f = 1595) → RBs z (m - 1) 36 f i = s1 f i := fun f i g => by
      funext k
      rw [RBs_o (cellN_o (by omega)) (by omega) (by omega), zf _ _ (by omega)]
    have r37 : ∀ k, k ≠ 6 → k ≠ 7 → RBs z (m - 1) 36 1537 0 k = s 1537 0 k := fun k g1 g2 => by
      rw [RBs_o (cellN_7 g1 g2) (by omega) (by omega), zf _ _ (by omega), a5 _ _ (pRz_f.mpr (by omega))]
    have rr : ∀ i, i < 36 → rowA (RBs z (m - 1) 36) i = s 1591 0 (36 * (m - 1) + i) := fun i hi => by
      rw [rowB hi, zf _ _ (by omega), a5 _ _ (pRz_f.mpr (by omega))]
    have r93 : RBs z (m - 1) 36 1593 0 0 = ((m - 1 : Nat) : Int) := by rw [RBs_o (cellN_o (by omega)) (by omega) (by omega), z1]
    generalize RBs z (m - 1) 36 = s2 at r1591 ro r37 rr r93
    have e : Fr pAct s s2 := fun f i w => by
      have w1 := pAct_f.mp w
      have w2 := pAk_f.mp w1.1
      rw [ro f i (by omega), a5 f i (pRz_f.mpr (by omega))]
    have h9 : s 1589 0 0 = 0 := by obtain ⟨_, _, _, _, _, _, _, q⟩ := h; exact q
    refine h.act e (fun i hi => by rw [ro _ _ (by omega), a5 _ _ (pRz_f.mpr (by omega))]) (by rw [ro _ _ (by omega), a5 _ _ (pRz_f.mpr (by omega))]; exact h9) (fun R K hB hW => ?_)
    obtain ⟨⟨c1, c2, c3, c4, c5⟩, d1, d2, d3, d4⟩ := id hW
    have y0 : yv s2 0 = yv s1 0 := by
      refine nY_ext fun f k hr => ?_
      unfold yr at hr
      show s2 f 0 k = s1 f 0 k
      rw [ro _ _ (by omega)]
    have y2 : ∀ q, 1 ≤ q → q < 22 → yv s2 q = yv s q := fun q w1 w2 => by
      refine nY_ext fun f k hr => ?_
      unfold yr at hr
      show s2 f q k = s f q k
      rw [ro _ _ (by omega), a5 _ _ (pRz_f.mpr (by omega))]
    have hc : cw s2 0 = cw s 0 := by
      refine nC_ext fun f k hr => ?_
      unfold cr at hr
      show s2 f 0 k = s f 0 k
      rw [ro _ _ (by omega), a5 _ _ (pRz_f.mpr (by omega))]
    have hl : ∀ f, 1549 ≤ f → f ≤ 1556 → s2 f 0 = s f 0 := fun f w1 w2 => by rw [ro _ _ (by omega), a5 _ _ (pRz_f.mpr (by omega))]
    have hu : ∀ f, 1029 ≤ f → f ≤ 1034 → s2 f 0 = s f 0 := fun f w1 w2 => by rw [ro _ _ (by omega), a5 _ _ (pRz_f.mpr (by omega))]
    have d3' : IWl (cw s 0) (uw s2 0) (live s2) := d3.e (fun f w1 w2 => uw_row (hu f w1 (by omega))) (fun f w1 w2 => live_row (hl f (by omega) (by omega))) (by rw [live_t (by unfold jr; omega), live_t (by unfold jr; omega)]; exact r37 8 (by omega) (by omega))
    have d4' : IWf R (uw s2 0) (live s2) := d4.e (uw_row (hu _ (by omega) (by omega))) (uw_row (hu _ (by omega) (by omega))) (by rw [live_t (by unfold jr; omega), live_t (by unfold jr; omega)]; exact r37 9 (by omega) (by omega)) (by rw [live_t (by unfold jr; omega), live_t (by unfold jr; omega)]; exact r37 10 (by omega) (by omega))
    obtain ⟨m', p', g1, g2, g3, g4, g5, g6⟩ := d2
    rw [uw1 (by omega)] at g3 g5
    rw [live_t (by unfold jr; omega)] at g4
    have em : m' = m := by omega
    have ep : p' = p := by omega
    subst em ep
    have u28 : uw s2 0 1028 0 = ((m' - 1 : Nat) : Int) := by rw [uw1 (by omega), ro _ _ (by omega), a3]
    have u93 : live s2 1593 0 = ((m' - 1 : Nat) : Int) := by rw [live_t (by unfold jr; omega), r93]
    have u27 : uw s2 0 1027 0 = (((p' + 19) % 20 : Nat) : Int) := by rw [uw1 (by omega), ro _ _ (by omega), a2]
    have hCR : CR (cw s 0) s2 := (CR_live.mp c4).exu (fun k hk => r37 k (by omega) (by omega)) (fun f w1 w2 w3 w4 => by rw [ro _ _ (by omega), a5 _ _ (pRz_f.mpr (by omega))])
    have y1 := y2 1 (by omega) (by omega)
    have hj := And.intro (hl 1554 (by omega) (by omega)) (hl 1556 (by omega) (by omega))
    have hrows : ∀ j, j < 20 → ∀ i, i < 36 → rowA (pJ' (live s2) j) i = rowA (pJ' (live s) j) i := fun j hj i hi => by rw [rowJ hj hi, rowJ hj hi, r1591]
    have hlastr : ∀ i, i < 36 → rowA s2 i = rowA (pJ' (live s) (m' - 1)) i := fun i hi => by rw [rowJ (by omega) hi, rr i hi]
    clear e r1591 ro r37 rr r93 z1 zf hz k1 k2 ej hl hu d3 d4 d1 a5 h9 g3 g4 g5 c1 c2 c3 c4 c5
    have hlast := g6 (m' - 1) (by omega)
    have hix : (p' + 20 - m' + (m' - 1)) % 20 = (p' + 19) % 20 := by omega
    rw [hix, pv0 (Nat.mod_lt _ (by omega)), ← a4, ← y0] at hlast
    obtain ⟨n1, n2, n3⟩ := hlast
    refine hW.of hc y1 hj ⟨n1, n2, hCR, n3.row hlastr⟩ ⟨m' - 1, (p' + 19) % 20, by omega, by omega, u28, u93, u27, fun j hj => ?_⟩ d3' d4'
    have q := g6 j (by omega)
    have ix : (p' + 20 - m' + j) % 20 = ((p' + 19) % 20 + 20 - (m' - 1) + j) % 20 := by omega
    have hlt : ((p' + 19) % 20 + 20 - (m' - 1) + j) % 20 < 20 := Nat.mod_lt _ (by omega)
    have hj20 : j < 20 := by omega
    generalize ((p' + 19) % 20 + 20 - (m' - 1) + j) % 20 = x at ix hlt
    rw [ix, pv0 hlt, ← y2 _ (by omega) (by omega)] at q
    rw [pv0 hlt]
    obtain ⟨q1, q2, q3⟩ := q
    exact ⟨q1, q2, q3.row fun i hi => hrows j hj20 i hi⟩
