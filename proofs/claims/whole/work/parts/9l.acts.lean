/-! CALLS THAT CHANGE: what they may leave behind -/
def pAct (f i : Nat) : Bool := pAk f i || (Nat.ble 512 f && Nat.ble f 518 && (Nat.ble i 31 || Nat.ble 160 i)) || (Nat.ble 384 f && Nat.ble f 399 && Nat.beq i 0) || (Nat.ble 1027 f && Nat.ble f 1034 && Nat.beq i 0) || (Nat.ble 1537 f && Nat.ble f 1556) || (Nat.ble 1591 f && Nat.ble f 1595)
theorem pAct_f {f i : Nat} : pAct f i = false ↔ pAk f i = false ∧ ¬ (512 ≤ f ∧ f ≤ 518 ∧ (i ≤ 31 ∨ 160 ≤ i)) ∧ ¬ (384 ≤ f ∧ f ≤ 399 ∧ i = 0) ∧ ¬ (1027 ≤ f ∧ f ≤ 1034 ∧ i = 0) ∧ ¬ (1537 ≤ f ∧ f ≤ 1556) ∧ ¬ (1591 ≤ f ∧ f ≤ 1595) := by
  unfold pAct
  rw [← Bool.not_eq_true]
  simp only [Bool.or_eq_true, Bool.and_eq_true, Nat.beq_eq, Nat.ble_eq, not_or, Bool.not_eq_true, and_assoc]
theorem pAct_t {f i : Nat} (h1 : ¬ (f = 770 ∨ f = 771 ∨ (1153 ≤ f ∧ f ≤ 1161) ∨ (1280 ≤ f ∧ f ≤ 1291) ∨ (1408 ≤ f ∧ f ≤ 1410) ∨ f = 3000 ∨ (1537 ≤ f ∧ f ≤ 1556) ∨ (1587 ≤ f ∧ f ≤ 1606) ∨ f = 1608 ∨ f = 1609)) (h2 : ¬ (512 ≤ f ∧ f ≤ 518 ∧ (i ≤ 31 ∨ 160 ≤ i))) (h3 : ¬ (384 ≤ f ∧ f ≤ 399 ∧ i = 0)) (h4 : ¬ (1027 ≤ f ∧ f ≤ 1034 ∧ i = 0)) : pAct f i = false := pAct_f.mpr ⟨pAk_f.mpr (by omega), h2, h3, h4, by omega, by omega⟩
theorem Inv.act {s s2 : S2} (h : Inv s) (e : Fr pAct s s2) (h6 : ∀ i, i < 4400 → s2 1606 0 i = s 1606 0 i) (hd : s2 1589 0 0 = 0) (hW : ∀ R K, BK s R K → IW R s 0 (live s) → IW R s2 0 (live s2)) : Inv s2 := by
  obtain ⟨R, K, a1, a2, a3, a4, a5, a6⟩ := h
  have q : ∀ f i, (f ≤ 383 ∨ (768 ≤ f ∧ f ≤ 769) ∨ f = 898 ∨ f = 9999 ∨ (1560 ≤ f ∧ f ≤ 1586) ∨ f = 1607) → pAct f i = false := fun f i w => pAct_t (by omega) (by omega) (by omega) (by omega)
  have w1 : ∀ w, 1 ≤ w → w ≤ 4 → WE s s2 w := fun w g1 g2 => e.we (fun f k1 k2 => pAct_t (by omega) (by omega) (by omega) (by omega)) (fun f j k1 k2 k3 => pAct_t (by omega) (by omega) (by omega) (by omega)) (fun f k1 k2 => pAct_t (by omega) (by omega) (by omega) (by omega))
  exact ⟨R, K, a1.fr e (q _ _ (by omega)) (q _ _ (by omega)) (fun r hr => ⟨q _ _ (by omega), q _ _ (by omega)⟩) (fun f g1 g2 => q _ _ (by omega)), a2.fr e (q _ _ (by omega)) (q _ _ (by omega)) (q _ _ (by omega)) (q _ _ (by omega)), hW R K a1 a3, a4.fr (e _ _ (q _ _ (by omega))) (e _ _ (q _ _ (by omega))) (e _ _ (q _ _ (by omega))) h6 w1, a5.fr e (q _ _ (by omega)) (fun f g1 g2 => pAct_t (by omega) (by omega) (by omega) (by omega)), hd⟩
theorem live_row {s s2 : S2} {f : Nat} (h : s2 f 0 = s f 0) : live s2 f = live s f := by
  funext k
  unfold live nJ
  simp only [h]
theorem uw_row {s s2 : S2} {f w : Nat} (h : s2 f w = s f w) : uw s2 w f = uw s w f := by
  funext k
  unfold uw
  rw [h]
theorem pJ_e {J J' : V2} {j : Nat} (h : J' 1591 = J 1591) : pJ' J' j = pJ' J j := by
  unfold pJ'
  rw [h]
theorem IWu.e {C : V2} {P P' : Nat → V2} {U U' J J' : V2} (h : IWu C P U J) (hP : P' = P) (h1 : U' 1027 = U 1027) (h2 : U' 1028 = U 1028) (h3 : J' 1591 = J 1591) (h4 : J' 1593 = J 1593) : IWu C P' U' J' := by
  obtain ⟨m, p, a1, a2, a3, a4, a5, a6⟩ := h
  refine ⟨m, p, a1, a2, by rw [h2]; exact a3, by rw [h4]; exact a4, by rw [h1]; exact a5, fun j hj => ?_⟩
  rw [hP]
  obtain ⟨b1, b2, b3⟩ := a6 j hj
  exact ⟨b1, b2, by rw [pJ_e h3]; exact b3⟩
theorem IWl.e {C U U' J J' : V2} (h : IWl C U J) (h1 : ∀ f, 1029 ≤ f → f ≤ 1032 → U' f = U f) (h2 : ∀ f, 1551 ≤ f → f ≤ 1553 → J' f = J f) (h3 : J' 1537 8 = J 1537 8) : IWl C U' J' := by
  unfold IWl
  rw [h1 _ (by omega) (by omega), h1 1029 (by omega) (by omega), h1 1030 (by omega) (by omega), h1 1031 (by omega) (by omega), h2 1551 (by omega) (by omega), h2 1552 (by omega) (by omega), h2 1553 (by omega) (by omega), h3]
  exact h
theorem IWf.e {R : Nat} {U U' J J' : V2} (h : IWf R U J) (h1 : U' 1033 = U 1033) (h2 : U' 1034 = U 1034) (h3 : J' 1537 9 = J 1537 9) (h4 : J' 1537 10 = J 1537 10) : IWf R U' J' := by
  unfold IWf
  rw [h1, h2, h3, h4]
  exact h
theorem IWb.e {C B B' J J' : V2} (h : IWb C B J) (hB : B' = B) (h1 : J' 1554 = J 1554) (h2 : J' 1556 = J 1556) : IWb C B' J' := by
  unfold IWb
  rw [hB, h1, h2]
  exact h
theorem IW.of {R : Nat} {s s2 : S2} (hW : IW R s 0 (live s)) (hc : cw s2 0 = cw s 0) (hb : yv s2 1 = yv s 1) (hj : s2 1554 0 = s 1554 0 ∧ s2 1556 0 = s 1556 0) (h1 : YB (cw s 0) (yv s2 0) ∧ yv s2 0 512 0 ≤ 999 ∧ CR (cw s 0) s2 ∧ YR (cw s 0) (yv s2 0) s2) (h2 : IWu (cw s 0) (pv s2 0) (uw s2 0) (live s2)) (h3 : IWl (cw s 0) (uw s2 0) (live s2)) (h4 : IWf R (uw s2 0) (live s2)) : IW R s2 0 (live s2) := by
  obtain ⟨⟨b1, b2, b3, b4, b5⟩, c1, -, -, -⟩ := hW
  unfold IW
  rw [hc]
  refine ⟨⟨b1, h1.1, h1.2.1, CR_live.mpr h1.2.2.1, YR_live.mpr h1.2.2.2⟩, ?_, h2, h3, h4⟩
  exact c1.e hb (live_row hj.1) (live_row hj.2)
theorem CR.exu {C : V2} {t t' : S2} (h : CR C t) (h1 : ∀ k, k < 6 → t' 1537 0 k = t 1537 0 k) (h2 : ∀ f, (1540 ≤ f ∧ f ≤ 1550 ∨ f = 1555) → f ≠ 1544 → f ≠ 1547 → f ≠ 1548 → t' f 0 = t f 0) : CR C t' := by
  unfold CR at h ⊢
  rw [h1 0 (by omega), h1 1 (by omega), h1 2 (by omega), h1 3 (by omega), h1 4 (by omega), h1 5 (by omega), h2 1540 (by omega) (by omega) (by omega) (by omega), h2 1541 (by omega) (by omega) (by omega) (by omega), h2 1542 (by omega) (by omega) (by omega) (by omega), h2 1543 (by omega) (by omega) (by omega) (by omega), h2 1545 (by omega) (by omega) (by omega) (by omega), h2 1546 (by omega) (by omega) (by omega) (by omega), h2 1549 (by omega) (by omega) (by omega) (by omega), h2 1550 (by omega) (by omega) (by omega) (by omega), h2 1555 (by omega) (by omega) (by omega) (by omega)]
  exact h
/-- an act that leaves courts, yards and pasts -/
theorem IW.off {R : Nat} {s s2 : S2} (hW : IW R s 0 (live s)) {P : Nat → Nat → Bool} (e : Fr P s s2) (h1 : ∀ f, 384 ≤ f → f ≤ 399 → P f 0 = false) (h2 : ∀ f i, 512 ≤ f → f ≤ 518 → i < 22 → P f i = false) (h3 : P 1027 0 = false ∧ P 1028 0 = false) (h4 : ∀ k, k < 8 → s2 1537 0 k = s 1537 0 k) (h5 : ∀ f, 1538 ≤ f → f ≤ 1550 → P f 0 = false) (h6 : ∀ f, 1554 ≤ f → f ≤ 1556 → P f 0 = false) (h7 : P 1591 0 = false ∧ P 1593 0 = false) (hl : IWl (cw s 0) (uw s2 0) (live s2)) (hf : IWf R (uw s2 0) (live s2)) : IW R s2 0 (live s2) := by
  have hY : ∀ i, i < 22 → yv s2 i = yv s i := fun i hi => e.yv fun f g1 g2 => h2 f i g1 g2 hi
  refine hW.of (e.cw h1) (hY 1 (by omega)) ⟨e _ _ (h6 _ (by omega) (by omega)), e _ _ (h6 _ (by omega) (by omega))⟩ ?_ ?_ hl hf
  · obtain ⟨⟨b1, b2, b3, b4, b5⟩, -⟩ := hW
    rw [hY 0 (by omega)]
    refine ⟨b2, b3, (CR_live.mp b4).exu (fun k hk => h4 k (by omega)) (fun f g1 g2 g3 g4 => ?_), (YR_live.mp b5).ext (h4 6 (by omega)) (h4 7 (by omega)) (fun f w => e _ _ (h5 f (by omega) (by omega)))⟩
    by_cases q : f ≤ 1550
    · exact e _ _ (h5 f (by omega) q)
    · exact e _ _ (h6 f (by omega) (by omega))
  · exact hW.2.2.1.e (pv_ext fun j hj => hY _ (by omega)) (uw_row (e _ _ h3.1)) (uw_row (e _ _ h3.2)) (live_row (e _ _ h7.1)) (live_row (e _ _ h7.2))
theorem call_seed {s : S2} {a : Int} (h : Inv s) (ia : i32 a) : ∃ r s1 s2, f147 a s = some (r, s1) ∧ f264 a s1 = some (r, s2) ∧ Inv s2 := by
  by_cases ha : 0 ≤ a
  · refine ⟨s 1034 0 0, st2 s 1034 0 0 a, st2 (st2 s 1034 0 0 a) 1537 0 9 a, ?_, ?_, ?_⟩
    · unfold f147
      rw [if_pos ha, bnd, bnd]
    · unfold f264
      obtain ⟨R, K, hB, hW, hR⟩ := h.rel
      obtain ⟨-, -, -, q4, -, -⟩ := hW.2.2.2.2
      rw [uw1 (by omega), live_t (by unfold jr; omega)] at q4
      rw [if_pos ha, ld_t (by omega) (by omega), sto_t (by omega) (by omega)]
      show some (st2 s 1034 0 0 a 1537 0 9, _) = some (s 1034 0 0, _)
      rw [st2_ne (by omega), q4]
      rfl
    · have e : Fr (fun f i => (Nat.beq f 1034 || Nat.beq f 1537) && Nat.beq i 0) s (st2 (st2 s 1034 0 0 a) 1537 0 9 a) := (Fr.rf.st rfl).st rfl
      have pf : ∀ f i, f ≠ 1034 → f ≠ 1537 → ((Nat.beq f 1034 || Nat.beq f 1537) && Nat.beq i 0) = false := fun f i g1 g2 => by
        rw [← Bool.not_eq_true]
        simp only [Bool.and_eq_true, Bool.or_eq_true, Nat.beq_eq]
        omega
      have hp : ∀ f i, pAct f i = false → ((Nat.beq f 1034 || Nat.beq f 1537) && Nat.beq i 0) = false := fun f i w => by
        have w := pAct_f.mp w
        rw [← Bool.not_eq_true]
        simp only [Bool.and_eq_true, Bool.or_eq_true, Nat.beq_eq]
        omega
      have h9 : s 1589 0 0 = 0 := by obtain ⟨_, _, _, _, _, _, _, q⟩ := h; exact q
      refine h.act (e.mo hp) (fun i hi => by rw [e _ _ (pf _ _ (by omega) (by omega))]) (by rw [e _ _ (pf _ _ (by omega) (by omega))]; exact h9) (fun R K hB hW => ?_)
      refine hW.off e (fun f g1 g2 => pf _ _ (by omega) (by omega)) (fun f i g1 g2 _ => pf _ _ (by omega) (by omega)) ⟨pf _ _ (by omega) (by omega), pf _ _ (by omega) (by omega)⟩ (fun k hk => by rw [st2_ne (by omega), st2_ne (by omega)]) (fun f g1 g2 => pf _ _ (by omega) (by omega)) (fun f g1 g2 => pf _ _ (by omega) (by omega)) ⟨pf _ _ (by omega) (by omega), pf _ _ (by omega) (by omega)⟩ ?_ ?_
      · exact hW.2.2.2.1.e (fun f g1 g2 => uw_row (e _ _ (pf _ _ (by omega) (by omega)))) (fun f g1 g2 => live_row (e _ _ (pf _ _ (by omega) (by omega)))) (by rw [live_t (by unfold jr; omega), live_t (by unfold jr; omega), st2_ne (by omega), st2_ne (by omega)])
      · obtain ⟨q1, q2, q3, q4, q5, q6⟩ := hW.2.2.2.2
        unfold i32 at ia
        unfold IWf
        rw [uw1 (by omega), live_t (by unfold jr; omega)] at q1
        rw [uw1 (by omega)] at q2 q3
        rw [uw1 (by omega), uw1 (by omega), live_t (by unfold jr; omega), live_t (by unfold jr; omega), st2_ne (f' := 1033) (by omega), st2_ne (f' := 1033) (by omega), st2_ne (f' := 1034) (by omega), st2_eq, st2_eq, st2_ne (by omega), st2_ne (by omega)]
        exact ⟨q1, q2, q3, rfl, ha, by omega⟩
  · refine ⟨-1, s, s, ?_, ?_, h⟩
    · unfold f147
      rw [if_neg ha]
    · unfold f264
      rw [if_neg ha]
