def KC (s s' : S2) : Prop := ∃ m p : Nat, m ≤ 20 ∧ p ≤ 20 ∧ s 1028 0 0 = m ∧ s 1027 0 0 = p ∧ s' 1027 0 0 = ((p % 20 + 1 : Nat) : Int) ∧ s' 1028 0 0 = ((min 20 (m + 1) : Nat) : Int) ∧ ∀ q, q < 20 → yv s' (2 + q) = if q = p % 20 then yv s 0 else yv s (2 + q)
theorem KC.fr {s s' s'' : S2} {P : Nat → Nat → Bool} (h : KC s s') (e : Fr P s' s'') (h1 : P 1027 0 = false) (h2 : P 1028 0 = false) (h3 : ∀ f i, 512 ≤ f → f ≤ 518 → 2 ≤ i → i ≤ 21 → P f i = false) : KC s s'' := by
  obtain ⟨m, p, a1, a2, a3, a4, a5, a6, a7⟩ := h
  refine ⟨m, p, a1, a2, a3, a4, by rw [e _ _ h1]; exact a5, by rw [e _ _ h2]; exact a6, fun q hq => ?_⟩
  rw [← a7 q hq]
  exact e.yv fun f g1 g2 => h3 f _ g1 g2 (by omega) (by omega)
theorem pv0 {s : S2} {j : Nat} (h : j < 20) : pv s 0 j = yv s (2 + j) := by
  rw [pv_t h]
theorem IWu.keep {C : V2} {s s2 : S2} (h : IWu C (pv s 0) (uw s 0) (live s)) (hY : YB C (yv s 0)) (h9 : yv s 0 512 0 ≤ 999) (hV : YR C (yv s 0) s) (kc : KC s s2) (km : KM s s2) : IWu C (pv s2 0) (uw s2 0) (live s2) := by
  obtain ⟨m, p, a1, a2, a3, a4, a5, a6⟩ := h
  obtain ⟨m', p', b1, b2, b3, b4, b5, b6, b7⟩ := kc
  obtain ⟨m'', c1, c2, c3, c4⟩ := km
  rw [uw1 (by omega)] at a3 a5
  rw [live_t (by unfold jr; omega)] at a4
  have em : m' = m := by omega
  have ep : p' = p := by omega
  have em2 : m'' = m := by omega
  subst em ep em2
  have hrow : ∀ j i, j < 20 → i < 36 → rowA (pJ' (live s2) j) i = s2 1591 0 (36 * j + i) := fun j i hj hi => by
    rw [rA_p hi, live_t (by unfold jr; omega)]
  have hrow0 : ∀ j i, j < 20 → i < 36 → rowA (pJ' (live s) j) i = s 1591 0 (36 * j + i) := fun j i hj hi => by
    rw [rA_p hi, live_t (by unfold jr; omega)]
  refine ⟨min 20 (m'' + 1), p' % 20 + 1, by omega, by omega, by rw [uw1 (by omega)]; exact b6, by rw [live_t (by unfold jr; omega)]; exact c3, by rw [uw1 (by omega)]; exact b5, fun j hj => ?_⟩
  have hlt : (p' % 20 + 1 + 20 - min 20 (m'' + 1) + j) % 20 < 20 := Nat.mod_lt _ (by omega)
  rw [pv0 hlt, b7 _ hlt]
  by_cases e : j + 1 = min 20 (m'' + 1)
  · rw [if_pos (show (p' % 20 + 1 + 20 - min 20 (m'' + 1) + j) % 20 = p' % 20 by omega)]
    refine ⟨hY, h9, hV.row fun i hi => ?_⟩
    rw [hrow j i (by omega) hi, c4 j hj i hi, if_pos e]
  · rw [if_neg (show ¬ (p' % 20 + 1 + 20 - min 20 (m'' + 1) + j) % 20 = p' % 20 by omega)]
    by_cases e2 : m'' = 20
    · have q1 : (p' % 20 + 1 + 20 - min 20 (m'' + 1) + j) % 20 = (p' + 20 - m'' + (j + 1)) % 20 := by omega
      obtain ⟨d1, d2, d3⟩ := a6 (j + 1) (by omega)
      rw [pv0 (Nat.mod_lt _ (by omega)), ← q1] at d1 d2 d3
      refine ⟨d1, d2, d3.row fun i hi => ?_⟩
      rw [hrow j i (by omega) hi, hrow0 (j + 1) i (by omega) hi, c4 j hj i hi, if_neg e, if_pos e2]
    · have q1 : (p' % 20 + 1 + 20 - min 20 (m'' + 1) + j) % 20 = (p' + 20 - m'' + j) % 20 := by omega
      obtain ⟨d1, d2, d3⟩ := a6 j (by omega)
      rw [pv0 (Nat.mod_lt _ (by omega)), ← q1] at d1 d2 d3
      refine ⟨d1, d2, d3.row fun i hi => ?_⟩
      rw [hrow j i (by omega) hi, hrow0 j i (by omega) hi, c4 j hj i hi, if_neg e, if_neg e2]
/-- what an act on the yard may leave behind -/
def pTu (f i : Nat) : Bool := Nat.beq f 770 || Nat.beq f 771 || (Nat.ble 1153 f && Nat.ble f 1161) || (Nat.ble 1280 f && Nat.ble f 1291) || (Nat.ble 1408 f && Nat.ble f 1410) || Nat.beq f 3000 || (Nat.ble 512 f && Nat.ble f 518 && (Nat.beq i 0 || (Nat.ble 2 i && Nat.ble i 21) || Nat.ble 160 i)) || ((Nat.beq f 1027 || Nat.beq f 1028) && Nat.beq i 0) || Nat.beq f 1537 || Nat.beq f 1538 || Nat.beq f 1539 || Nat.beq f 1544 || Nat.beq f 1547 || Nat.beq f 1548 || (Nat.ble 1587 f && Nat.ble f 1605) || Nat.beq f 1608 || Nat.beq f 1609
theorem pTu_f {f i : Nat} : pTu f i = false ↔ ¬ (f = 770 ∨ f = 771 ∨ (1153 ≤ f ∧ f ≤ 1161) ∨ (1280 ≤ f ∧ f ≤ 1291) ∨ (1408 ≤ f ∧ f ≤ 1410) ∨ f = 3000 ∨ (512 ≤ f ∧ f ≤ 518 ∧ (i = 0 ∨ (2 ≤ i ∧ i ≤ 21) ∨ 160 ≤ i)) ∨ ((f = 1027 ∨ f = 1028) ∧ i = 0) ∨ f = 1537 ∨ f = 1538 ∨ f = 1539 ∨ f = 1544 ∨ f = 1547 ∨ f = 1548 ∨ (1587 ≤ f ∧ f ≤ 1605) ∨ f = 1608 ∨ f = 1609) := by
  rw [← Bool.not_eq_true]
  unfold pTu
  simp only [Bool.or_eq_true, Bool.and_eq_true, Nat.beq_eq, Nat.ble_eq, or_assoc, and_assoc]
theorem pTu_k {f i : Nat} (h : pAct f i = false) : pTu f i = false := by
  have h := pAct_f.mp h
  have h1 := pAk_f.mp h.1
  exact pTu_f.mpr (by omega)
theorem Inv.acted {s s2 : S2} (h : Inv s) (e : Fr pTu s s2) (hd : s2 1589 0 0 = 0) (kc : KC s s2) (km : KM s s2) (hY : YB (cw s 0) (yv s2 0)) (h9 : yv s2 0 512 0 ≤ 999) (hR : CR (cw s 0) s2) (hV : YR (cw s 0) (yv s2 0) s2) (h37 : ∀ k, 8 ≤ k → k ≤ 10 → s2 1537 0 k = s 1537 0 k) : Inv s2 := by
  refine h.act (e.mo fun f i w => pTu_k w) (fun i hi => by rw [e _ _ (pTu_f.mpr (by omega))]) hd (fun R K hB hW => ?_)
  obtain ⟨⟨b1, b2, b3, b4, b5⟩, c1, c2, c3, c4⟩ := id hW
  refine hW.of (e.cw fun f g1 g2 => pTu_f.mpr (by omega)) (e.yv fun f g1 g2 => pTu_f.mpr (by omega)) ⟨e _ _ (pTu_f.mpr (by omega)), e _ _ (pTu_f.mpr (by omega))⟩ ⟨hY, h9, hR, hV⟩ (c2.keep b2 b3 (YR_live.mp b5) kc km) ?_ ?_
  · exact c3.e (fun f g1 g2 => uw_row (e _ _ (pTu_f.mpr (by omega)))) (fun f g1 g2 => live_row (e _ _ (pTu_f.mpr (by omega)))) (by rw [live_t (by unfold jr; omega), live_t (by unfold jr; omega)]; exact h37 8 (by omega) (by omega))
  · exact c4.e (uw_row (e _ _ (pTu_f.mpr (by omega)))) (uw_row (e _ _ (pTu_f.mpr (by omega)))) (by rw [live_t (by unfold jr; omega), live_t (by unfold jr; omega)]; exact h37 9 (by omega) (by omega)) (by rw [live_t (by unfold jr; omega), live_t (by unfold jr; omega)]; exact h37 10 (by omega) (by omega))
