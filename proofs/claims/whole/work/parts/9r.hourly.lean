def pKa (f i : Nat) : Bool := Nat.beq f 770 || Nat.beq f 771 || (Nat.ble 1153 f && Nat.ble f 1161) || (Nat.ble 512 f && Nat.ble f 518 && (Nat.beq i 0 || Nat.ble 160 i))
theorem pKa_f {f i : Nat} : pKa f i = false ↔ ¬ (f = 770 ∨ f = 771 ∨ (1153 ≤ f ∧ f ≤ 1161) ∨ (512 ≤ f ∧ f ≤ 518 ∧ (i = 0 ∨ 160 ≤ i))) := by
  rw [← Bool.not_eq_true]
  unfold pKa
  simp only [Bool.or_eq_true, Bool.and_eq_true, Nat.beq_eq, Nat.ble_eq, or_assoc, and_assoc]
def pKb (f i : Nat) : Bool := Nat.beq f 1537 || Nat.beq f 1538 || Nat.beq f 1539 || Nat.beq f 1544 || Nat.beq f 1547 || Nat.beq f 1548 || (Nat.ble 1587 f && Nat.ble f 1590)
theorem pKb_f {f i : Nat} : pKb f i = false ↔ ¬ (f = 1537 ∨ f = 1538 ∨ f = 1539 ∨ f = 1544 ∨ f = 1547 ∨ f = 1548 ∨ (1587 ≤ f ∧ f ≤ 1590)) := by
  rw [← Bool.not_eq_true]
  unfold pKb
  simp only [Bool.or_eq_true, Bool.and_eq_true, Nat.beq_eq, Nat.ble_eq, or_assoc, and_assoc]
theorem Inv.acted4 {s sa s1 sd s2 : S2} {Y : V2} {code : List Int} (h : Inv s) (kc : KC s sa) (e1 : Fr pRg s sa) (e2 : Fr pKa sa s1) (km : KM s1 sd) (e3 : Fr pRm s1 sd) (e4 : Fr pKb sd s2) (hy : yv s1 0 = Y) (hY : YB (cw s 0) Y) (h9 : Y 512 0 ≤ 999) (hM : MS (cw s 0) Y code 0 s2) (h37 : ∀ k, 8 ≤ k → k ≤ 10 → s2 1537 0 k = sd 1537 0 k) : Inv s2 := by
  have m1 : Fr pTu s sa := e1.mo fun f i w => pRg_f.mpr (by have := pTu_f.mp w; omega)
  have m2 : Fr pTu sa s1 := e2.mo fun f i w => pKa_f.mpr (by have := pTu_f.mp w; omega)
  have m3 : Fr pTu s1 sd := e3.mo fun f i w => pRm_f.mpr (by have := pTu_f.mp w; omega)
  have m4 : Fr pTu sd s2 := e4.mo fun f i w => pKb_f.mpr (by have := pTu_f.mp w; omega)
  have c1 : Fr pCl s s1 := (e1.mo fun f i w => pRg_f.mpr (by have := pCl_f.mp w; omega)).tr (e2.mo fun f i w => pKa_f.mpr (by have := pCl_f.mp w; omega))
  have ey : yv s2 0 = Y := by
    rw [← hy, (e3.mo (Q := fun f i => pRm f i || pKb f i) fun f i w => (Bool.or_eq_false_iff.mp w).1).tr (e4.mo fun f i w => (Bool.or_eq_false_iff.mp w).2) |>.yv fun f g1 g2 => Bool.or_eq_false_iff.mpr ⟨pRm_f.mpr (by omega), pKb_f.mpr (by omega)⟩]
  refine h.acted (((m1.tr m2).tr m3).tr m4) hM.2.2.2.1 ?_ ?_ (by rw [ey]; exact hY) (by rw [ey]; exact h9) hM.1 (by rw [ey]; exact hM.2.1) (fun k g1 g2 => ?_)
  · exact ((kc.fr e2 (pKa_f.mpr (by omega)) (pKa_f.mpr (by omega)) (fun f i g1 g2 g3 g4 => pKa_f.mpr (by omega))).fr e3 (pRm_f.mpr (by omega)) (pRm_f.mpr (by omega)) (fun f i g1 g2 g3 g4 => pRm_f.mpr (by omega))).fr e4 (pKb_f.mpr (by omega)) (pKb_f.mpr (by omega)) (fun f i g1 g2 g3 g4 => pKb_f.mpr (by omega))
  · exact (km.bk c1 (pCl_f.mpr (by omega)) (pCl_f.mpr (by omega)) (fun f g1 g2 => pCl_f.mpr (by omega))).fr e4 (pKb_f.mpr (by omega)) (pKb_f.mpr (by omega))
  · rw [h37 k g1 g2, e3 _ _ (pRm_f.mpr (by omega)), c1 _ _ (pCl_f.mpr (by omega))]
/-- both sides' numbers of pasts -/
theorem Inv.pasts {s : S2} (h : Inv s) : ∃ m p : Nat, m ≤ 20 ∧ p ≤ 20 ∧ s 1028 0 0 = m ∧ s 1027 0 0 = p ∧ s 1593 0 0 = m := by
  obtain ⟨R, K, a1, a2, a3, -⟩ := h
  obtain ⟨m, p, b1, b2, b3, b4, b5, -⟩ := a3.2.2.1
  rw [uw1 (by omega)] at b3 b5
  rw [live_t (by unfold jr; omega)] at b4
  exact ⟨m, p, b1, b2, b3, b5, b4⟩
theorem Inv.kept {s : S2} (h : Inv s) : ∃ sa, f93 0 s = some sa ∧ KC s sa ∧ Fr pRg s sa := by
  obtain ⟨m, p, b1, b2, b3, b4, b5⟩ := h.pasts
  obtain ⟨sa, a1, a2, a3, a4, a5⟩ := m93 b4 b3 b2 b1
  exact ⟨sa, a1, ⟨m, p, b1, b2, b3, b4, a2, a3, a4⟩, a5⟩
theorem Inv.keptM {s s1 : S2} (h : Inv s) (e : Fr pCl s s1) : ∃ sd, f221 s1 = some sd ∧ KM s1 sd ∧ Fr pRm s1 sd := by
  obtain ⟨m, p, b1, b2, b3, b4, b5⟩ := h.pasts
  exact m221 (m := m) (by rw [e _ _ (pCl_f.mpr (by omega))]; exact b5) b1
theorem pRg_cl {s s' : S2} (e : Fr pRg s s') : Fr pCl s s' := e.mo fun f i w => pRg_f.mpr (by have := pCl_f.mp w; omega)
theorem pKa_cl {s s' : S2} (e : Fr pKa s s') : Fr pCl s s' := e.mo fun f i w => pKa_f.mpr (by have := pCl_f.mp w; omega)
theorem pY_ka {s s' : S2} {a : Nat} (ha : a = 0 ∨ 160 ≤ a) (e : Fr (pY a) s s') : Fr pKa s s' := e.mo fun f i w => pY_f.mpr (by have := pKa_f.mp w; omega)
theorem MS.rm {C Y : V2} {code : List Int} {d : Int} {s s' : S2} (h : MS C Y code d s) (e : Fr pRm s s') : MS C Y code d s' := h.fr e (fun f g1 g2 g3 g4 => pRm_f.mpr (by omega))
theorem call_hour {s : S2} (h : Inv s) : ∃ r s1 s2, f92 s = some (r, s1) ∧ f219 s1 = some (r, s2) ∧ Inv s2 := by
  obtain ⟨R, K, hB, hW, hR⟩ := h.rel
  obtain ⟨-, -, hC, hY, h9, hL, hw, hM⟩ := hR
  have hcc := hC.1
  have e4 : s 384 0 0 = cw s 0 384 0 := (cw0 (by omega) (by omega)).symm
  have e5 : s 512 0 0 = yv s 0 512 0 := yv512.symm
  have hh := hY.2.2.2.2.1
  by_cases hp : ¬ cw s 0 384 0 = 0 ∧ yv s 0 512 0 < 999
  · obtain ⟨sa, a1, a2, a3⟩ := h.kept
    obtain ⟨sb, b1, b2, b3, b4, b5⟩ := m75 (s := sa)
    have hla : lawI sa (sa 1033 0 0) = lawI s (s 1033 0 0) := by
      unfold lawI
      rw [a3 1033 0 (pRg_f.mpr (by omega)), a3 898 0 (pRg_f.mpr (by omega))]
    have hya : yv sa 0 = yv s 0 := a3.yv fun f g1 g2 => pRg_f.mpr (by omega)
    have hca : cw sa 0 = cw s 0 := a3.cw fun f g1 g2 => pRg_f.mpr (by omega)
    have q5 : ∀ f i, (f < 512 ∨ 518 < f) → (f < 1153 ∨ 1154 < f) → pS f i = false := fun f i g1 g2 => pS_f.mpr ⟨by omega, pY_f.mpr (by omega)⟩
    have hcb : cw sb 0 = cw s 0 := by rw [← hca]; exact b5.cw fun f g1 g2 => q5 _ _ (by omega) (by omega)
    have hLb : hasL sb (lawI sa (sa 1033 0 0)) (lawK K (s 1033 0 0)) := by
      rw [hla]
      exact hL.fr (by rw [b5 _ _ (q5 _ _ (by omega) (by omega)), a3 _ _ (pRg_f.mpr (by omega))]) (by rw [b5 _ _ (q5 _ _ (by omega) (by omega)), a3 _ _ (pRg_f.mpr (by omega))])
    obtain ⟨sc, c1, c2, c3⟩ := m94 (d := 0) (r := lawI sa (sa 1033 0 0)) (c := 0) b3 b4 hLb hw (by rw [hcb]; exact hC) (by rw [hcb, b2, hya]; exact hY)
    rw [hcb, b2, hya] at c1 c2
    obtain ⟨s1, d1, d2, d3⟩ := m58 (a := 0) (b := 160) (s := sc)
    rw [c2] at d2
    have f2 : Fr pKa sa s1 := ((b5.mo fun f i w => pS_f.mpr (by have := pKa_f.mp w; exact ⟨by omega, pY_f.mpr (by omega)⟩)).tr (c3.mo fun f i w => pP_f.mpr (by have := pKa_f.mp w; exact ⟨pM_f.mpr (by omega), pA_f.mpr (by omega), pY_f.mpr (by omega)⟩))).tr (pY_ka (Or.inl rfl) d3)
    have hcl : Fr pCl s s1 := (pRg_cl a3).tr (pKa_cl f2)
    have hM1 := hM.cl hcl
    obtain ⟨sd, g1, g2, g3⟩ := h.keptM hcl
    obtain ⟨s2, k1, k2, k3, k4⟩ := m222 hC hY (hM1.rm g3)
    refine ⟨passG (cw s 0) (yv s 0) (rainI (cw s 0) (yv s 0) 0) (lawK K (s 1033 0 0)), s1, s2, ?_, ?_, h.acted4 a2 a3 f2 g2 g3 (k3.mo fun f i w => pG_f.mpr (by have := pKb_f.mp w; omega)) d2 (passY_YB hC hY (by omega)) ?_ k2 (fun k _ _ => k4 k (by omega))⟩
    · unfold f92
      rw [bnd, e4, if_neg hp.1, bnd, e5, if_pos hp.2, a1, cP_s, b1, cP_s, c1, cR_s, d1, cP_s]
    · unfold f219
      rw [m220 hC hM1.1, cP_s, if_neg hp.1, ld_t (by omega) (by omega), show s1 1537 0 (Int.toNat 7) = yv s 0 512 0 from hM1.2.1.1, if_pos (by omega), g1, cP_s, k1, cR_s]
    · have : passY (cw s 0) (yv s 0) (rainI (cw s 0) (yv s 0) 0) (lawK K (s 1033 0 0)) 512 0 = yv s 0 512 0 + 1 := (nY_t yr512).trans rfl
      omega
  · refine ⟨-1, s, s, ?_, ?_, h⟩
    · unfold f92
      rw [bnd, e4]
      by_cases h0 : cw s 0 384 0 = 0
      · rw [if_pos h0]
      · rw [if_neg h0, bnd, e5, if_neg (fun w => hp ⟨h0, w⟩)]
    · unfold f219
      rw [m220 hC hM.1, cP_s]
      by_cases h0 : cw s 0 384 0 = 0
      · rw [if_pos h0]
      · rw [if_neg h0, ld_t (by omega) (by omega), show s 1537 0 (Int.toNat 7) = yv s 0 512 0 from hM.2.1.1, if_neg (show ¬ ¬ yv s 0 512 0 = 999 from fun w => hp ⟨h0, by omega⟩)]
