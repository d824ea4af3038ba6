theorem ch_388 {s : S2} : s 388 0 0 = cw s 0 388 0 := (cw0 (by omega) (by omega)).symm
theorem ch_389 {s : S2} : s 389 0 0 = cw s 0 389 0 := (cw0 (by omega) (by omega)).symm
theorem mayI_n {C Y : V2} {n l : Int} (h : mayH C Y n l) : mayI C Y n l = 1 := if_pos h
theorem mayI_z {C Y : V2} {n l : Int} (h : ¬ mayH C Y n l) : mayI C Y n l = 0 := if_neg h
theorem call_hang {s : S2} {a b : Int} (h : Inv s) (ia : i32 a) (ib : i32 b) : ∃ r s1 s2, f96 a b s = some (r, s1) ∧ f223 a b s1 = some (r, s2) ∧ Inv s2 := by
  obtain ⟨R, K, hB, hW, hR⟩ := h.rel
  obtain ⟨-, -, hC, hY, h9, hL, hw, hM⟩ := hR
  have hcc := hC.1
  by_cases hm : mayH (cw s 0) (yv s 0) a b
  · obtain ⟨⟨p1, p2, p3⟩, ⟨p4, p5, p6⟩, -⟩ := id hm
    obtain ⟨n, rfl⟩ := Int.eq_ofNat_of_zero_le p1
    obtain ⟨l, rfl⟩ := Int.eq_ofNat_of_zero_le p4
    obtain ⟨sa, a1, a2, a3⟩ := h.kept
    have hya : yv sa 0 = yv s 0 := a3.yv fun f g1 g2 => pRg_f.mpr (by omega)
    have hca : cw sa 0 = cw s 0 := a3.cw fun f g1 g2 => pRg_f.mpr (by omega)
    obtain ⟨s1, b1, b2, b3⟩ := m54 (y := 0) (c := 0) (n := (n : Int)) (l := (l : Int)) (s := sa) (by rw [hca]; exact hC)
    rw [hca, hya] at b2
    have hc1 : cw s1 0 = cw s 0 := by rw [← hca]; exact b3.cw fun f g1 g2 => pY_f.mpr (by omega)
    have hcl : Fr pCl s s1 := (pRg_cl a3).tr (pKa_cl (pY_ka (Or.inl rfl) b3))
    have hM1 := hM.cl hcl
    obtain ⟨sd, g1, g2, g3⟩ := h.keptM hcl
    obtain ⟨s2, k1, k2, k3⟩ := m225 (n := n) (l := l) hC (hM1.rm g3) hm
    have hYp : YB (cw s 0) (putS (cw s 0) (yv s 0) n l) := putS_YB hY
    have h5 : putS (cw s 0) (yv s 0) n l 512 0 = yv s 0 512 0 := by
      unfold putS
      rw [if_pos hm, so512]
    refine ⟨left (cw s 0) (putS (cw s 0) (yv s 0) n l) l, s1, s2, ?_, ?_, h.acted4 a2 a3 (pY_ka (Or.inl rfl) b3) g2 g3 (k3.mo fun f i w => pH_f.mpr (by have := pKb_f.mp w; omega)) b2 hYp (by omega) k2 (fun k _ _ => by rw [k3 _ _ (pH_f.mpr (by omega))])⟩
    · unfold f96
      rw [m48n hC, cP_s, mayI_n hm, if_pos ne10, a1, cP_s, b1, cP_s, m52n (by rw [hc1]; exact hC), cP_s, hc1, b2]
    · unfold f223
      rw [m214 hC hM1.1 ia, cP_s, if_pos (show 0 ≤ (n : Int) ∧ (n : Int) < cw s 0 389 0 from ⟨p1, p2⟩), if_neg ne10, m210 hC hM1.1 ib, cP_s, if_pos (show 0 ≤ (l : Int) ∧ (l : Int) < cw s 0 388 0 from ⟨p4, p5⟩), if_neg ne10, m224 hC hY hM1 (by omega) p2 (by omega) p5, cP_s, mayI_n hm, if_pos ne10, g1, cP_s, k1, cP_s, m211 hC hYp k2.1 k2.2.1 (by omega) p5, cP_s]
  · refine ⟨-1, s, s, ?_, ?_, h⟩
    · unfold f96
      rw [m48n hC, cP_s, mayI_z hm, if_neg (by decide)]
    · unfold f223
      rw [m214 hC hM.1 ia, cP_s]
      by_cases q1 : 0 ≤ a ∧ a < cw s 0 389 0
      · rw [if_pos q1, if_neg ne10, m210 hC hM.1 ib, cP_s]
        by_cases q2 : 0 ≤ b ∧ b < cw s 0 388 0
        · obtain ⟨n, rfl⟩ := Int.eq_ofNat_of_zero_le q1.1
          obtain ⟨l, rfl⟩ := Int.eq_ofNat_of_zero_le q2.1
          rw [if_pos q2, if_neg ne10, m224 hC hY hM (by omega) q1.2 (by omega) q2.2, cP_s, mayI_z hm, if_neg (by decide)]
        · rw [if_neg q2, if_pos rfl]
      · rw [if_neg q1, if_pos rfl]
theorem m98 {s : S2} {a : Int} (hC : CB (cw s 0)) : (upP (cw s 0) (yv s 0) a → f98 0 a s = some 1) ∧ (¬ upP (cw s 0) (yv s 0) a → f98 0 a s = some 0) := by
  have hcc := hC.1
  unfold f98 upP
  constructor
  · rintro ⟨⟨g1, g2, g3⟩, g4⟩
    obtain ⟨n, rfl⟩ := Int.eq_ofNat_of_zero_le g1
    rw [Int.toNat_natCast, yv515 (by omega)] at g4
    rw [m49t (by have := ch_389 (s := s); omega), cP_s, if_neg ne10, ld_t (by omega) (by omega), Int.toNat_natCast, if_neg g4]
  · intro hn
    by_cases g1 : 0 ≤ a ∧ a < cw s 0 389 0 ∧ a < 10
    · obtain ⟨n, rfl⟩ := Int.eq_ofNat_of_zero_le g1.1
      have g4 : s 515 0 n = -1 := by
        by_cases e : s 515 0 n = -1
        · exact e
        · exact absurd ⟨g1, by rw [Int.toNat_natCast, yv515 (by omega)]; exact e⟩ hn
      rw [m49t (by have := ch_389 (s := s); omega), cP_s, if_neg ne10, ld_t (by omega) (by omega), Int.toNat_natCast, if_pos g4]
    · rw [m49f (by have := ch_389 (s := s); omega), cP_s, if_pos rfl]
theorem call_take {s : S2} {a : Int} (h : Inv s) (ia : i32 a) : ∃ r s1 s2, f97 a s = some (r, s1) ∧ f226 a s1 = some (r, s2) ∧ Inv s2 := by
  obtain ⟨R, K, hB, hW, hR⟩ := h.rel
  obtain ⟨-, -, hC, hY, h9, hL, hw, hM⟩ := hR
  have hcc := hC.1
  by_cases hm : upP (cw s 0) (yv s 0) a
  · obtain ⟨⟨p1, p2, p3⟩, p4⟩ := id hm
    obtain ⟨n, rfl⟩ := Int.eq_ofNat_of_zero_le p1
    rw [Int.toNat_natCast] at p4
    obtain ⟨sa, a1, a2, a3⟩ := h.kept
    have hya : yv sa 0 = yv s 0 := a3.yv fun f g1 g2 => pRg_f.mpr (by omega)
    have hca : cw sa 0 = cw s 0 := a3.cw fun f g1 g2 => pRg_f.mpr (by omega)
    obtain ⟨s1, b1, b2, b3⟩ := m99 (y := 0) (c := 0) (n := (n : Int)) (s := sa) (by rw [hca]; exact hC)
    rw [hca, hya] at b2
    have hcl : Fr pCl s s1 := (pRg_cl a3).tr (pKa_cl (pY_ka (Or.inl rfl) b3))
    have hM1 := hM.cl hcl
    obtain ⟨sd, g1, g2, g3⟩ := h.keptM hcl
    have hMd := hM1.rm g3
    obtain ⟨s2, k1, k2, k3⟩ := m227 (n := n) hC hMd (by omega) p2 p4
    have h5 : takeS (cw s 0) (yv s 0) n 512 0 = yv s 0 512 0 := by
      unfold takeS
      rw [if_pos hm, so512]
    have ea : sa 515 0 n = yv s 0 515 n := by rw [← hya, yv515 (by omega)]
    refine ⟨yv s 0 515 n, s1, s2, ?_, ?_, h.acted4 a2 a3 (pY_ka (Or.inl rfl) b3) g2 g3 (k3.mo fun f i w => pH_f.mpr (by have := pKb_f.mp w; omega)) b2 (takeS_YB hY) (by omega) k2 (fun k _ _ => by rw [k3 _ _ (pH_f.mpr (by omega))])⟩
    · unfold f97
      rw [(m98 hC).1 hm, cP_s, if_pos ne10, a1, cP_s, ld_t (by omega) (by omega), Int.toNat_natCast, ea, b1, cP_s]
    · unfold f226
      rw [m214 hC hM1.1 ia, cP_s, if_pos (show 0 ≤ (n : Int) ∧ (n : Int) < cw s 0 389 0 from ⟨p1, p2⟩), if_neg ne10, ld_t (by omega) (by omega), Int.toNat_natCast, (hM1.2.1.2.2.2.1 n (by omega) p2).2, if_pos p4, g1, cP_s, ld_t (by omega) (by omega), Int.toNat_natCast, (hMd.2.1.2.2.2.1 n (by omega) p2).2, k1, cP_s]
  · refine ⟨-1, s, s, ?_, ?_, h⟩
    · unfold f97
      rw [(m98 hC).2 hm, cP_s, if_neg (by decide)]
    · unfold f226
      rw [m214 hC hM.1 ia, cP_s]
      by_cases q1 : 0 ≤ a ∧ a < cw s 0 389 0
      · obtain ⟨n, rfl⟩ := Int.eq_ofNat_of_zero_le q1.1
        have g4 : yv s 0 515 n = -1 := by
          by_cases e : yv s 0 515 n = -1
          · exact e
          · exact absurd ⟨⟨q1.1, q1.2, by omega⟩, by rw [Int.toNat_natCast]; exact e⟩ hm
        rw [if_pos q1, if_neg ne10, ld_t (by omega) (by omega), Int.toNat_natCast, (hM.2.1.2.2.2.1 n (by omega) q1.2).2, g4, if_neg (by decide)]
      · rw [if_neg q1, if_pos rfl]
