theorem pH_k {f i : Nat} (h : pAk f i = false) : pH f i = false := by
  have := pAk_f.mp h
  exact pH_f.mpr (by omega)
theorem pY_k {f i : Nat} (h : pAk f i = false) : pY 160 f i = false := by
  have := pAk_f.mp h
  exact pY_f.mpr (by omega)
theorem pY_cl {f i : Nat} (h : pCl f i = false) : pY 160 f i = false := by
  have := pCl_f.mp h
  exact pY_f.mpr (by omega)
theorem take_e {C Y : V2} {n fam : Nat} (hup : upP C Y n) (hf : C 395 n = fam) : takeS C Y n = setOn Y n (-1) fam (fun v => jadd v 2) := by
  unfold takeS
  rw [if_pos hup, Int.toNat_natCast, hf]
def worthS (C Y : V2) (code : List Int) (a n fam : Nat) : Int := jsub (passN C code n Y 518 fam) (passN C code n (takeS C Y a) 518 fam)
theorem c136 {s : S2} {C Y : V2} {code : List Int} {a n fam : Nat} (h : Rel s C Y code) (ha : a < 10) (ha2 : (a : Int) < C 389 0) (hu : Y 515 a ≠ -1) (hfam : C 395 a = fam) (h1 : 1 ≤ n) (h2 : n ≤ 60) : ∃ s1, f136 a n s = some (worthS C Y code a n fam, s1) ∧ Fr pAk s s1 ∧ Fr pCl s s1 := by
  obtain ⟨e1, e2, e3⟩ := cw0f h.1
  have hC := h.2.2.1
  have hY := h.2.2.2.1
  have hcc := hC.1
  have hh := hY.2.2.2.2.1
  have h9 := h.2.2.2.2.1
  obtain ⟨f1, f2, -, -⟩ := hC.2.2.1 a ha ha2
  have hf4 : fam < 4 := by omega
  have hup : upP C Y a := ⟨by omega, by rw [Int.toNat_natCast]; exact hu⟩
  have q1 : s 395 0 a = fam := by rw [← hfam, ← h.1, cw10 (by omega) (by omega) ha]
  have q2 : s 515 0 a = Y 515 a := by rw [← h.2.1, yv515 ha]
  have e98 : f98 0 a s = some 1 := by
    unfold f98
    rw [m49t (by omega), cP_s, if_neg ne10, ld_t (by omega) (by omega), Int.toNat_natCast]
    show (if s 515 0 a = -1 then _ else _) = _
    rw [q2, if_neg hu]
  obtain ⟨s2, s3, k1, k2, k3, k4, k5, k6⟩ := h.run (n := n) (by omega)
  have hR3 := h.ask (Ask.cl k5 k6)
  obtain ⟨s4, l1, l2, l3, l4⟩ := hR3.start
  obtain ⟨s5, m1, m2, m3⟩ := m99 (y := 160) (c := 0) (n := (a : Int)) (s := s4) (by rw [l2.2.2.2.2.1]; exact hC)
  rw [l2.2.2.2.2.1, l3] at m2
  have l5 := l2.fr m3 (pY_f.mpr (by omega)) (pY_f.mpr (by omega)) (pY_f.mpr (by omega)) (pY_f.mpr (by omega)) (fun f g1 g2 => pY_f.mpr (by omega))
  have hYt : YB C (takeS C Y a) := by
    rw [take_e hup hfam]
    exact so_YB hY ha2 (Or.inl rfl)
  have h512 : takeS C Y a 512 0 = Y 512 0 := by rw [take_e hup hfam, so512]
  obtain ⟨s6, n1, n2, n3⟩ := m107 (n := n) l5 m2 hYt (by omega) (by omega)
  refine ⟨s6, ?_, ((k5.tr (l4.mo fun f i q => pS_k q)).tr (m3.mo fun f i q => pY_k q)).tr (n3.mo fun f i q => pP_k q), ((k6.tr (l4.mo fun f i q => pS_cl q)).tr (m3.mo fun f i q => pY_cl q)).tr (n3.mo fun f i q => pP_cl q)⟩
  unfold f136
  rw [e98, cP_s, if_neg ne10, if_neg (by omega), if_pos (by omega), ld_t (by omega) (by omega), Int.toNat_natCast, q1, k1, cP_s, k2, cP_s, m115 hf4, cP_s, l1, cP_s, m1, cP_s, n1, cP_s, m115 hf4, cP_s, k3, n2, bnd]
  rfl
theorem c257 {t : S2} {C Y : V2} {code : List Int} {a n fam : Nat} (hC : CB C) (hY : YB C Y) (h9 : Y 512 0 ≤ 999) (h : MS C Y code 0 t) (ha : a < 10) (ha2 : (a : Int) < C 389 0) (hu : Y 515 a ≠ -1) (hfam : C 395 a = fam) (g1 : 1 ≤ n) (g2 : n ≤ 60) : ∃ t1, f257 a n t = some (worthS C Y code a n fam, t1) ∧ Ask t t1 := by
  have hh := hY.2.2.2.2.1
  have hcc := hC.1
  obtain ⟨f1, f2, -, -⟩ := hC.2.2.1 a ha ha2
  have hf4 : fam < 4 := by omega
  have hup : upP C Y a := ⟨by omega, by rw [Int.toNat_natCast]; exact hu⟩
  have q1 : t 1548 0 a = Y 515 a := (h.2.1.2.2.2.1 a ha ha2).2
  have q2 : t 1545 0 a = fam := by rw [(h.1.2.2.1 a ha ha2).1]; exact hfam
  have e214 : f214 a t = some 1 := by rw [m214 hC h.1 (by unfold i32; omega), if_pos (by omega)]
  have hYt : YB C (takeS C Y a) := by
    rw [take_e hup hfam]
    exact so_YB hY ha2 (Or.inl rfl)
  have h512 : takeS C Y a 512 0 = Y 512 0 := by rw [take_e hup hfam, so512]
  obtain ⟨t1, a1, a2, a3, a4⟩ := m233 (t := t)
  have h1 : MS C Y code 0 t1 := h.fr a3 (fun f g1 g2 g3 g4 => pI_f.mpr (by omega))
  obtain ⟨t2, b1, b2, b3, b4⟩ := m236 (n := n) hC hY h1 (by omega) (by omega)
  have K2 := a2.fr b3 (pG_f.mpr (by omega))
  obtain ⟨t3, c1, c2, c3⟩ := m237 K2
  have K3 := K2.fr c3 (pJ_f.mpr (by omega))
  have F3 : Fr pAk t t3 := ((a3.mo fun f i q => pI_k q).tr (b3.mo fun f i q => pG_k q)).tr (c3.mo fun f i q => pJ_k q)
  have d3 : t3 1589 0 = t 1589 0 := by rw [c3 1589 0 (pJ_f.mpr (by omega)), b3 1589 0 (pG_f.mpr (by omega)), a3 1589 0 (pI_f.mpr (by omega))]
  have M3 : MS C Y code 0 t3 := h.sm c2 hC F3 (fun f g1 g2 g3 g4 g5 => pAk_f.mpr (by omega)) (by rw [d3]; exact h.2.2.2.1)
  obtain ⟨t4, i1, i2, i3⟩ := m227 hC M3 ha ha2 hu
  have K4 := K3.fr i3 (pH_f.mpr (by omega))
  obtain ⟨t5, j1, j2, j3, j4⟩ := m236 (n := n) hC hYt i2 (by omega) (by omega)
  have K5 := K4.fr j3 (pG_f.mpr (by omega))
  obtain ⟨t6, o1, o2, o3⟩ := m237 K5
  refine ⟨t6, ?_, ((F3.tr (i3.mo fun f i q => pH_k q)).tr (j3.mo fun f i q => pG_k q)).tr (o3.mo fun f i q => pJ_k q), o2, ?_, fun k hk => ?_⟩
  · have r1 : t2 1539 0 fam = passN C code n Y 518 fam := (b2.2.1.2.2.2.2 fam hf4 (by omega)).2
    have r2 : t5 1539 0 fam = passN C code n (takeS C Y a) 518 fam := (j2.2.1.2.2.2.2 fam hf4 (by omega)).2
    unfold f257
    rw [e214, cP_s, if_neg ne10, ld_t (by omega) (by omega), Int.toNat_natCast, q1, if_neg hu, ji2l_e (by omega) (by omega), m173t (by omega), cP_s, if_pos ne10, ld_t (by omega) (by omega), Int.toNat_natCast, q2, a1, cP_s, b1, cP_s, ld_t (by omega) (by omega), Int.toNat_natCast, r1, c1, cP_s, i1, cP_s, j1, cP_s, ld_t (by omega) (by omega), Int.toNat_natCast, r2, bnd, o1, cP_s]
    rfl
  · rw [o3 1589 0 (pJ_f.mpr (by omega)), j3 1589 0 (pG_f.mpr (by omega)), i3 1589 0 (pH_f.mpr (by omega)), d3]
  · rw [o3 1606 0 (pJ_f.mpr (by omega)), j3 1606 0 (pG_f.mpr (by omega)), i3 1606 0 (pH_f.mpr (by omega)), c3 1606 0 (pJ_f.mpr (by omega)), b3 1606 0 (pG_f.mpr (by omega)), a4 k hk]
