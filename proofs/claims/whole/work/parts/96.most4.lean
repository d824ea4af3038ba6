/-! MOST, the model, and both -/
theorem c239b {t z : S2} {C Y : V2} {code : List Int} {pc : Nat × (Nat → Nat)} {fam n i : Nat} {N : Int} (hC : CB C) (hY : YB C Y) (hM : MS C Y code 0 t) (h9 : Y 512 0 ≤ 999) (hn : n ≤ 12) (hf : fam < 4) (hf2 : (fam : Int) < C 387 0) (hk : AK t z) (hp : rowP z 1599 1596 pc) (h4 : pc.1 ≤ 4) (hok : ∀ j, j < pc.1 → pc.2 j < 10 ∧ ((pc.2 j : Nat) : Int) < C 389 0) (hi : (i : Int) < N) (hN : N ≤ 2401) (hR : bestR z 1598 pc.1 i (mtS C Y code (C 388 0 + 1) pc fam n i)) : ∃ z', f239_b fam n N (mtS C Y code (C 388 0 + 1) pc fam n i).1 i z = some (.inl ((mtS C Y code (C 388 0 + 1) pc fam n (i + 1)).1, ((i + 1 : Nat) : Int), z')) ∧ AK t z' ∧ rowP z' 1599 1596 pc ∧ bestR z' 1598 pc.1 (i + 1) (mtS C Y code (C 388 0 + 1) pc fam n (i + 1)) := by
  have hcc := hC.1
  have hh := hY.2.2.2.2.1
  have hMz := hk.ms hM hC
  obtain ⟨L, hL⟩ := Int.eq_ofNat_of_zero_le (show 0 ≤ C 388 0 by omega)
  have q3 : z 1537 0 3 = L := by rw [← hL]; exact hMz.1.1.2.2.2.1
  have ej : jadd (i : Int) 1 = ((i + 1 : Nat) : Int) := by rw [jadd_e (by omega) (by omega)]; rfl
  obtain ⟨z1, a1, a2, a3⟩ := m241a (t := z) (code := (i : Int)) (c := pc.1) (L := L) h4 q3 (by omega) (by omega)
  rw [← hL] at a2
  have hM1 : MS C Y code 0 z1 := hMz.fr a3 (fun f g1 g2 g3 g4 => pF1_f.mpr (by omega))
  have hp1 : rowP z1 1599 1596 pc := ⟨by rw [a3 _ _ (pF1_f.mpr (by omega))]; exact hp.1, fun j hj => by rw [a3 _ _ (pF1_f.mpr (by omega))]; exact hp.2 j hj⟩
  obtain ⟨z2, b1, b2, b3⟩ := m241b (rw' := rwF (C 388 0 + 1) i pc.1) hC hY hM1 hp1 h4 hok a2 (fun j hj => by
    have := rwF_bd (B := C 388 0 + 1) (code := (i : Int)) (c := pc.1) (j := j) (by omega)
    omega)
  have e241 : f241 i z = some (u01 (hgS C pc.2 (rwF (C 388 0 + 1) i pc.1) Y pc.1).1, z2) := by
    unfold f241
    rw [bnd, hp.1, bnd, jsub_e (by omega) (by omega), a1, cP_s]
    exact b1
  have F2 : Fr pAk z z2 := (a3.mo fun f i q => pF1_f.mpr (by have := pAk_f.mp q; omega)).tr (b3.mo fun f i q => pH_k q)
  have h6 : z2 1606 0 = z 1606 0 := by rw [b3 _ _ (pH_f.mpr (by omega)), a3 _ _ (pF1_f.mpr (by omega))]
  have h9' : z2 1589 0 0 = t 1589 0 0 := by rw [b3 _ _ (pH_f.mpr (by omega)), a3 _ _ (pF1_f.mpr (by omega)), hk.1.2.2.1]
  have hp2 : rowP z2 1599 1596 pc := ⟨by rw [b3 _ _ (pH_f.mpr (by omega))]; exact hp1.1, fun j hj => by rw [b3 _ _ (pH_f.mpr (by omega))]; exact hp1.2 j hj⟩
  have r2 : z2 1598 0 = z 1598 0 := by rw [b3 _ _ (pH_f.mpr (by omega)), a3 _ _ (pF1_f.mpr (by omega))]
  have w2 : ∀ j, j < pc.1 → z2 1597 0 j = rwF (C 388 0 + 1) i pc.1 j := fun j hj => by rw [b3 _ _ (pH_f.mpr (by omega))]; exact a2 j hj
  have hkeep : ∀ z', ¬ mtT C Y code (C 388 0 + 1) pc fam n i (mtS C Y code (C 388 0 + 1) pc fam n i).1 → z' 1598 0 = z 1598 0 → bestR z' 1598 pc.1 (i + 1) (mtS C Y code (C 388 0 + 1) pc fam n (i + 1)) := fun z' hn e => by
    right
    rw [mtS_f hn, e]
    rcases hR with hR | hR
    · subst hR
      exact absurd (mt_0 hC hY hf (by omega)) hn
    · exact hR
  have hst : f239_b fam n N (mtS C Y code (C 388 0 + 1) pc fam n i).1 i z = if u01 (hgS C pc.2 (rwF (C 388 0 + 1) i pc.1) Y pc.1).1 = 0 then (cP (f237 z2) fun s28 => some (.inl ((mtS C Y code (C 388 0 + 1) pc fam n i).1, ((i + 1 : Nat) : Int), s28))) else cP (f236 n z2) fun s30 => ld s30 1539 0 4 fam fun v31 => if v31 ≤ (mtS C Y code (C 388 0 + 1) pc fam n i).1 then (cP (f237 s30) fun s28 => some (.inl ((mtS C Y code (C 388 0 + 1) pc fam n i).1, ((i + 1 : Nat) : Int), s28))) else ld s30 1539 0 4 fam fun v32 => cP (f179 1597 1598 s30) fun s33 => (cP (f237 s33) fun s28 => some (.inl (v32, ((i + 1 : Nat) : Int), s28))) := by
    unfold f239_b
    rw [if_neg (by omega), e241, cR_s]
    simp only [jn, bnd, ej]
  cases hg : (hgS C pc.2 (rwF (C 388 0 + 1) i pc.1) Y pc.1).1 with
  | false =>
    have hn : ¬ mtT C Y code (C 388 0 + 1) pc fam n i (mtS C Y code (C 388 0 + 1) pc fam n i).1 := fun q => by
      have := q.1
      rw [hg] at this
      cases this
    obtain ⟨z3, c1, c2, c3⟩ := hk.back2 F2 h6 h9'
    refine ⟨z3, ?_, c2, ⟨by rw [c3 _ _ (pJ_f.mpr (by omega))]; exact hp2.1, fun j hj => by rw [c3 _ _ (pJ_f.mpr (by omega))]; exact hp2.2 j hj⟩, hkeep z3 hn (by rw [c3 _ _ (pJ_f.mpr (by omega))]; exact r2)⟩
    rw [hst, hg, if_pos (by rfl), c1, cP_s, mtS_f hn]
  | true =>
    obtain ⟨z3, d1, d2, d3, d4⟩ := m236 (n := n) hC (hgS_YB hY) (b2 hg) (by omega) (by rw [hgS_h]; omega)
    have F3 : Fr pAk z z3 := F2.tr (d3.mo fun f i q => pG_k q)
    have hair : z3 1539 0 fam = airM C Y code (C 388 0 + 1) pc fam n i := (d2.2.1.2.2.2.2 fam hf hf2).2
    have h63 : z3 1606 0 = z 1606 0 := by rw [d3 _ _ pG_6]; exact h6
    have h93 : z3 1589 0 0 = t 1589 0 0 := by rw [d3 _ _ pG_9]; exact h9'
    have hp3 : rowP z3 1599 1596 pc := ⟨by rw [d3 _ _ (pG_f.mpr (by omega))]; exact hp2.1, fun j hj => by rw [d3 _ _ (pG_f.mpr (by omega))]; exact hp2.2 j hj⟩
    have r3 : z3 1598 0 = z 1598 0 := by rw [d3 _ _ (pG_f.mpr (by omega))]; exact r2
    have w3 : ∀ j, j < pc.1 → z3 1597 0 j = rwF (C 388 0 + 1) i pc.1 j := fun j hj => by rw [d3 _ _ (pG_f.mpr (by omega))]; exact w2 j hj
    by_cases hq : airM C Y code (C 388 0 + 1) pc fam n i ≤ (mtS C Y code (C 388 0 + 1) pc fam n i).1
    · have hn : ¬ mtT C Y code (C 388 0 + 1) pc fam n i (mtS C Y code (C 388 0 + 1) pc fam n i).1 := fun q => by
        have := q.2
        omega
      obtain ⟨z4, c1, c2, c3⟩ := hk.back2 F3 h63 h93
      refine ⟨z4, ?_, c2, ⟨by rw [c3 _ _ (pJ_f.mpr (by omega))]; exact hp3.1, fun j hj => by rw [c3 _ _ (pJ_f.mpr (by omega))]; exact hp3.2 j hj⟩, hkeep z4 hn (by rw [c3 _ _ (pJ_f.mpr (by omega))]; exact r3)⟩
      rw [hst, hg, if_neg (by decide), d1, cP_s, ld_t (by omega) (by omega), Int.toNat_natCast, hair, if_pos hq, c1, cP_s, mtS_f hn]
    · have ht : mtT C Y code (C 388 0 + 1) pc fam n i (mtS C Y code (C 388 0 + 1) pc fam n i).1 := ⟨hg, by omega⟩
      have f4 : Fr (pF1 1598) z3 (cpS z3 1597 1598 4) := cpS_fr Fr.rf pF1_t
      obtain ⟨z4, c1, c2, c3⟩ := hk.back2 (F3.tr (f4.mo fun f i q => pF1_f.mpr (by have := pAk_f.mp q; omega))) (by rw [f4 _ _ (pF1_f.mpr (by omega))]; exact h63) (by rw [f4 _ _ (pF1_f.mpr (by omega))]; exact h93)
      refine ⟨z4, ?_, c2, ⟨by rw [c3 _ _ (pJ_f.mpr (by omega)), f4 _ _ (pF1_f.mpr (by omega))]; exact hp3.1, fun j hj => by rw [c3 _ _ (pJ_f.mpr (by omega)), f4 _ _ (pF1_f.mpr (by omega))]; exact hp3.2 j hj⟩, ?_⟩
      · rw [hst, hg, if_neg (by decide), d1, cP_s, ld_t (by omega) (by omega), Int.toNat_natCast, hair, if_neg hq, ld_t (by omega) (by omega), Int.toNat_natCast, hair, m179 (n := 4) rfl rfl (by omega) (by omega), cP_s, c1, cP_s, mtS_t ht]
      · right
        rw [mtS_t ht]
        intro j hj
        rw [c3 _ _ (pJ_f.mpr (by omega)), cpS_d, if_pos (by omega)]
        exact w3 j hj
theorem powB {B c : Nat} (hB : B ≤ 7) (hc : c ≤ 4) : B ^ c ≤ 2401 := Nat.le_trans (Nat.pow_le_pow_left hB c) (Nat.le_trans (Nat.pow_le_pow_right (by decide) hc) (by decide))
theorem c111 {s : S2} {r : Nat} {C Y : V2} {code : List Int} {fam n : Nat} (h : Hr s 0 r C code) (hy : yv s 0 = Y) (hY : YB C Y) (h9 : Y 512 0 ≤ 999) (hn : n ≤ 12) (hf : fam < 4) : ∃ s', f111 0 fam n s = some s' ∧ s' 1280 0 0 = (mtS C Y code (C 388 0 + 1) (pcN C Y fam 10) fam n (((C 388 0).toNat + 1) ^ (pcN C Y fam 10).1)).1 ∧ s' 1286 0 0 = (pcN C Y fam 10).1 ∧ (∀ j, j < (pcN C Y fam 10).1 → s' 1285 0 j = (mtS C Y code (C 388 0 + 1) (pcN C Y fam 10) fam n (((C 388 0).toNat + 1) ^ (pcN C Y fam 10).1)).2 j) ∧ Fr pAk s s' ∧ Fr pCl s s' := by
  have hC := h.2.2.2.2.2
  have hcc := hC.1
  have q1 : (s 1153 0 0).toNat = 0 := by rw [h.1]; rfl
  obtain ⟨s1, a1, a2, a3⟩ := m112 (fam := (fam : Int)) h.2.2.2.2.1 hy
  have h4 := pcN_4 (C := C) (Y := Y) (fam := (fam : Int)) (n := 10)
  generalize hpc : pcN C Y fam 10 = pc at a2 h4 ⊢
  have hz1 : Hr s1 0 r C code := h.fr a3 (pPc_f.mpr (by omega)) (pPc_f.mpr (by omega)) (pPc_f.mpr (by omega)) (pPc_f.mpr (by omega)) (fun f g1 g2 => pPc_f.mpr (by omega))
  have q1' : (s1 1153 0 0).toNat = 0 := by rw [hz1.1]; rfl
  have q2 : s1 388 0 0 = C 388 0 := by rw [← hz1.2.2.2.2.1, cw0 (by omega) (by omega)]
  have y1 : yv s1 0 = Y := by rw [a3.yv fun f g1 g2 => pPc_f.mpr (by omega)]; exact hy
  have hB : (C 388 0).toNat + 1 ≤ 7 := by omega
  have hN := powB hB h4
  have hNpos : 0 < ((C 388 0).toNat + 1) ^ pc.1 := Nat.pow_pos (by omega)
  have hpow : itr (fun (x6, x7) => f111_a x6 x7 s1) am_fu (1, 0) = some ((((C 388 0).toNat + 1) ^ pc.1 : Nat) : Int) := by
    refine itr_seq (fun k => (((((C 388 0).toNat + 1) ^ k : Nat) : Int), (k : Int))) pc.1 _ ?_ ?_ am_fu (fu_lt (by omega))
    · intro k hk
      have h1 := powB hB (show k + 1 ≤ 4 by omega)
      have h0 := powB hB (show k ≤ 4 by omega)
      have hm : ((((C 388 0).toNat + 1) ^ k : Nat) : Int) * (C 388 0 + 1) = ((((C 388 0).toNat + 1) ^ (k + 1) : Nat) : Int) := by
        rw [Nat.pow_succ, Int.natCast_mul]
        congr 1
        omega
      show f111_a _ _ s1 = _
      unfold f111_a
      rw [bnd, a2.1, if_neg (by omega), bnd, q1', bnd, q2, jadd_e (by omega) (by omega), jmul_e (by rw [hm]; omega) (by rw [hm]; omega), hm, bnd, bnd, jadd_e (by omega) (by omega)]
      rfl
    · show f111_a _ _ s1 = _
      unfold f111_a
      rw [bnd, a2.1, if_pos (by omega)]
  generalize ((C 388 0).toNat + 1) ^ pc.1 = N at hN hNpos hpow ⊢
  have f0 : Fr (pMo r) s1 (st2 s1 1280 0 0 (-1)) := Fr.rf.st (pMo_t1 r)
  have L : ∃ s', itr (fun (x20, s21) => f111_b 0 fam n N x20 s21) am_fu (0, st2 s1 1280 0 0 (-1)) = some s' ∧ s' 1280 0 0 = (mtS C Y code (C 388 0 + 1) pc fam n N).1 ∧ bestR s' 1285 pc.1 N (mtS C Y code (C 388 0 + 1) pc fam n N) ∧ Fr (pMo r) s1 s' := by
    refine itr_inv (fun (i : Nat) (z : Int × S2) => z.1 = i ∧ Fr (pMo r) s1 z.2 ∧ z.2 1280 0 0 = (mtS C Y code (C 388 0 + 1) pc fam n i).1 ∧ bestR z.2 1285 pc.1 i (mtS C Y code (C 388 0 + 1) pc fam n i)) (fun (z : S2) => z 1280 0 0 = (mtS C Y code (C 388 0 + 1) pc fam n N).1 ∧ bestR z 1285 pc.1 N (mtS C Y code (C 388 0 + 1) pc fam n N) ∧ Fr (pMo r) s1 z) N ?_ am_fu (fu_lt (by omega)) (0, st2 s1 1280 0 0 (-1)) ⟨rfl, f0, (st2_eq : st2 s1 1280 0 0 (-1) 1280 0 0 = -1), Or.inl rfl⟩
    rintro i ⟨x, z⟩ hi ⟨g1, g2, g3, g4⟩
    dsimp only at g1 g2 g3 g4 ⊢
    subst g1
    by_cases e : i = N
    · subst e
      refine Or.inr ⟨z, ?_, g3, g4, g2⟩
      show f111_b 0 fam n i i z = _
      unfold f111_b
      rw [if_pos (by omega)]
    · refine Or.inl ⟨by omega, ?_⟩
      obtain ⟨z', k1, k2, k3, k4⟩ := c111b (N := (N : Int)) hz1 y1 hY h9 hn hf a2 h4 (show (i : Int) < N by omega) (by omega) g2 g3 g4
      exact ⟨(_, z'), k1, rfl, k2, k3, k4⟩
  obtain ⟨s', b1, b2, b3, b4⟩ := L
  refine ⟨s', ?_, b2, ?_, ?_, ?_, ?_⟩
  · unfold f111
    rw [bnd, q1, a1, cP_s, hpow, cP_s, bnd, b1, cP_s]
  · rw [b4 _ _ (pMo_f.mpr ⟨pP_o (by omega), by omega⟩)]; exact a2.1
  · rcases b3 with b3 | b3
    · omega
    · exact b3
  · refine (a3.mo fun f i q => pPc_f.mpr (by have := pAk_f.mp q; omega)).tr (b4.mo fun f i q => pMo_f.mpr ⟨pP_k q, by have := pAk_f.mp q; omega⟩)
  · refine (a3.mo fun f i q => pPc_f.mpr (by have := pCl_f.mp q; omega)).tr (b4.mo fun f i q => pMo_f.mpr ⟨pP_cl q, by have := pCl_f.mp q; omega⟩)
theorem c239 {t t1 : S2} {C Y : V2} {code : List Int} {pc : Nat × (Nat → Nat)} {fam n : Nat} (hC : CB C) (hY : YB C Y) (hM : MS C Y code 0 t) (h9 : Y 512 0 ≤ 999) (hn : n ≤ 12) (hf : fam < 4) (hf2 : (fam : Int) < C 387 0) (hk : AK t t1) (hp : rowP t1 1599 1596 pc) (h4 : pc.1 ≤ 4) (hok : ∀ j, j < pc.1 → pc.2 j < 10 ∧ ((pc.2 j : Nat) : Int) < C 389 0) : itr (fun (x8, x9) => f239_a x8 x9 t1) am_fu (1, 0) = some ((((C 388 0).toNat + 1) ^ pc.1 : Nat) : Int) ∧ ∃ t2, itr (fun (x21, x22, s23) => f239_b fam n ((((C 388 0).toNat + 1) ^ pc.1 : Nat) : Int) x21 x22 s23) am_fu (-1, 0, t1) = some ((mtS C Y code (C 388 0 + 1) pc fam n (((C 388 0).toNat + 1) ^ pc.1)).1, t2) ∧ AK t t2 ∧ rowP t2 1599 1596 pc ∧ ∀ j, j < pc.1 → t2 1598 0 j = (mtS C Y code (C 388 0 + 1) pc fam n (((C 388 0).toNat + 1) ^ pc.1)).2 j := by
  have hcc := hC.1
  have hB : (C 388 0).toNat + 1 ≤ 7 := by omega
  have hN := powB hB h4
  have hNpos : 0 < ((C 388 0).toNat + 1) ^ pc.1 := Nat.pow_pos (by omega)
  have q3 : t1 1537 0 3 = C 388 0 := (hk.ms hM hC).1.1.2.2.2.1
  constructor
  · refine itr_seq (fun k => (((((C 388 0).toNat + 1) ^ k : Nat) : Int), (k : Int))) pc.1 _ ?_ ?_ am_fu (fu_lt (by omega))
    · intro k hk
      have h1 := powB hB (show k + 1 ≤ 4 by omega)
      have h0 := powB hB (show k ≤ 4 by omega)
      have hm : ((((C 388 0).toNat + 1) ^ k : Nat) : Int) * (C 388 0 + 1) = ((((C 388 0).toNat + 1) ^ (k + 1) : Nat) : Int) := by
        rw [Nat.pow_succ, Int.natCast_mul]
        congr 1
        omega
      show f239_a _ _ t1 = _
      unfold f239_a
      rw [bnd, hp.1, if_neg (by omega), ld_t (by omega) (by omega), show t1 1537 0 (Int.toNat 3) = C 388 0 from q3, jadd_e (by omega) (by omega), jmul_e (by rw [hm]; omega) (by rw [hm]; omega), hm, bnd, bnd, jadd_e (by omega) (by omega)]
      rfl
    · show f239_a _ _ t1 = _
      unfold f239_a
      rw [bnd, hp.1, if_pos (by omega)]
  · generalize ((C 388 0).toNat + 1) ^ pc.1 = N at hN hNpos ⊢
    refine Exists.elim (itr_inv (b := fun (x21, x22, s23) => f239_b fam n N x21 x22 s23) (fun (i : Nat) (z : Int × Int × S2) => z.1 = (mtS C Y code (C 388 0 + 1) pc fam n i).1 ∧ z.2.1 = i ∧ AK t z.2.2 ∧ rowP z.2.2 1599 1596 pc ∧ bestR z.2.2 1598 pc.1 i (mtS C Y code (C 388 0 + 1) pc fam n i)) (fun (z : Int × S2) => z.1 = (mtS C Y code (C 388 0 + 1) pc fam n N).1 ∧ AK t z.2 ∧ rowP z.2 1599 1596 pc ∧ bestR z.2 1598 pc.1 N (mtS C Y code (C 388 0 + 1) pc fam n N)) N ?_ am_fu (fu_lt (by omega)) (-1, 0, t1) ⟨rfl, rfl, hk, hp, Or.inl rfl⟩) ?_
    rotate_left
    · rintro ⟨a, t2⟩ ⟨hr, b1, b2, b3, b4⟩
      dsimp only at b1 b2 b3 b4
      subst b1
      refine ⟨t2, hr, b2, b3, ?_⟩
      rcases b4 with b4 | b4
      · omega
      · exact b4
    · rintro i ⟨x, y, z⟩ hi ⟨g1, g2, g3, g4, g5⟩
      dsimp only at g1 g2 g3 g4 g5 ⊢
      subst g1 g2
      by_cases e : i = N
      · subst e
        refine Or.inr ⟨((mtS C Y code (C 388 0 + 1) pc fam n i).1, z), ?_, rfl, g3, g4, g5⟩
        show f239_b fam n i _ i z = _
        unfold f239_b
        rw [if_pos (by omega)]
      · refine Or.inl ⟨by omega, ?_⟩
        obtain ⟨z', k1, k2, k3, k4⟩ := c239b (N := (N : Int)) hC hY hM h9 hn hf hf2 g3 g4 h4 hok (show (i : Int) < N by omega) (by omega) g5
        exact ⟨((mtS C Y code (C 388 0 + 1) pc fam n (i + 1)).1, ((i + 1 : Nat) : Int), z'), k1, rfl, rfl, k2, k3, k4⟩
theorem call_most {s : S2} {C Y : V2} {code : List Int} {a b c : Int} (h : Rel s C Y code) (ia : i32 a) (ib : i32 b) (ic : i32 c) : ∃ r s1 s2, f110 a b c s = some (r, s1) ∧ f239 a b c s1 = some (r, s2) ∧ Ask s s2 := by
  have hM := h.2.2.2.2.2.2.2
  have hC := h.2.2.1
  have hY := h.2.2.2.1
  have h9 := h.2.2.2.2.1
  have hcc := hC.1
  obtain ⟨e1, e2, e3⟩ := cw0f h.1
  have jb : ji2l b = b := by unfold i32 at ib; exact ji2l_e (by omega) (by omega)
  have jc : ji2l c = c := by unfold i32 at ic; exact ji2l_e (by omega) (by omega)
  by_cases ha : 0 ≤ a ∧ a < C 387 0
  · obtain ⟨fam, rfl⟩ := Int.eq_ofNat_of_zero_le ha.1
    have hf : fam < 4 := by omega
    by_cases hb : 1 ≤ b ∧ b ≤ 12
    · obtain ⟨n, rfl⟩ := Int.eq_ofNat_of_zero_le (show 0 ≤ b by omega)
      by_cases hc : 0 ≤ c ∧ c ≤ 4
      · obtain ⟨s1, k1, k2, k3, k4⟩ := h.start
        obtain ⟨s2, l1, l2, l3, l4, l5, l6⟩ := c111 (fam := fam) (n := n) k2 (by rw [k4.yv fun f g1 g2 => pS_f.mpr ⟨by omega, pY_f.mpr (by omega)⟩]; exact h.2.1) hY h9 (by omega) hf
        have F1 : Fr pAk s s2 := (k4.mo fun f i q => pS_k q).tr l5
        have F2 : Fr pCl s s2 := (k4.mo fun f i q => pS_cl q).tr l6
        have hM2 := hM.cl F2
        obtain ⟨t1, m1, m2, m3⟩ := m240 (fam := (fam : Int)) hC hM2.1 hM2.2.1
        have hAk1 : Ask s2 t1 := Ask.mo m3 (fun f i q => pPm_f.mpr (by have := pAk_f.mp q; omega)) (fun f g1 g2 g3 => pPm_f.mpr (by omega))
        have hM3 : MS C Y code 0 t1 := hM2.fr m3 (fun f g1 g2 g3 g4 => pPm_f.mpr (by omega))
        obtain ⟨t2, n1, n2⟩ := AK.keep (t := t1)
        obtain ⟨t2', n1', -, n3', -⟩ := m233 (t := t1)
        have et : t2' = t2 := by rw [n1] at n1'; cases n1'; rfl
        subst et
        have h4 := pcN_4 (C := C) (Y := Y) (fam := (fam : Int)) (n := 10)
        have hok := pcN_ok (C := C) (Y := Y) (fam := (fam : Int)) (n := 10)
        generalize hpc : pcN C Y fam 10 = pc at l2 l3 l4 m2 h4 hok
        have hp2 : rowP t2' 1599 1596 pc := ⟨by rw [n3' _ _ (pI_f.mpr (by omega))]; exact m2.1, fun j hj => by rw [n3' _ _ (pI_f.mpr (by omega))]; exact m2.2 j hj⟩
        obtain ⟨o1, t3, o2, o3, o4, o5⟩ := c239 (fam := fam) (n := n) hC hY hM3 h9 (by omega) hf ha.2 n2 hp2 h4 hok
        have o1' : itr (fun (x8, x9) => f239_a x8 x9 t1) am_fu (1, 0) = some ((((C 388 0).toNat + 1) ^ pc.1 : Nat) : Int) := by
          have : (fun (x : Int × Int) => match x with | (x8, x9) => f239_a x8 x9 t1) = (fun (x : Int × Int) => match x with | (x8, x9) => f239_a x8 x9 t2') := by
            funext x
            obtain ⟨x8, x9⟩ := x
            show f239_a x8 x9 t1 = f239_a x8 x9 t2'
            unfold f239_a ld
            rw [n3' 1599 0 (pI_f.mpr (by omega)), n3' 1537 0 (pI_f.mpr (by omega))]
          rw [this]
          exact o1
        generalize ((C 388 0).toNat + 1) ^ pc.1 = N at l2 l4 o1' o2 o5
        refine ⟨if c = 0 then (mtS C Y code (C 388 0 + 1) pc fam n N).1 else if (pc.1 : Int) < c then -2 else (mtS C Y code (C 388 0 + 1) pc fam n N).2 (c - 1).toNat, s2, t3, ?_, ?_, ((Ask.cl F1 F2).tr hAk1).tr o3.1⟩
        · unfold f110
          rw [m51t (by omega), cP_s, if_neg ne10, if_neg (by omega), if_neg (by omega), if_neg (by omega), if_pos hc.2, k1, cP_s, l1, cP_s]
          by_cases c0 : c = 0
          · rw [if_neg (show ¬ ¬ c = 0 from fun w => w c0), if_pos c0, bnd, l2]
          · rw [if_pos c0, if_neg c0, jsub_e (by omega) (by omega)]
            unfold f116
            rw [if_neg (by omega), bnd, l3]
            by_cases c1 : (pc.1 : Int) < c
            · rw [if_pos (by omega), cP_s, if_pos c1]
            · rw [if_neg (by omega), if_neg (by omega), ld_t (by omega) (by omega), l4 _ (by omega), cP_s, if_neg c1]
        · unfold f239
          rw [m198 hC hM2.1 ia, if_pos ha, cP_s, if_neg ne10, jb, m173t hb, cP_s, if_neg ne10, jc, m173t hc, cP_s, if_pos ne10, m1, cP_s, o1', cP_s, n1, cP_s, o2, cP_s]
          by_cases c0 : c = 0
          · show (if ¬ c = 0 then _ else _) = _
            rw [if_neg (show ¬ ¬ c = 0 from fun w => w c0), if_pos c0]
          · show (if ¬ c = 0 then _ else _) = _
            rw [if_pos c0, if_neg c0, bnd, o4.1]
            by_cases c1 : (pc.1 : Int) < c
            · rw [if_pos c1, if_pos c1]
            · rw [if_neg c1, if_neg c1, jsub_e (by omega) (by omega), ld_t (by omega) (by omega), o5 _ (by omega)]
      · refine ⟨-3, s, s, ?_, ?_, Ask.rf⟩
        · unfold f110
          rw [m51t (by omega), cP_s, if_neg ne10, if_neg (by omega), if_neg (by omega)]
          by_cases c0 : c < 0
          · rw [if_pos c0]
          · rw [if_neg c0, if_neg (by omega)]
        · unfold f239
          rw [m198 hC hM.1 ia, if_pos ha, cP_s, if_neg ne10, jb, m173t hb, cP_s, if_neg ne10, jc, m173f hc, cP_s, if_neg (by decide)]
    · refine ⟨-3, s, s, ?_, ?_, Ask.rf⟩
      · unfold f110
        rw [m51t (by omega), cP_s, if_neg ne10]
        by_cases b0 : b < 1
        · rw [if_pos b0]
        · rw [if_neg b0, if_pos (by omega)]
      · unfold f239
        rw [m198 hC hM.1 ia, if_pos ha, cP_s, if_neg ne10, jb, m173f hb, cP_s, if_pos rfl]
  · refine ⟨-3, s, s, ?_, ?_, Ask.rf⟩
    · unfold f110
      rw [m51f (by omega), cP_s, if_pos rfl]
    · unfold f239
      rw [m198 hC hM.1 ia, if_neg ha, cP_s, if_pos rfl]
