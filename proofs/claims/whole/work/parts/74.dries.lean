theorem fst_at {p : Nat → Bool} {i : Nat} (h : fstN p i = none) (hp : p i = true) : ∀ {m : Nat}, i < m → fstN p m = some i
  | m + 1, q => by
    unfold fstN
    by_cases e : i = m
    · subst e
      rw [h]
      simp [hp]
    · rw [fst_at h hp (m := m) (by omega)]
theorem fst_step {p : Nat → Bool} {i : Nat} (h : fstN p i = none) (hp : p i = false) : fstN p (i + 1) = none := by
  unfold fstN
  rw [h]
  simp [hp]
theorem fst_none {p : Nat → Bool} : ∀ {m : Nat}, (∀ i, i < m → p i = false) → fstN p m = none
  | 0, _ => rfl
  | m + 1, h => fst_step (fst_none (fun i hi => h i (by omega))) (h m (by omega))
theorem c238 {t : S2} {C Y : V2} {code : List Int} {a : Nat} (hC : CB C) (hY : YB C Y) (h9 : Y 512 0 ≤ 999) (h : MS C Y code 0 t) (ha : a < 10) (ha2 : (a : Int) < C 389 0) : ∃ t1, f238 a t = some (dryS C Y code a, t1) ∧ Ask t t1 := by
  have hh := hY.2.2.2.2.1
  have hcc := hC.1
  have q1 : t 1548 0 a = Y 515 a := (h.2.1.2.2.2.1 a ha ha2).2
  have e214 : f214 a t = some 1 := by rw [m214 hC h.1 (by unfold i32; omega), if_pos (by omega)]
  unfold f238
  rw [e214, cP_s, if_pos ne10, ld_t (by omega) (by omega), Int.toNat_natCast, q1]
  by_cases hn : Y 515 a = -1
  · rw [if_neg (fun q => q hn)]
    refine ⟨t, ?_, Ask.rf⟩
    have : fstD (fun n => dryB (passN C code n Y) a) = none := fst_none fun i hi => by
      unfold dryB
      rw [passN_515 ha, hn]
      simp
    unfold dryS
    rw [this]
  · rw [if_pos hn]
    obtain ⟨t1, a1, a2, a3, a4⟩ := m233 (t := t)
    have h1 : MS C Y code 0 t1 := h.fr a3 (fun f g1 g2 g3 g4 => pI_f.mpr (by omega))
    have hdry : ∀ n, dryB (passN C code n Y) a = decide (passN C code n Y 516 a = 0) := fun n => by
      unfold dryB
      rw [passN_515 ha]
      simp [hn]
    rw [a1, cP_s]
    have L : ∃ r, itr (fun (x5, x6, s7) => f238_a a x5 x6 s7) am_fu (-2, 0, t1) = some r ∧ r.1 = dryS C Y code a ∧ Fr pG t1 r.2 := by
      refine itr_inv (fun (i : Nat) (z : Int × Int × S2) => z.2.1 = i ∧ Fr pG t1 z.2.2 ∧ ((z.1 = -2 ∧ fstN (fun n => dryB (passN C code n Y) a) i = none ∧ MS C (passN C code i Y) code 0 z.2.2) ∨ (0 ≤ z.1 ∧ z.1 = dryS C Y code a))) (fun (r : Int × S2) => r.1 = dryS C Y code a ∧ Fr pG t1 r.2) 200 ?_ am_fu (fu_lt (by decide)) (-2, 0, t1) ⟨rfl, Fr.rf, Or.inl ⟨rfl, rfl, h1⟩⟩
      rintro i ⟨x, y, z⟩ hi ⟨g1, g2, g3⟩
      dsimp only at g1 g2 g3 ⊢
      subst g1
      rcases g3 with ⟨rfl, g4, g5⟩ | ⟨g4, g5⟩
      · by_cases e : i = 200
        · right
          subst e
          refine ⟨(-2, z), ?_, ?_, g2⟩
          · show f238_a a (-2) (200 : Nat) z = _
            unfold f238_a
            rw [if_pos (by omega)]
          · have g4' : fstD (fun n => dryB (passN C code n Y) a) = none := g4
            unfold dryS
            rw [g4']
        · left
          refine ⟨by omega, ?_⟩
          have w1 : z 1547 0 a = passN C code i Y 516 a := (g5.2.1.2.2.2.1 a ha ha2).1
          have w2 : z 1537 0 7 = passN C code i Y 512 0 := g5.2.1.1
          have hYi := passN_YB (code := code) (n := i) hC hY (by omega)
          obtain ⟨z', k1, k2, k3, -⟩ := m222 hC hYi g5
          have hst : ∀ x9, (cR (f222 z) fun r10 s11 => bnd (jadd (i : Int) 1) fun v12 => (some (.inl (x9, v12, s11)) : Option ((Int × Int × S2) ⊕ (Int × S2)))) = some (.inl (x9, ((i + 1 : Nat) : Int), z')) := fun x9 => by
            rw [k1, cR_s, bnd, jadd_e (by omega) (by omega)]
            rfl
          by_cases hd : passN C code i Y 516 a = 0
          · have hp := fst_at (p := fun n => dryB (passN C code n Y) a) (i := i) g4 (by rw [hdry]; exact decide_eq_true hd) (m := 200) (by omega)
            have hp' : fstD (fun n => dryB (passN C code n Y) a) = some i := hp
            have hdr : dryS C Y code a = passN C code i Y 512 0 := by
              unfold dryS
              rw [hp']
            refine ⟨(passN C code i Y 512 0, ((i + 1 : Nat) : Int), z'), ?_, rfl, g2.tr k3, Or.inr ⟨hYi.2.2.2.2.1.1, hdr.symm⟩⟩
            show f238_a a (-2) i z = _
            unfold f238_a
            rw [if_neg (by omega), if_neg (by decide), ld_t (by omega) (by omega), Int.toNat_natCast, w1, jn, if_neg (fun q => q hd), ld_t (by omega) (by omega), show z 1537 0 (Int.toNat 7) = _ from w2]
            exact hst _
          · refine ⟨(-2, ((i + 1 : Nat) : Int), z'), ?_, rfl, g2.tr k3, Or.inl ⟨rfl, fst_step g4 (by rw [hdry]; exact decide_eq_false hd), k2⟩⟩
            show f238_a a (-2) i z = _
            unfold f238_a
            rw [if_neg (by omega), if_neg (by decide), ld_t (by omega) (by omega), Int.toNat_natCast, w1, jn, if_pos hd]
            exact hst _
      · right
        refine ⟨(x, z), ?_, g5, g2⟩
        show f238_a a x i z = _
        unfold f238_a
        by_cases e : i = 200
        · rw [if_pos (by omega)]
        · rw [if_neg (by omega), if_pos (by omega)]
    obtain ⟨⟨r, t2⟩, b1, b2, b3⟩ := L
    dsimp only at b2 b3
    obtain ⟨t3, c1, c2, c3⟩ := m237 (a2.fr b3 (pG_f.mpr (by omega)))
    rw [b1, cP_s]
    refine ⟨t3, ?_, ((a3.mo fun f i q => pI_k q).tr (b3.mo fun f i q => pG_k q)).tr (c3.mo fun f i q => pJ_k q), c2, ?_, fun k hk => ?_⟩
    · show cP (f237 t2) _ = _
      rw [c1, cP_s, b2]
    · rw [c3 1589 0 (pJ_f.mpr (by omega)), b3 1589 0 (pG_f.mpr (by omega)), a3 1589 0 (pI_f.mpr (by omega))]
    · rw [c3 1606 0 (pJ_f.mpr (by omega)), b3 1606 0 (pG_f.mpr (by omega)), a4 k hk]
theorem call_dries {s : S2} {C Y : V2} {code : List Int} {a : Int} (h : Rel s C Y code) (ia : i32 a) : ∃ r s1 s2, f108 a s = some (r, s1) ∧ f238 a s1 = some (r, s2) ∧ Ask s s2 := by
  have hM := h.2.2.2.2.2.2.2
  have hC := h.2.2.1
  have hcc := hC.1
  obtain ⟨e1, e2, e3⟩ := cw0f h.1
  by_cases ha : 0 ≤ a ∧ a < C 389 0
  · obtain ⟨n, rfl⟩ := Int.eq_ofNat_of_zero_le ha.1
    obtain ⟨s1, k1, k2, k3⟩ := c108 h (a := n) (by omega) ha.2
    obtain ⟨s2, l1, l2⟩ := c238 hC h.2.2.2.1 h.2.2.2.2.1 (hM.cl k3) (a := n) (by omega) ha.2
    exact ⟨_, s1, s2, k1, l1, (Ask.cl k2 k3).tr l2⟩
  · refine ⟨-1, s, s, ?_, ?_, Ask.rf⟩
    · unfold f108
      rw [m49f (by omega), cP_s, if_neg (by decide)]
    · unfold f238
      rw [m214 hC hM.1 ia, if_neg ha, cP_s, if_neg (by decide)]
