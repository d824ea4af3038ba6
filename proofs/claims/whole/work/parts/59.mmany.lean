theorem m236 {C Y : V2} {code : List Int} {t : S2} {n : Nat} (hC : CB C) (hY : YB C Y) (h : MS C Y code 0 t) (hn : n ≤ 1000) (hh : Y 512 0 + n ≤ 5000) : ∃ t', f236 n t = some t' ∧ MS C (passN C code n Y) code 0 t' ∧ Fr pG t t' ∧ ∀ k, k ≠ 7 → t' 1537 0 k = t 1537 0 k := by
  unfold f236
  refine inv_cP (a := (0, t)) (P := fun e => ∃ t', e = some t' ∧ MS C (passN C code n Y) code 0 t' ∧ Fr pG t t' ∧ ∀ k, k ≠ 7 → t' 1537 0 k = t 1537 0 k) (fun (i : Nat) (z : Int × S2) => z.1 = i ∧ MS C (passN C code i Y) code 0 z.2 ∧ Fr pG t z.2 ∧ ∀ k, k ≠ 7 → z.2 1537 0 k = t 1537 0 k) (fun z => MS C (passN C code n Y) code 0 z ∧ Fr pG t z ∧ ∀ k, k ≠ 7 → z 1537 0 k = t 1537 0 k) n (by omega) ⟨rfl, h, Fr.rf, fun _ _ => rfl⟩ ?_ ?_
  · rintro i ⟨x, z⟩ hi ⟨g1, g2, hF, g3⟩
    dsimp only at g1 g2 hF g3 ⊢
    subst g1
    by_cases e : i = n
    · subst e
      refine Or.inr ⟨z, ?_, g2, hF, g3⟩
      show f236_a i i z = _
      unfold f236_a
      rw [if_pos (by omega)]
    · refine Or.inl ⟨by omega, ?_⟩
      obtain ⟨z', k1, k2, k3, k4⟩ := m222 hC (passN_YB hC hY (by omega)) g2
      refine ⟨(((i + 1 : Nat) : Int), z'), ?_, rfl, k2, hF.tr k3, fun k hk => (k4 k hk).trans (g3 k hk)⟩
      show f236_a n i z = _
      unfold f236_a
      rw [if_neg (by omega), k1, cR_s, bnd, jadd_e (by omega) (by omega)]
      rfl
  · rintro z ⟨g1, g2, g3⟩
    exact ⟨z, rfl, g1, g2, g3⟩
/-! is it there -/
theorem m198 {C : V2} {t : S2} {f : Int} (hC : CB C) (hR : CR C t) (hf : i32 f) : f198 f t = some (if 0 ≤ f ∧ f < C 387 0 then 1 else 0) := by
  have hcc := hC.1
  unfold i32 at hf
  unfold f198
  rw [ld_t (by omega) (by omega), show t 1537 0 (Int.toNat 2) = C 387 0 from hR.1.2.2.1, jsub_e (by omega) (by omega), ji2l_e (by omega) (by omega), ji2l_e (by omega) (by omega)]
  by_cases h : 0 ≤ f ∧ f < C 387 0
  · rw [m173t (by omega), cP_s, if_pos h]; rfl
  · rw [m173f (by omega), cP_s, if_neg h]; rfl
theorem m210 {C : V2} {t : S2} {f : Int} (hC : CB C) (hR : CR C t) (hf : i32 f) : f210 f t = some (if 0 ≤ f ∧ f < C 388 0 then 1 else 0) := by
  have hcc := hC.1
  unfold i32 at hf
  unfold f210
  rw [ld_t (by omega) (by omega), show t 1537 0 (Int.toNat 3) = C 388 0 from hR.1.2.2.2.1, jsub_e (by omega) (by omega), ji2l_e (by omega) (by omega), ji2l_e (by omega) (by omega)]
  by_cases h : 0 ≤ f ∧ f < C 388 0
  · rw [m173t (by omega), cP_s, if_pos h]; rfl
  · rw [m173f (by omega), cP_s, if_neg h]; rfl
theorem m214 {C : V2} {t : S2} {f : Int} (hC : CB C) (hR : CR C t) (hf : i32 f) : f214 f t = some (if 0 ≤ f ∧ f < C 389 0 then 1 else 0) := by
  have hcc := hC.1
  unfold i32 at hf
  unfold f214
  rw [ld_t (by omega) (by omega), show t 1537 0 (Int.toNat 4) = C 389 0 from hR.1.2.2.2.2.1, jsub_e (by omega) (by omega), ji2l_e (by omega) (by omega), ji2l_e (by omega) (by omega)]
  by_cases h : 0 ≤ f ∧ f < C 389 0
  · rw [m173t (by omega), cP_s, if_pos h]; rfl
  · rw [m173f (by omega), cP_s, if_neg h]; rfl
theorem m220 {C : V2} {t : S2} (hC : CB C) (hR : CR C t) : f220 t = some (C 384 0) := by
  have hss := hC.2.2.2.2.2.2.2
  unfold f220
  rw [ld_t (by omega) (by omega), show t 1537 0 (Int.toNat 0) = C 385 0 from hR.1.1]
  by_cases h : C 385 0 ≤ 0
  · rw [if_pos h, show C 384 0 = 0 by omega]
  · rw [if_neg h, show C 384 0 = 1 by omega]
/-! on a line, left on it -/
theorem m211 {C Y : V2} {t : S2} {l : Nat} (hC : CB C) (hY : YB C Y) (hR : CR C t) (hV : YR C Y t) (hl : l < 6) (hl2 : (l : Int) < C 388 0) : f211 l t = some (left C Y l) := by
  have hcc := hC.1
  have hb : ∀ i, i ≤ 10 → -10 ≤ lcl i C Y l ∧ lcl i C Y l ≤ 40 := fun i hi => lcl_bd hi hC.len
  have h9 := hC.2.2.2.1 l hl
  have hcut : lcl 10 C Y l = lcl (C 389 0).toNat C Y l := sumI_cut (by omega) (fun i h1 h2 => by
    have := hY.1 i h2
    rw [if_neg (by omega)])
  have hleft : left C Y l = C 393 l - lcl (C 389 0).toNat C Y l := by
    rw [← hcut]
    unfold left
    rw [if_pos (by omega), Int.toNat_natCast]
    rfl
  unfold f211
  rw [ld_t (by omega) (by omega), Int.toNat_natCast, (hR.2.1 l hl hl2).2.2.1]
  refine seq_cP (fun i => (C 393 l - lcl i C Y l, (i : Int))) (C 389 0).toNat (left C Y l) (by simp [lcl, sumI]) (by omega) ?_ ?_ rfl
  · intro i hi
    have h1 := hb i (by omega)
    have h2 := hC.len i (by omega)
    have h3 := hR.2.2.1 i (by omega) (by omega)
    have h4 := hV.2.2.2.1 i (by omega) (by omega)
    have hs : lcl (i + 1) C Y l = lcl i C Y l + if Y 515 i = l then C 396 i else 0 := rfl
    show f211_a l _ i t = _
    unfold f211_a
    rw [ld_t (by omega) (by omega), show t 1537 0 (Int.toNat 4) = C 389 0 from hR.1.2.2.2.2.1, if_neg (by omega), ld_t (by omega) (by omega), Int.toNat_natCast, h4.2, hs]
    by_cases h5 : Y 515 i = l
    · simp only [jn, h5, not_true_eq_false, if_false, if_true]
      rw [ld_t (by omega) (by omega), Int.toNat_natCast, h3.2.1, bnd, bnd, jadd_e (by omega) (by omega), jsub_e (by omega) (by omega), show C 393 l - (lcl i C Y l + C 396 i) = C 393 l - lcl i C Y l - C 396 i by omega]
      rfl
    · simp only [jn, h5, not_false_eq_true, if_false, if_true]
      rw [bnd, bnd, jadd_e (by omega) (by omega), jsub_e (by omega) (by omega), show C 393 l - (lcl i C Y l + 0) = C 393 l - lcl i C Y l - 0 by omega]
      rfl
  · show f211_a l _ ((C 389 0).toNat : Int) t = _
    unfold f211_a
    rw [ld_t (by omega) (by omega), show t 1537 0 (Int.toNat 4) = C 389 0 from hR.1.2.2.2.2.1, if_pos (by omega), hleft]
