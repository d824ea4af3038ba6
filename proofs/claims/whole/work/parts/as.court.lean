/-! COURT in the class -/
def clC (C : V2) : V2 := nC (fun f k => if f ≤ 390 then 0 else C f k)
theorem clC_z {C : V2} {f : Nat} (h1 : 384 ≤ f) (h2 : f ≤ 390) : clC C f 0 = 0 := by
  unfold clC
  rw [nC_t (Or.inl ⟨h1, h2, rfl⟩), if_pos h2]
theorem clC_o {C : V2} {f k : Nat} (h : cr f k) (h1 : 391 ≤ f) : clC C f k = C f k := by
  unfold clC
  rw [nC_t h, if_neg (by omega)]
theorem m20 {s : S2} : ∃ s', f20 5 s = some s' ∧ cw s' 5 = clC (cw s 5) ∧ yv s' 161 = Y0 ∧ Fr pDr s s' := by
  unfold f20
  simp only [bnd]
  generalize hS : st2 (st2 (st2 (st2 (st2 (st2 (st2 s 384 5 0 0) 385 5 0 0) 386 5 0 0) 387 5 0 0) 388 5 0 0) 389 5 0 0) 390 5 0 0 = S
  obtain ⟨s', a1, a2, a3⟩ := m5 (a := 161) (s := S)
  have hF : Fr pDr s S := by
    rw [← hS]
    exact (((((((Fr.rf.st (pDr_t (by omega))).st (pDr_t (by omega))).st (pDr_t (by omega))).st (pDr_t (by omega))).st (pDr_t (by omega))).st (pDr_t (by omega))).st (pDr_t (by omega)))
  refine ⟨s', ?_, ?_, a2, hF.tr (a3.mo fun f i h => pY_f.mpr (by have := pDr_f.mp h; omega))⟩
  · show cP (f5 161 S) _ = _
    rw [a1, cP_s]
  · rw [a3.cw fun f g1 g2 => pY_f.mpr (by omega)]
    refine nC_ext fun f k hr => ?_
    show S f 5 k = if f ≤ 390 then 0 else cw s 5 f k
    rw [cw_t hr, ← hS]
    by_cases q : f ≤ 390
    · have hk : k = 0 := by unfold cr at hr; omega
      subst hk
      rw [if_pos q]
      have h4 : 384 ≤ f := by unfold cr at hr; omega
      simp only [st2_d]
      have : f = 384 ∨ f = 385 ∨ f = 386 ∨ f = 387 ∨ f = 388 ∨ f = 389 ∨ f = 390 := by omega
      rcases this with rfl | rfl | rfl | rfl | rfl | rfl | rfl <;> simp
    · rw [if_neg q, st2_ne (by omega), st2_ne (by omega), st2_ne (by omega), st2_ne (by omega), st2_ne (by omega), st2_ne (by omega), st2_ne (by omega)]
theorem Y0_e {f k : Nat} (h : yr f k) : Y0 f k = if f = 513 ∨ f = 515 then -1 else 0 := nY_t h
theorem clC_CB {C : V2} (h : CS C) : CB (clC C) := by
  obtain ⟨h1, h2, h3⟩ := h
  have z : ∀ f, 384 ≤ f → f ≤ 390 → clC C f 0 = 0 := fun f g1 g2 => clC_z g1 g2
  refine ⟨?_, fun n hn => ?_, fun n hn w => ?_, fun l hl => ?_, fun l hl w => ?_, fun r hr => ?_, fun r hr w => ?_, Or.inl (z _ (by omega) (by omega)), ?_, ?_, ?_, ?_, fun w => ?_, fun w => ?_⟩
  · rw [z 387 (by omega) (by omega), z 388 (by omega) (by omega), z 389 (by omega) (by omega), z 390 (by omega) (by omega)]; omega
  · rw [clC_o (by unfold cr; omega) (by omega), clC_o (by unfold cr; omega) (by omega), clC_o (by unfold cr; omega) (by omega)]; exact h1 n hn
  · rw [z 389 (by omega) (by omega)] at w; omega
  · rw [clC_o (by unfold cr; omega) (by omega), clC_o (by unfold cr; omega) (by omega), clC_o (by unfold cr; omega) (by omega), clC_o (by unfold cr; omega) (by omega)]; exact h2 l hl
  · rw [z 388 (by omega) (by omega)] at w; omega
  · rw [clC_o (by unfold cr; omega) (by omega), clC_o (by unfold cr; omega) (by omega)]; exact h3 r hr
  · rw [z 390 (by omega) (by omega)] at w; omega
  · rw [z 385 (by omega) (by omega)]; omega
  · rw [z 385 (by omega) (by omega)]; omega
  · rw [z 386 (by omega) (by omega)]; omega
  · rw [z 386 (by omega) (by omega)]; omega
  · rw [z 384 (by omega) (by omega)] at w; omega
  · rw [z 385 (by omega) (by omega), z 387 (by omega) (by omega), z 388 (by omega) (by omega), z 389 (by omega) (by omega), z 390 (by omega) (by omega)]; omega
theorem clC_BD {C : V2} : BD (clC C) Y0 := by
  have e3 : ∀ l, l < 6 → Y0 513 l = -1 := fun l hl => by rw [Y0_e (yr513 hl), if_pos (Or.inl rfl)]
  have e4 : ∀ l, l < 6 → Y0 514 l = 0 := fun l hl => by rw [Y0_e (yr514 hl), if_neg (by omega)]
  have e5 : ∀ l, l < 10 → Y0 515 l = -1 := fun l hl => by rw [Y0_e (yr515 hl), if_pos (Or.inr rfl)]
  have e6 : ∀ l, l < 10 → Y0 516 l = 0 := fun l hl => by rw [Y0_e (yr516 hl), if_neg (by omega)]
  have e8 : ∀ l, l < 4 → Y0 518 l = 0 := fun l hl => by rw [Y0_e (yr518 hl), if_neg (by omega)]
  have e2 : Y0 512 0 = 0 := by rw [Y0_e yr512, if_neg (by omega)]
  refine ⟨⟨fun n hn => Or.inl (e5 n hn), fun n hn => by rw [e6 n hn]; omega, fun l hl => Or.inl (e4 l hl), fun l hl => Or.inl (e3 l hl), by rw [e2]; omega, fun f hf => by rw [e8 f hf, e2]; omega⟩, e2, fun l hl => ⟨e3 l hl, e4 l hl⟩, e8, fun n hn w => ?_⟩
  rw [clC_z (by omega) (by omega)] at w
  omega
theorem m19 {s : S2} {n : Nat} {bs : Nat → Nat} (h : HC s bs n) (hn : n ≤ 400) (hS : CS (cw s 5)) : ∃ r s', f19 s = some (r, s') ∧ Fr pDr s s' ∧ ((r = 0 ∧ clN n bs 41 0 (sk n bs 0) (clC (cw s 5)) Y0 = .inr (cw s' 5, yv s' 161) ∧ CB (cw s' 5) ∧ BD (cw s' 5) (yv s' 161)) ∨ (0 < r ∧ clN n bs 41 0 (sk n bs 0) (clC (cw s 5)) Y0 = .inl r ∧ CS (cw s' 5))) := by
  obtain ⟨s1, a1, a2, a3, a4⟩ := m20 (s := s)
  have h1 : HC s1 bs n := ⟨by rw [a4 _ _ (pDr_f.mpr (by omega))]; exact h.1, fun k hk => by rw [a4 _ _ (pDr_f.mpr (by omega))]; exact h.2 k hk⟩
  obtain ⟨s2, m, b1, b2, b3, b4, b5⟩ := m21 h1 hn
  have hc : cw s2 5 = clC (cw s 5) := by rw [b5.cw fun f g1 g2 => pTk_f.mpr (by omega), a2]
  have hy : yv s2 161 = Y0 := by rw [b5.yv fun f g1 g2 => pTk_f.mpr (by omega), a3]
  have hA : CAt s2 n bs m (sk n bs 0) := ⟨⟨0, ⟨b2, b3, by omega⟩, rfl⟩, b4, fun k hk => (h.2 k hk).1, hn⟩
  have hF : Fr pDr s s2 := a4.tr (b5.mo fun f i w => pTk_f.mpr (by have := pDr_f.mp w; omega))
  obtain ⟨r, c1, c2⟩ := m19l hA (by rw [hc]; exact clC_CB hS) (by rw [hc, hy]; exact clC_BD)
  rw [hc, hy] at c2
  unfold f19
  rw [a1, cP_s, b1, cP_s, c1, cP_s]
  rcases c2 with ⟨z, rfl, d2, d3, d4, d5⟩ | ⟨z, e, rfl, d2, d3, d4, d5⟩
  · exact ⟨0, z, rfl, hF.tr d5, Or.inl ⟨rfl, d2, d3, d4⟩⟩
  · refine ⟨e, z, ?_, hF.tr d5, Or.inr ⟨d3.2.2.1, d2, d4⟩⟩
    show bnd (z 135 0 0) (fun v20 => some (v20, z)) = _
    rw [bnd, d3.2.1]
def pCt (f i : Nat) : Bool := (Nat.ble 129 f && Nat.ble f 135 && Nat.beq i 0) || (Nat.ble 384 f && Nat.ble f 399 && (Nat.beq i 5 || Nat.beq i 0)) || (Nat.ble 512 f && Nat.ble f 518 && (Nat.beq i 161 || Nat.ble i 1)) || ((Nat.beq f 1028 || Nat.beq f 1032) && Nat.beq i 0)
theorem pCt_f {f i : Nat} : pCt f i = false ↔ ¬ ((129 ≤ f ∧ f ≤ 135 ∧ i = 0) ∨ (384 ≤ f ∧ f ≤ 399 ∧ (i = 5 ∨ i = 0)) ∨ (512 ≤ f ∧ f ≤ 518 ∧ (i = 161 ∨ i ≤ 1)) ∨ ((f = 1028 ∨ f = 1032) ∧ i = 0)) := by
  rw [← Bool.not_eq_true]
  unfold pCt
  simp only [Bool.or_eq_true, Bool.and_eq_true, Nat.beq_eq, Nat.ble_eq, or_assoc, and_assoc]
theorem m18 {s : S2} {n : Nat} {bs : Nat → Nat} (h : HC s bs n) (hn : n ≤ 400) (hS : CS (cw s 5)) : ∃ r s', f18 s = some (r, s') ∧ Fr pCt s s' ∧ s' 129 0 0 = 0 ∧ CS (cw s' 5) ∧ ((∃ C B, clN n bs 41 0 (sk n bs 0) (clC (cw s 5)) Y0 = .inr (C, B) ∧ r = C 388 0 ∧ CB C ∧ BD C B ∧ cw s' 0 = C ∧ yv s' 0 = B ∧ yv s' 1 = B ∧ s' 1028 0 0 = 0 ∧ s' 1032 0 0 = 0) ∨ (∃ e, 0 < e ∧ clN n bs 41 0 (sk n bs 0) (clC (cw s 5)) Y0 = .inl e ∧ r = jsub (-2) e ∧ Fr (fun f i => (Nat.beq f 129 && Nat.beq i 0) || pDr f i) s s')) := by
  obtain ⟨r, s1, a1, a2, a3⟩ := m19 h hn hS
  have hm : Fr pCt s s1 := a2.mo fun f i w => pDr_f.mpr (by have := pCt_f.mp w; omega)
  have f9 : ∀ {g o : Nat}, Fr pCt s1 (st2 s1 129 0 0 0) := fun {g o} => fr_one.mo fun f i w => one_f (by have := pCt_f.mp w; omega)
  unfold f18
  rw [a1, cR_s, bnd]
  rcases a3 with ⟨rfl, b2, b3, b4⟩ | ⟨b1, b2, b3⟩
  · rw [if_pos rfl]
    have hc : cw (st2 s1 129 0 0 0) 5 = cw s1 5 := fr_one.cw fun f g1 g2 => one_f (by omega)
    have hy : yv (st2 s1 129 0 0 0) 161 = yv s1 161 := fr_one.yv fun f g1 g2 => one_f (by omega)
    have ht : st2 s1 129 0 0 0 384 5 0 = 0 ∨ st2 s1 129 0 0 0 384 5 0 = 1 := by
      have := b3.2.2.2.2.2.2.2.1
      rw [cw0 (by omega) (by omega)] at this
      rw [st2_ne (by omega)]
      exact this
    obtain ⟨s2, c1, c2, c3, c4⟩ := m57 (a := 0) (b := 5) (by omega) ht
    rw [hc] at c2
    obtain ⟨s3, d1, d2, d3⟩ := m58 (a := 0) (b := 161) (s := s2)
    have e3 : yv s2 1 = yv s1 161 := by
      have : yv s2 1 = yv (st2 s1 129 0 0 0) 161 := c3
      rw [this, hy]
    have hF4 : Fr pCt s1 s3 := (f9 (g := 0) (o := 0)).tr ((c4.mo fun f i w => pC_f.mpr ⟨by have := pCt_f.mp w; omega, pY_f.mpr (by have := pCt_f.mp w; omega)⟩).tr (d3.mo fun f i w => pY_f.mpr (by have := pCt_f.mp w; omega)))
    have hF5 : Fr pCt s3 (st2 (st2 s3 1028 0 0 0) 1032 0 0 0) := (fr_one.mo fun f i w => one_f (by have := pCt_f.mp w; omega)).tr (fr_one.mo fun f i w => one_f (by have := pCt_f.mp w; omega))
    have w5 : ∀ (S : S2), cw (st2 (st2 S 1028 0 0 0) 1032 0 0 0) 0 = cw S 0 ∧ cw (st2 (st2 S 1028 0 0 0) 1032 0 0 0) 5 = cw S 5 ∧ ∀ y, yv (st2 (st2 S 1028 0 0 0) 1032 0 0 0) y = yv S y := fun S => ⟨by rw [fr_one.cw fun f g1 g2 => one_f (by omega), fr_one.cw fun f g1 g2 => one_f (by omega)], by rw [fr_one.cw fun f g1 g2 => one_f (by omega), fr_one.cw fun f g1 g2 => one_f (by omega)], fun y => by rw [fr_one.yv fun f g1 g2 => one_f (by omega), fr_one.yv fun f g1 g2 => one_f (by omega)]⟩
    have k0 : cw s3 0 = cw s1 5 := by rw [d3.cw fun f g1 g2 => pY_f.mpr (by omega), c2]
    have k5 : cw s3 5 = cw s1 5 := by rw [d3.cw fun f g1 g2 => pY_f.mpr (by omega), c4.cw fun f g1 g2 => pC_f.mpr ⟨by omega, pY_f.mpr (by omega)⟩, hc]
    have y1 : yv s3 1 = yv s1 161 := by rw [d3.yv fun f g1 g2 => pY_f.mpr (by omega), e3]
    refine ⟨_, _, ?_, hm.tr (hF4.tr hF5), ?_, ?_, Or.inl ⟨cw s1 5, yv s1 161, b2, rfl, b3, b4, ?_, ?_, ?_, ?_, ?_⟩⟩
    · unfold f56
      rw [c1, cP_s]
      rw [show 32 * 0 + 0 = 0 from rfl, show 32 * 5 + 1 = 161 from rfl, d1, cP_s, bnd, bnd, cP_s, bnd]
      have e8 : st2 (st2 s3 1028 0 0 0) 1032 0 0 0 388 0 0 = cw s1 5 388 0 := by rw [← k0, cw0 (by omega) (by omega), st2_ne (by omega), st2_ne (by omega)]
      rw [e8]
    · rw [st2_ne (by omega), st2_ne (by omega), d3 _ _ (pY_f.mpr (by omega)), c4 _ _ (pC_f.mpr ⟨by omega, pY_f.mpr (by omega)⟩), st2_eq]
    · rw [(w5 s3).2.1, k5]; exact b3.cs
    · rw [(w5 s3).1, k0]
    · rw [(w5 s3).2.2, d2, c4.yv fun f g1 g2 => pC_f.mpr ⟨by omega, pY_f.mpr (by omega)⟩, hy]
    · rw [(w5 s3).2.2, y1]
    · rw [st2_ne (by omega), st2_eq]
    · rw [st2_eq]
  · rw [if_neg (by omega)]
    refine ⟨_, _, rfl, hm.tr (f9 (g := 0) (o := 0)), st2_eq, ?_, Or.inr ⟨r, b1, b2, rfl, ?_⟩⟩
    · rw [show cw (st2 s1 129 0 0 0) 5 = cw s1 5 from fr_one.cw fun f g1 g2 => one_f (by omega)]
      exact b3
    · exact (a2.mo fun f i w => (Bool.or_eq_false_iff.mp w).2).tr (fr_one.mo fun f i w => (Bool.or_eq_false_iff.mp w).1)
