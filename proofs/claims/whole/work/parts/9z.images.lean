/-! IMAGE and BACK on both sides -/
theorem IW.cp {R : Nat} {s s' : S2} {a b : Nat} {J : V2} (h : IW R s b J) (e1 : cw s' a = cw s b) (e2 : ∀ j, j < 22 → yv s' (32 * a + j) = yv s (32 * b + j)) (e3 : uw s' a = uw s b) : IW R s' a J := by
  unfold IW
  rw [e1, e3, show yv s' (32 * a) = yv s (32 * b) from e2 0 (by omega), e2 1 (by omega), pv_ext (s := s) (s' := s') (a := a) (b := b) fun j hj => by rw [Nat.add_assoc, Nat.add_assoc]; exact e2 (2 + j) (by omega)]
  exact h
def pIg (w f i : Nat) : Bool := Nat.beq f 9999 || Nat.beq f 5 || (Nat.ble 384 f && Nat.ble f 511 && Nat.beq i w) || (Nat.ble 512 f && Nat.ble f 639 && Nat.beq (i / 32) w) || (Nat.ble 1024 f && Nat.ble f 1151 && Nat.beq i w) || Nat.beq f 1592 || Nat.beq f 1606 || Nat.beq f 1607 || Nat.beq f 1608 || Nat.beq f 1609
theorem pIg_f {w f i : Nat} : pIg w f i = false ↔ ¬ (f = 9999 ∨ f = 5 ∨ (384 ≤ f ∧ f ≤ 511 ∧ i = w) ∨ (512 ≤ f ∧ f ≤ 639 ∧ i / 32 = w) ∨ (1024 ≤ f ∧ f ≤ 1151 ∧ i = w) ∨ f = 1592 ∨ f = 1606 ∨ f = 1607 ∨ f = 1608 ∨ f = 1609) := by
  rw [← Bool.not_eq_true]
  unfold pIg
  simp only [Bool.or_eq_true, Bool.and_eq_true, Nat.beq_eq, Nat.ble_eq, or_assoc, and_assoc]
theorem Inv.imaged {s s2 : S2} {w a m2 : Nat} (h : Inv s) (ha : a < 4) (hw : 1 ≤ w ∧ w ≤ m2 ∧ m2 ≤ 4) (e : Fr (pIg w) s s2) (h9 : s2 9999 0 0 = m2) (hcnt : (m2 : Int) = cntB 4 (fun k => !decide (s2 5 0 k = 0))) (hm : s 9999 0 0 ≤ m2) (h5 : s2 5 0 a = w) (h5o : ∀ k, k < 4 → k ≠ a → s2 5 0 k = s 5 0 k ∧ s 5 0 k ≠ w) (h7 : s2 1607 0 a = 1) (h7o : ∀ k, k < 4 → k ≠ a → s2 1607 0 k = s 1607 0 k) (e1 : cw s2 w = cw s 0) (e2 : ∀ j, j < 22 → yv s2 (32 * w + j) = yv s (32 * 0 + j)) (e3 : uw s2 w = uw s 0) (hi : im s2 a = live s) (hio : ∀ q, (q < 1100 * a ∨ 1100 * a + 870 ≤ q) → s2 1606 0 q = s 1606 0 q) : Inv s2 := by
  obtain ⟨R, K, b1, b2, b3, b4, b5, b6⟩ := h
  have el : live s2 = live s := live_e fun f k hr => by rw [e _ _ (pIg_f.mpr (by unfold jr at hr; omega))]
  refine ⟨R, K, b1.fr e (pIg_f.mpr (by omega)) (pIg_f.mpr (by omega)) (fun r hr => ⟨pIg_f.mpr (by omega), pIg_f.mpr (by omega)⟩) (fun f g1 g2 => pIg_f.mpr (by omega)), b2.fr e (pIg_f.mpr (by omega)) (pIg_f.mpr (by omega)) (pIg_f.mpr (by omega)) (pIg_f.mpr (by omega)), ?_, ?_, b5.fr e (pIg_f.mpr (by omega)) (fun f g1 g2 => pIg_f.mpr (by omega)), by rw [e _ _ (pIg_f.mpr (by omega))]; exact b6⟩
  · rw [el]
    exact b3.we (e.we (fun f g1 g2 => pIg_f.mpr (by omega)) (fun f j g1 g2 g3 => pIg_f.mpr (by omega)) (fun f g1 g2 => pIg_f.mpr (by omega)))
  · obtain ⟨m, c1, c2, c3, c4⟩ := b4
    refine ⟨m2, h9, hcnt, fun k hk => ?_, fun k k' hk hk' g1 g2 => ?_⟩
    · by_cases q : k = a
      · subst q
        exact Or.inr ⟨w, hw.1, hw.2.1, h5, h7, by rw [hi]; exact b3.cp e1 e2 e3⟩
      · obtain ⟨d1, d2⟩ := h5o k hk q
        rw [d1, h7o k hk q]
        rcases c3 k hk with x | ⟨v, x1, x2, x3, x4, x5⟩
        · exact Or.inl x
        · refine Or.inr ⟨v, x1, by omega, x3, x4, ?_⟩
          have eim : im s2 k = im s k := nJ_ext fun f i hr => by
            have := offJ_bd hr
            exact hio _ (by omega)
          rw [eim]
          exact x5.we (e.we (fun f g1 g2 => pIg_f.mpr (by omega)) (fun f j g1 g2 g3 => pIg_f.mpr (by omega)) (fun f g1 g2 => pIg_f.mpr (by omega)))
    · by_cases q : k = a
      · by_cases q' : k' = a
        · rw [q, q']
        · exfalso
          obtain ⟨d1, d2⟩ := h5o k' hk' q'
          rw [q, h5, d1] at g2
          exact d2 g2.symm
      · obtain ⟨d1, d2⟩ := h5o k hk q
        by_cases q' : k' = a
        · exfalso
          rw [q', h5, d1] at g2
          exact d2 g2
        · obtain ⟨d1', d2'⟩ := h5o k' hk' q'
          rw [d1] at g1 g2
          rw [d1'] at g2
          exact c4 k k' hk hk' g1 g2
theorem cntB_0 {p : Nat → Bool} : cntB 0 p = 0 := rfl
theorem cnt4 {p q : Nat → Bool} {a : Nat} (ha : a < 4) (h1 : p a = false) (h2 : q a = true) (h3 : ∀ k, k < 4 → k ≠ a → q k = p k) : cntB 4 q = cntB 4 p + 1 ∧ cntB 4 p ≤ 3 := by
  have b2 := cntB_bd (p := p) (n := 3)
  have : a = 0 ∨ a = 1 ∨ a = 2 ∨ a = 3 := by omega
  simp only [cntB_s, cntB_0]
  rcases this with rfl | rfl | rfl | rfl
  · rw [h3 1 (by omega) (by omega), h3 2 (by omega) (by omega), h3 3 (by omega) (by omega), h1, h2]
    cases p 1 <;> cases p 2 <;> cases p 3 <;> decide
  · rw [h3 0 (by omega) (by omega), h3 2 (by omega) (by omega), h3 3 (by omega) (by omega), h1, h2]
    cases p 0 <;> cases p 2 <;> cases p 3 <;> decide
  · rw [h3 0 (by omega) (by omega), h3 1 (by omega) (by omega), h3 3 (by omega) (by omega), h1, h2]
    cases p 0 <;> cases p 1 <;> cases p 3 <;> decide
  · rw [h3 0 (by omega) (by omega), h3 1 (by omega) (by omega), h3 2 (by omega) (by omega), h1, h2]
    cases p 0 <;> cases p 1 <;> cases p 2 <;> decide
theorem nw2_o {s : S2} {m f i k : Nat} (h : s 9999 0 0 = m) (h2 : f ≠ 9999) (h3 : pIg (m + 1) f i = false) : nw2 s f i k = s f i k := by
  have h3 := pIg_f.mp h3
  unfold nw2
  rw [if_neg h2, if_neg ?_]
  rintro ⟨w1, w2, w3, w4, w5, w6⟩
  rw [h] at w6
  unfold am_ow at w6
  by_cases e : f / 128 = 4
  · rw [show Nat.beq (f / 128) 4 = true by rw [e]; rfl, cond_true] at w6
    omega
  · rw [show Nat.beq (f / 128) 4 = false from by rw [← Bool.not_eq_true, Nat.beq_eq]; exact e, cond_false] at w6
    omega
theorem nw2_p {s : S2} {i k : Nat} : nw2 s 9999 i k = s 9999 i k + 1 := by
  unfold nw2
  rw [if_pos rfl]
