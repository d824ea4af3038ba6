def pTt (f i : Nat) : Bool := pTc f i || pTm f i
theorem pTt_f {f i : Nat} : pTt f i = false ↔ ¬ ((f = 128 ∨ f = 129 ∨ f = 1579 ∨ f = 1569) ∧ i = 0) := by
  unfold pTt
  rw [Bool.or_eq_false_iff, pTc_f, pTm_f]
  omega
theorem TP.hs {s : S2} (h : TP s) : ∃ n bs, n ≤ 400 ∧ HC s bs n ∧ HMt s bs n := by
  obtain ⟨n, h1, h2, h3, h4⟩ := h
  refine ⟨n, fun k => (s 128 0 k).toNat, h1, ⟨h2, fun k hk => ?_⟩, ⟨h3, fun k hk => ?_⟩⟩
  · obtain ⟨b, b1, b2, b3⟩ := h4 k hk
    dsimp only
    rw [b2, Int.toNat_natCast]
    exact ⟨b1, rfl⟩
  · obtain ⟨b, b1, b2, b3⟩ := h4 k hk
    dsimp only
    rw [b2, Int.toNat_natCast]
    exact b3
theorem TP.of {s : S2} {n : Nat} {bs : Nat → Nat} (h : n ≤ 400) (h1 : HC s bs n) (h2 : HMt s bs n) : TP s := ⟨n, h, h1.1, h2.1, fun k hk => ⟨bs k, (h1.2 k hk).1, (h1.2 k hk).2, h2.2 k hk⟩⟩
theorem HC.fr {P : Nat → Nat → Bool} {s s' : S2} {n : Nat} {bs : Nat → Nat} (h : HC s bs n) (e : Fr P s s') (h1 : P 128 0 = false) (h2 : P 129 0 = false) : HC s' bs n := by
  unfold HC
  rw [e _ _ h1, e _ _ h2]
  exact h
theorem HMt.fr {P : Nat → Nat → Bool} {s s' : S2} {n : Nat} {bs : Nat → Nat} (h : HMt s bs n) (e : Fr P s s') (h1 : P 1579 0 = false) (h2 : P 1569 0 = false) : HMt s' bs n := by
  unfold HMt
  rw [e _ _ h1, e _ _ h2]
  exact h
theorem Inv.tape {s s2 : S2} (h : Inv s) (e : Fr pTt s s2) (ht : TP s2) : Inv s2 := by
  obtain ⟨R, K, b1, b2, b3, b4, b5, b6⟩ := h
  have el : live s2 = live s := live_e fun f k hr => by rw [e _ _ (pTt_f.mpr (by unfold jr at hr; omega))]
  have hw : ∀ w, WE s s2 w := fun w => e.we (fun f g1 g2 => pTt_f.mpr (by omega)) (fun f j g1 g2 g3 => pTt_f.mpr (by omega)) (fun f g1 g2 => pTt_f.mpr (by omega))
  exact ⟨R, K, b1.fr e (pTt_f.mpr (by omega)) (pTt_f.mpr (by omega)) (fun r hr => ⟨pTt_f.mpr (by omega), pTt_f.mpr (by omega)⟩) (fun f g1 g2 => pTt_f.mpr (by omega)), ht, by rw [el]; exact b3.we (hw 0), b4.fr (e _ _ (pTt_f.mpr (by omega))) (e _ _ (pTt_f.mpr (by omega))) (e _ _ (pTt_f.mpr (by omega))) (fun i hi => by rw [e _ _ (pTt_f.mpr (by omega))]) (fun w g1 g2 => hw w), b5.fr e (pTt_f.mpr (by omega)) (fun f g1 g2 => pTt_f.mpr (by omega)), by rw [e _ _ (pTt_f.mpr (by omega))]; exact b6⟩
theorem call_end {s : S2} {a : Int} (h : Inv s) : ∃ r s1 s2, f17 a s = some (r, s1) ∧ f158 a s1 = some (r, s2) ∧ Inv s2 := by
  have hTP : TP s := by obtain ⟨_, _, _, q, _⟩ := h; exact q
  obtain ⟨n, h1, h2, h3, h4⟩ := hTP
  by_cases ha : 0 ≤ a ∧ a ≤ n
  · obtain ⟨m, rfl⟩ := Int.eq_ofNat_of_zero_le ha.1
    refine ⟨m, st2 s 129 0 0 m, st2 (st2 s 129 0 0 m) 1569 0 0 m, ?_, ?_, h.tape ((Fr.rf.st rfl).st rfl) ⟨m, by omega, by rw [st2_ne (by omega), st2_eq], by rw [st2_eq], fun k hk => ?_⟩⟩
    · unfold f17
      rw [if_neg (by omega), bnd, h2, if_pos (by omega), bnd]
    · unfold f158
      rw [if_neg (by omega), bnd, st2_ne (f' := 1569) (by omega), h3, if_pos (by omega), bnd]
    · rw [st2_ne (by omega), st2_ne (by omega), st2_ne (by omega), st2_ne (by omega)]
      exact h4 k (by omega)
  · refine ⟨-1, s, s, ?_, ?_, h⟩
    · unfold f17
      by_cases q : a < 0
      · rw [if_pos q]
      · rw [if_neg q, bnd, h2, if_neg (by omega)]
    · unfold f158
      by_cases q : a < 0
      · rw [if_pos q]
      · rw [if_neg q, bnd, h3, if_neg (by omega)]
def apF (bs : Nat → Nat) (n : Nat) (a b c d e : Int) : Nat → Nat := apB (apB (apB (apB (apB bs n a) (n + 4) b) (n + 4 + 4) c) (n + 4 + 4 + 4) d) (n + 4 + 4 + 4 + 4) e
theorem c14 {s : S2} {bs : Nat → Nat} {n : Nat} {a b c d e : Int} (h : HC s bs n) (hn : n + 20 ≤ 400) : ∃ z, f14 a b c d e s = some (((n + 20 : Nat) : Int), z) ∧ HC z (apF bs n a b c d e) (n + 20) ∧ Fr pTc s z := by
  have j20 : jadd (n : Int) 20 = n + 20 := jadd_e (by omega) (by omega)
  obtain ⟨z1, k1, c1, f1⟩ := m16 (a := a) h (by omega)
  obtain ⟨z2, k2, c2, f2⟩ := m16 (a := b) c1 (by omega)
  obtain ⟨z3, k3, c3, f3⟩ := m16 (a := c) c2 (by omega)
  obtain ⟨z4, k4, c4, f4⟩ := m16 (a := d) c3 (by omega)
  obtain ⟨z5, k5, c5, f5⟩ := m16 (a := e) c4 (by omega)
  have e20 : n + 4 + 4 + 4 + 4 + 4 = n + 20 := by omega
  rw [e20] at c5
  refine ⟨z5, ?_, c5, (((f1.tr f2).tr f3).tr f4).tr f5⟩
  unfold f14 f15
  rw [h.1, bnd, j20, if_neg (by omega), cP_s, if_pos ne10, k1, cP_s, k2, cP_s, k3, cP_s, k4, cP_s, k5, cP_s, bnd, c5.1]
theorem c156 {s : S2} {bs : Nat → Nat} {n : Nat} {a b c d e : Int} (h : HMt s bs n) (hn : n + 20 ≤ 400) : ∃ z, f156 a b c d e s = some (((n + 20 : Nat) : Int), z) ∧ HMt z (apF bs n a b c d e) (n + 20) ∧ Fr pTm s z := by
  have j20 : jadd (n : Int) 20 = n + 20 := jadd_e (by omega) (by omega)
  obtain ⟨z1, k1, c1, f1⟩ := m157 (a := a) h (by omega)
  obtain ⟨z2, k2, c2, f2⟩ := m157 (a := b) c1 (by omega)
  obtain ⟨z3, k3, c3, f3⟩ := m157 (a := c) c2 (by omega)
  obtain ⟨z4, k4, c4, f4⟩ := m157 (a := d) c3 (by omega)
  obtain ⟨z5, k5, c5, f5⟩ := m157 (a := e) c4 (by omega)
  have e20 : n + 4 + 4 + 4 + 4 + 4 = n + 20 := by omega
  rw [e20] at c5
  refine ⟨z5, ?_, c5, (((f1.tr f2).tr f3).tr f4).tr f5⟩
  unfold f156
  rw [h.1, bnd, j20, if_pos (by omega), k1, cP_s, k2, cP_s, k3, cP_s, k4, cP_s, k5, cP_s, bnd, c5.1]
theorem call_feed {s : S2} {a b c d e : Int} (h : Inv s) : ∃ r s1 s2, f14 a b c d e s = some (r, s1) ∧ f156 a b c d e s1 = some (r, s2) ∧ Inv s2 := by
  have hTP : TP s := by obtain ⟨_, _, _, q, _⟩ := h; exact q
  obtain ⟨n, bs, h1, h2, h3⟩ := hTP.hs
  by_cases hn : n + 20 ≤ 400
  · obtain ⟨z, k1, k2, k3⟩ := c14 (a := a) (b := b) (c := c) (d := d) (e := e) h2 hn
    obtain ⟨y, l1, l2, l3⟩ := c156 (a := a) (b := b) (c := c) (d := d) (e := e) (h3.fr k3 (pTc_f.mpr (by omega)) (pTc_f.mpr (by omega))) hn
    refine ⟨_, z, y, k1, l1, h.tape ?_ (TP.of hn (k2.fr l3 (pTm_f.mpr (by omega)) (pTm_f.mpr (by omega))) l2)⟩
    exact (k3.mo fun f i w => pTc_f.mpr (by have := pTt_f.mp w; omega)).tr (l3.mo fun f i w => pTm_f.mpr (by have := pTt_f.mp w; omega))
  · have j20 : jadd (n : Int) 20 = n + 20 := jadd_e (by omega) (by omega)
    refine ⟨-1, s, s, ?_, ?_, h⟩
    · unfold f14 f15
      rw [h2.1, bnd, j20, if_pos (by omega), cP_s, if_neg (by decide)]
    · unfold f156
      rw [h3.1, bnd, j20, if_neg (by omega)]
