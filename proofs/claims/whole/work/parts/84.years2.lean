/-- all years, the class -/
theorem c148a {s : S2} {C Y : V2} {code : List Int} {m n : Nat} {x p : Int} (h : Rel s C Y code) (hm : m ≤ 10) (hn : n ≤ 60) (h0 : 0 ≤ x) (h1 : x < 2147483648) (hp : 0 ≤ p ∧ p ≤ 100) : ∃ s1, itr (fun (x9, x10, x11, x12, s13) => f148_a m n p x9 x10 x11 x12 s13) am_fu (x, 0, 0, 0, s) = some (gY C Y code p n x m, dYr C Y code p n x m, s1) ∧ Fr pAk s s1 ∧ Fr pCl s s1 := by
  have hC := h.2.2.1
  have hY := h.2.2.2.1
  have h9 := h.2.2.2.2.1
  refine Exists.elim (itr_inv (b := fun (x9, x10, x11, x12, s13) => f148_a m n p x9 x10 x11 x12 s13) (fun (i : Nat) (z : Int × Int × Int × Int × S2) => z.1 = xY n i x ∧ z.2.1 = gY C Y code p n x i ∧ z.2.2.1 = dYr C Y code p n x i ∧ z.2.2.2.1 = i ∧ Fr pAk s z.2.2.2.2 ∧ Fr pCl s z.2.2.2.2) (fun (z : Int × Int × S2) => z.1 = gY C Y code p n x m ∧ z.2.1 = dYr C Y code p n x m ∧ Fr pAk s z.2.2 ∧ Fr pCl s z.2.2) m ?_ am_fu (fu_lt (by omega)) (x, 0, 0, 0, s) ⟨rfl, rfl, rfl, rfl, Fr.rf, Fr.rf⟩) ?_
  rotate_left
  · rintro ⟨a, b, s1⟩ ⟨hr, q1, q2, q3, q4⟩
    dsimp only at q1 q2 q3 q4
    subst q1 q2
    exact ⟨s1, hr, q3, q4⟩
  · rintro i ⟨y, u, v, w, z⟩ hi ⟨g1, g2, g3, g4, g5, g6⟩
    dsimp only at g1 g2 g3 g4 g5 g6 ⊢
    subst g1 g2 g3 g4
    by_cases e : i = m
    · subst e
      refine Or.inr ⟨(gY C Y code p n x i, dYr C Y code p n x i, z), ?_, rfl, rfl, g5, g6⟩
      show f148_a i n p _ _ _ _ z = _
      unfold f148_a
      rw [if_pos (by omega)]
    · refine Or.inl ⟨by omega, ?_⟩
      have hRz := h.ask (Ask.cl g5 g6)
      obtain ⟨z1, a1, a2, a3, a4⟩ := hRz.start
      have hx := xY_bd (n := n) h0 h1 (i := i)
      have hgb := gY_bd (Y := Y) (code := code) (p := p) (x := x) hC hn (i := i)
      have hdb := dYr_bd (C := C) (Y := Y) (code := code) (p := p) (x := x) (n := n) (i := i)
      have hcb := cntB_bd (p := dryB (yN C code p n (xY n i x) Y)) (n := 10)
      obtain ⟨z2, b1, b2, b3⟩ := c148b (n := n) (x := xY n i x) (g := gY C Y code p n x i) (p := p) a2 a3 hY h9 hn hx.1 hx.2 (by omega) hp
      refine ⟨(xY n (i + 1) x, gY C Y code p n x (i + 1), dYr C Y code p n x (i + 1), ((i + 1 : Nat) : Int), z2), ?_, rfl, rfl, rfl, rfl, (g5.tr (a4.mo fun f i q => pS_k q)).tr (b3.mo fun f i q => pP_k q), (g6.tr (a4.mo fun f i q => pS_cl q)).tr (b3.mo fun f i q => pP_cl q)⟩
      show f148_a m n p _ _ _ _ z = _
      unfold f148_a
      rw [if_neg (by omega), a1, cP_s, b1, cP_s]
      show cP (f149 z2) _ = _
      rw [m149, b2, cP_s, bnd, bnd, jadd_e (by omega) (by omega), jadd_e (by omega) (by omega)]
      rfl
theorem c265a {t t1 : S2} {C Y : V2} {code : List Int} {m n : Nat} {x p : Int} (hC : CB C) (hY : YB C Y) (h9 : Y 512 0 ≤ 999) (hM : MS C Y code 0 t) (hk : AK t t1) (hm : m ≤ 10) (hn : n ≤ 60) (h0 : 0 ≤ x) (h1 : x < 2147483648) (hp : 0 ≤ p ∧ p ≤ 100) : ∃ t2, itr (fun (x13, x14, x15, x16, s17) => f265_a m n p x13 x14 x15 x16 s17) am_fu (x, 0, 0, 0, t1) = some (gY C Y code p n x m, dYr C Y code p n x m, t2) ∧ AK t t2 := by
  refine Exists.elim (itr_inv (b := fun (x13, x14, x15, x16, s17) => f265_a m n p x13 x14 x15 x16 s17) (fun (i : Nat) (z : Int × Int × Int × Int × S2) => z.1 = xY n i x ∧ z.2.1 = gY C Y code p n x i ∧ z.2.2.1 = dYr C Y code p n x i ∧ z.2.2.2.1 = i ∧ AK t z.2.2.2.2) (fun (z : Int × Int × S2) => z.1 = gY C Y code p n x m ∧ z.2.1 = dYr C Y code p n x m ∧ AK t z.2.2) m ?_ am_fu (fu_lt (by omega)) (x, 0, 0, 0, t1) ⟨rfl, rfl, rfl, rfl, hk⟩) ?_
  rotate_left
  · rintro ⟨a, b, s1⟩ ⟨hr, q1, q2, q3⟩
    dsimp only at q1 q2 q3
    subst q1 q2
    exact ⟨s1, hr, q3⟩
  · rintro i ⟨y, u, v, w, z⟩ hi ⟨g1, g2, g3, g4, g5⟩
    dsimp only at g1 g2 g3 g4 g5 ⊢
    subst g1 g2 g3 g4
    by_cases e : i = m
    · subst e
      refine Or.inr ⟨(gY C Y code p n x i, dYr C Y code p n x i, z), ?_, rfl, rfl, g5⟩
      show f265_a i n p _ _ _ _ z = _
      unfold f265_a
      rw [if_pos (by omega)]
    · refine Or.inl ⟨by omega, ?_⟩
      have hMz := (g5.ms hM hC).set9 (x := xY n i x)
      have hx := xY_bd (n := n) h0 h1 (i := i)
      have hgb := gY_bd (Y := Y) (code := code) (p := p) (x := x) hC hn (i := i)
      have hdb := dYr_bd (C := C) (Y := Y) (code := code) (p := p) (x := x) (n := n) (i := i)
      have hcb := cntB_bd (p := dryB (yN C code p n (xY n i x) Y)) (n := 10)
      have f1 : Fr pGd z (st2 z 1537 0 9 (xY n i x)) := Fr.rf.st rfl
      obtain ⟨z2, d2, b1, b2, b3, b4⟩ := c265b (n := n) (x := xY n i x) (g := gY C Y code p n x i) (p := p) hC hY hMz h9 hn st2_eq hx.1 hx.2 (by omega) hp
      have hM0 := b2.setd (d' := 0) (Or.inl rfl)
      have f3 : Fr pGd z (st2 z2 1589 0 0 0) := (f1.tr b4).st rfl
      have v42 : st2 z2 1589 0 0 0 1537 0 9 = xN n (xY n i x) := by rw [st2_ne (by omega)]; exact b3
      obtain ⟨z3, c1, c2⟩ := g5.back (f3.mo fun f i q => pGd_f.mpr (by have := pAk_f.mp q; omega)) (f3 _ _ (pGd_f.mpr (by omega))) (by rw [st2_eq]; exact hM.2.2.2.1.symm)
      refine ⟨(xY n (i + 1) x, gY C Y code p n x (i + 1), dYr C Y code p n x (i + 1), ((i + 1 : Nat) : Int), z3), ?_, rfl, rfl, rfl, rfl, c2⟩
      show f265_a m n p _ _ _ _ z = _
      unfold f265_a
      rw [if_neg (by omega), sto_t (by omega) (by omega), show Int.toNat 9 = 9 from rfl, b1, cP_s]
      show bnd (st2 z2 1589 0 0 0) _ = _
      rw [bnd, m267 hC (yN_YB hC hY (by omega)) hM0.1 hM0.2.1, cP_s, bnd, ld_t (by omega) (by omega), show st2 z2 1589 0 0 0 1537 0 (Int.toNat 9) = xN n (xY n i x) from v42, c1, cP_s, bnd, jadd_e (by omega) (by omega), jadd_e (by omega) (by omega)]
      rfl
theorem Ask.st9 {t z : S2} (h : Ask t z) : Ask t (st2 z 1537 0 9 (t 1537 0 9)) := by
  obtain ⟨a1, ⟨b1, b2, b3, b4, b5, b6⟩, a3, a4⟩ := h
  have e : ∀ f, f ≠ 1537 → st2 z 1537 0 9 (t 1537 0 9) f 0 = z f 0 := fun f hf => st2_row (by omega)
  refine ⟨a1.st (by decide), ⟨fun k hk => ?_, ?_, ?_, ?_, ?_, ?_⟩, by rw [e _ (by omega)]; exact a3, fun k hk => by rw [e _ (by omega)]; exact a4 k hk⟩
  · rw [st2_d]
    by_cases q : k = 9
    · rw [if_pos ⟨rfl, rfl, q⟩, q]
    · rw [if_neg (by omega)]
      exact b1 k hk
  all_goals rw [e _ (by omega)]; assumption
def yearsP (m n p w : Int) : Prop := (1 ≤ m ∧ m ≤ 10) ∧ (1 ≤ n ∧ n ≤ 60) ∧ (0 ≤ p ∧ p ≤ 100) ∧ (0 ≤ w ∧ w ≤ 1)
theorem call_years {s : S2} {a b c d : Int} (h : Inv s) (ia : i32 a) (ib : i32 b) (ic : i32 c) (id : i32 d) : ∃ r s1 s2, f148 a b c d s = some (r, s1) ∧ f265 a b c d s1 = some (r, s2) ∧ Ask s s2 := by
  obtain ⟨R, K, hB, hW, hR⟩ := h.rel
  have hM := hR.2.2.2.2.2.2.2
  have hC := hR.2.2.1
  have hY := hR.2.2.2.1
  have h9 := hR.2.2.2.2.1
  have hss := hC.2.2.2.2.2.2.2.1
  have e4 : s 384 0 0 = cw s 0 384 0 := (cw0 (by omega) (by omega)).symm
  have ja : ji2l a = a := by unfold i32 at ia; exact ji2l_e (by omega) (by omega)
  have jb : ji2l b = b := by unfold i32 at ib; exact ji2l_e (by omega) (by omega)
  have jc : ji2l c = c := by unfold i32 at ic; exact ji2l_e (by omega) (by omega)
  have jd : ji2l d = d := by unfold i32 at id; exact ji2l_e (by omega) (by omega)
  by_cases h0 : cw s 0 384 0 = 0
  · refine ⟨-1, s, s, ?_, ?_, Ask.rf⟩
    · unfold f148
      simp only [jn, bnd, e4, h0, if_true]
      grind
    · unfold f265
      rw [m220 hC hM.1, cP_s, if_pos h0]
  by_cases hp : yearsP a b c d
  · obtain ⟨ha, hb, hc, hd⟩ := hp
    obtain ⟨m, rfl⟩ := Int.eq_ofNat_of_zero_le (show 0 ≤ a by omega)
    obtain ⟨n, rfl⟩ := Int.eq_ofNat_of_zero_le (show 0 ≤ b by omega)
    obtain ⟨-, -, -, -, w1, w2, w3, w4, w5, w6⟩ := hW
    rw [uw1 (by omega)] at w4 w5 w6
    rw [live_t (by unfold jr; omega)] at w4
    obtain ⟨s1, k1, k2, k3⟩ := c148a (m := m) (n := n) (x := s 1034 0 0) (p := c) hR (by omega) (by omega) w5 w6 hc
    have hM1 := hM.cl k3
    have x1 : s1 1537 0 9 = s 1034 0 0 := by rw [k3 _ _ (pCl_f.mpr (by omega)), w4]
    obtain ⟨t1, l1, l2⟩ := AK.keep (t := s1)
    obtain ⟨t2, l3, l4⟩ := c265a (m := m) (n := n) (x := s 1034 0 0) (p := c) hC hY h9 hM1 l2 (by omega) (by omega) w5 w6 hc
    have jx : ji2l (s 1034 0 0) = s 1034 0 0 := ji2l_e (by omega) (by omega)
    have l5 := l4.1.st9
    rw [x1] at l5
    refine ⟨if ¬ d = 0 then dYr (cw s 0) (yv s 0) (lawK K (s 1033 0 0)) c n (s 1034 0 0) m else gY (cw s 0) (yv s 0) (lawK K (s 1033 0 0)) c n (s 1034 0 0) m, s1, st2 t2 1537 0 9 (s 1034 0 0), ?_, ?_, (Ask.cl k2 k3).tr l5⟩
    · unfold f148
      simp only [jn]
      rw [if_neg (by omega), if_neg (by omega), if_neg (by omega), if_neg (by omega), if_neg (by omega), if_neg (by omega), if_neg (by omega), if_neg (by omega), bnd, e4, if_neg h0, if_pos ne10, bnd, bnd, jx, k1, cP_s]
      show (if ¬ d = 0 then _ else _) = _
      by_cases q : d = 0
      · rw [if_neg (fun p => p q), if_neg (fun p => p q)]
      · rw [if_pos q, if_pos q]
    · unfold f265
      rw [m220 hC hM1.1, cP_s, if_neg h0, ja, m173t ha, cP_s, if_neg ne10, jb, m173t hb, cP_s, if_neg ne10, jc, m173t hc, cP_s, if_neg ne10, jd, m173t hd, cP_s, if_pos ne10, ld_t (by omega) (by omega), show s1 1537 0 (Int.toNat 9) = s 1034 0 0 from x1, l1, cP_s, l3, cP_s]
      show (sto t2 1537 0 11 9 (s 1034 0 0) fun s48 => _) = _
      rw [sto_t (by omega) (by omega)]
      by_cases q : d = 0
      · rw [if_neg (fun p => p q), if_neg (fun p => p q)]
        rfl
      · rw [if_pos q, if_pos q]
        rfl
  · refine ⟨-1, s, s, ?_, ?_, Ask.rf⟩
    · unfold yearsP at hp
      unfold f148
      simp only [jn, bnd, e4, if_neg h0]
      have e10 : ((1 : Int) = 0) = False := by simp
      simp only [not_true_eq_false, if_false]
      grind
    · unfold yearsP at hp
      unfold f265
      rw [m220 hC hM.1, cP_s, if_neg h0, ja]
      by_cases ha : 1 ≤ a ∧ a ≤ 10
      · rw [m173t ha, cP_s, if_neg ne10, jb]
        by_cases hb : 1 ≤ b ∧ b ≤ 60
        · rw [m173t hb, cP_s, if_neg ne10, jc]
          by_cases hc : 0 ≤ c ∧ c ≤ 100
          · rw [m173t hc, cP_s, if_neg ne10, jd, m173f (by omega), cP_s, if_neg (by decide)]
          · rw [m173f hc, cP_s, if_pos rfl]
        · rw [m173f hb, cP_s, if_pos rfl]
      · rw [m173f ha, cP_s, if_pos rfl]
