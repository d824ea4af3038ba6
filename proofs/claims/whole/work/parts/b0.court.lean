/-! COURT, both -/
def pMq (f i : Nat) : Bool := (Nat.ble 1537 f && Nat.ble f 1556) || Nat.beq f 1593 || pMs f i
theorem pMq_f {f i : Nat} : pMq f i = false ↔ ¬ ((1537 ≤ f ∧ f ≤ 1556) ∨ f = 1593 ∨ (f = 1569 ∨ f = 1570 ∨ f = 1571 ∨ (1574 ≤ f ∧ f ≤ 1576)) ∨ (1557 ≤ f ∧ f ≤ 1568 ∧ i = 0)) := by
  unfold pMq
  rw [Bool.or_eq_false_iff, Bool.or_eq_false_iff, pMs_f, ← Bool.not_eq_true, ← Bool.not_eq_true]
  simp only [Bool.and_eq_true, Nat.beq_eq, Nat.ble_eq]
  omega
theorem pMq_t {f : Nat} (h : (1537 ≤ f ∧ f ≤ 1556) ∨ f = 1593) : pMq f 0 = true := by
  by_cases e : pMq f 0 = true
  · exact e
  · exact absurd (by omega) (pMq_f.mp (Bool.eq_false_iff.mpr e))
def cpA (t : S2) : S2 := cpS (cpS (cpS (cpS (cpS (cpS (cpS (cpS (cpS (cpS (cpS t 1558 1554 4) 1559 1540 6) 1560 1541 6) 1561 1542 6) 1562 1543 6) 1563 1545 10) 1564 1546 10) 1565 1555 10) 1566 1556 10) 1567 1549 3) 1568 1550 3
theorem cpA_1 {t : S2} {k : Nat} : (k < 4 → cpA t 1554 0 k = t 1558 0 k) ∧ (k < 6 → cpA t 1540 0 k = t 1559 0 k ∧ cpA t 1541 0 k = t 1560 0 k ∧ cpA t 1542 0 k = t 1561 0 k ∧ cpA t 1543 0 k = t 1562 0 k) ∧ (k < 10 → cpA t 1545 0 k = t 1563 0 k ∧ cpA t 1546 0 k = t 1564 0 k ∧ cpA t 1555 0 k = t 1565 0 k ∧ cpA t 1556 0 k = t 1566 0 k) ∧ (k < 3 → cpA t 1549 0 k = t 1567 0 k ∧ cpA t 1550 0 k = t 1568 0 k) := by
  unfold cpA
  simp only [cpS_d]
  refine ⟨fun h => ?_, fun h => ?_, fun h => ?_, fun h => ?_⟩ <;> simp [h]
theorem cpA_o {t : S2} {f i : Nat} (h : f = 1537 ∨ f < 1537 ∨ 1556 < f) : cpA t f i = t f i := by
  funext k
  unfold cpA
  simp only [cpS_d]
  rw [if_neg (by omega), if_neg (by omega), if_neg (by omega), if_neg (by omega), if_neg (by omega), if_neg (by omega), if_neg (by omega), if_neg (by omega), if_neg (by omega), if_neg (by omega), if_neg (by omega)]
theorem cpA_fr {t : S2} : Fr pMq t (cpA t) := by
  unfold cpA
  exact cpS_fr (cpS_fr (cpS_fr (cpS_fr (cpS_fr (cpS_fr (cpS_fr (cpS_fr (cpS_fr (cpS_fr (cpS_fr Fr.rf (pMq_t (by omega))) (pMq_t (by omega))) (pMq_t (by omega))) (pMq_t (by omega))) (pMq_t (by omega))) (pMq_t (by omega))) (pMq_t (by omega))) (pMq_t (by omega))) (pMq_t (by omega))) (pMq_t (by omega))) (pMq_t (by omega))
theorem m179c {g h n : Nat} {R : Type} {s : S2} {k : S2 → Option R} (hg : am_ln g = n) (hh : am_ln h = n) (hn : n ≤ 1000) (hne : g ≠ h) : cP (f179 g h s) k = k (cpS s g h n) := by rw [m179 hg hh hn hne, cP_s]
def shQ (z : S2) (i : Nat) : S2 := fun f o k => if f = 1537 ∧ o = 0 ∧ k < i then (if k < 7 then z 1557 0 k else 0) else z f o k
theorem shQ_d {z : S2} {i f o k : Nat} : shQ z i f o k = if f = 1537 ∧ o = 0 ∧ k < i then (if k < 7 then z 1557 0 k else 0) else z f o k := rfl
theorem m159a {z : S2} : itr (fun (x3, s4) => f159_a x3 s4) am_fu (0, z) = some (shQ z 9) := by
  have e0 : ((0 : Int), z) = (((0 : Nat) : Int), shQ z 0) := by
    have : shQ z 0 = z := by
      funext f o k
      rw [shQ_d, if_neg (by omega)]
    rw [this]
    rfl
  rw [e0]
  refine itr_seq (fun i => ((i : Int), shQ z i)) 9 _ ?_ ?_ am_fu (fu_lt (by omega))
  · intro i hi
    have q2 : ∀ v, v = (if i < 7 then z 1557 0 i else 0) → st2 (shQ z i) 1537 0 i v = shQ z (i + 1) := fun v hv => by
      funext f j k
      rw [st2_d, shQ_d, shQ_d]
      by_cases e : f = 1537 ∧ j = 0 ∧ k = i
      · rw [if_pos e, if_pos (by omega), hv, e.2.2]
      · rw [if_neg e]
        by_cases e2 : f = 1537 ∧ j = 0 ∧ k < i
        · rw [if_pos e2, if_pos (show f = 1537 ∧ j = 0 ∧ k < i + 1 by omega)]
        · rw [if_neg e2, if_neg (by omega)]
    show f159_a i (shQ z i) = _
    unfold f159_a
    simp only [jn]
    have ej : jadd (i : Int) 1 = ((i + 1 : Nat) : Int) := by rw [jadd_e (by omega) (by omega)]; rfl
    by_cases c : i < 7
    · have q1 : shQ z i 1557 0 i = z 1557 0 i := by rw [shQ_d, if_neg (by omega)]
      rw [if_neg (by omega), if_neg (by omega), ld_t (by omega) (by omega), Int.toNat_natCast, sto_t (by omega) (by omega), Int.toNat_natCast, q2 _ (by rw [q1, if_pos c]), bnd, ej]
    · rw [if_neg (by omega), if_pos (by omega), sto_t (by omega) (by omega), Int.toNat_natCast, q2 _ (by rw [if_neg c]), bnd, ej]
  · rfl
theorem m159 {t : S2} {n : Nat} {bs : Nat → Nat} {C0 B0 : V2} (h : HMt t bs n) (hb : ∀ k, k < n → bs k < 256) (hn : n ≤ 400) (h0 : ∀ f, 384 ≤ f → f ≤ 390 → C0 f 0 = 0) (hC : CB C0) (hB : BD C0 B0) : ∃ r t', f159 t = some (r, t') ∧ Fr pMq t t' ∧ t' 1569 0 0 = 0 ∧ ((∃ C B, clN n bs 41 0 (sk n bs 0) C0 B0 = .inr (C, B) ∧ r = C 388 0 ∧ CR C t' ∧ (∀ l : Nat, l < 4 → (l : Int) < C 387 0 → t' 1554 0 l = B 517 l ∧ t' 1538 0 l = B 517 l) ∧ (∀ l : Nat, l < 10 → (l : Int) < C 389 0 → t' 1556 0 l = B 515 l ∧ t' 1548 0 l = B 515 l ∧ t' 1547 0 l = C 397 l) ∧ (∀ k, k < 4 → t' 1539 0 k = 0) ∧ (∀ k, k < 6 → t' 1544 0 k = -1) ∧ (∀ k, 6 ≤ k → k < 9 → t' 1537 0 k = 0) ∧ (∀ k, 9 ≤ k → t' 1537 0 k = t 1537 0 k) ∧ t' 1593 0 0 = 0) ∨ (∃ e, 0 < e ∧ clN n bs 41 0 (sk n bs 0) C0 B0 = .inl e ∧ r = jsub (-2) e ∧ Fr pMs t t')) := by
  obtain ⟨z, a1, a2, a3, a4⟩ := m160 h hb hn h0 hC hB
  have az : Fr pMq t z := a2.mo fun f i w => (Bool.or_eq_false_iff.mp w).2
  unfold f159
  rw [a1, cP_s, bnd]
  rcases a4 with ⟨C, B, b1, b2, b3⟩ | ⟨e, b1, b2, b3⟩
  · rw [b2, if_pos (by omega)]
    rw [m159a, cP_s, m179c (n := 4) rfl rfl (by omega) (by omega), m179c (n := 6) rfl rfl (by omega) (by omega), m179c (n := 6) rfl rfl (by omega) (by omega), m179c (n := 6) rfl rfl (by omega) (by omega), m179c (n := 6) rfl rfl (by omega) (by omega), m179c (n := 10) rfl rfl (by omega) (by omega), m179c (n := 10) rfl rfl (by omega) (by omega), m179c (n := 10) rfl rfl (by omega) (by omega), m179c (n := 10) rfl rfl (by omega) (by omega), m179c (n := 3) rfl rfl (by omega) (by omega), m179c (n := 3) rfl rfl (by omega) (by omega)]
    show ∃ r t', (cP (f180 (cpA (shQ z 9))) fun s21 => _) = some (r, t') ∧ _
    have o1 : ∀ f i, f ≠ 1537 → shQ z 9 f i = z f i := fun f i hf => funext fun k => by rw [shQ_d, if_neg (by omega)]
    have o2 : ∀ k, k < 7 → shQ z 9 1537 0 k = z 1557 0 k := fun k hk => by rw [shQ_d, if_pos (by omega), if_pos hk]
    have o3 : ∀ k, 7 ≤ k → k < 9 → shQ z 9 1537 0 k = 0 := fun k hk hk2 => by rw [shQ_d, if_pos (by omega), if_neg (by omega)]
    have o4 : ∀ k, 9 ≤ k → shQ z 9 1537 0 k = z 1537 0 k := fun k hk => by rw [shQ_d, if_neg (by omega)]
    have f1 : Fr pMq z (shQ z 9) := fun f i hf => o1 f i (by have := pMq_f.mp hf; omega)
    have f2 : Fr pMq z (cpA (shQ z 9)) := f1.tr cpA_fr
    have c1 := @cpA_1 (shQ z 9)
    have c2 : ∀ k, cpA (shQ z 9) 1537 0 k = shQ z 9 1537 0 k := fun k => by rw [cpA_o (Or.inl rfl)]
    have c3 : cpA (shQ z 9) 1569 0 0 = 0 := by rw [cpA_o (by omega), o1 _ _ (by omega)]; exact a3
    generalize cpA (shQ z 9) = u at c1 c2 c3 f2
    obtain ⟨w, d1, d2, d3, d4, d5, d6, d7, d8⟩ := m180 (t := u)
    rw [d1, cP_s, bnd, ld_t (by omega) (by omega)]
    have w37 : ∀ k, k ≠ 6 → k ≠ 7 → st2 w 1593 0 0 0 1537 0 k = shQ z 9 1537 0 k := fun k h1 h2 => by rw [st2_ne (by omega), d5, if_neg (by omega), c2]
    have w3 : st2 w 1593 0 0 0 1537 0 (Int.toNat 3) = C 388 0 := by
      show st2 w 1593 0 0 0 1537 0 3 = _
      rw [w37 3 (by omega) (by omega), o2 3 (by omega)]
      exact b3.1.2.2.2.1
    have d8' : ∀ f, ¬ (f = 1537 ∨ f = 1538 ∨ f = 1539 ∨ f = 1544 ∨ f = 1547 ∨ f = 1548 ∨ f = 1593) → st2 w 1593 0 0 0 f 0 = u f 0 := fun f hf => by rw [st2_row (by omega), d8 _ _ (pBg_f.mpr (by omega))]
    rw [w3]
    obtain ⟨⟨s0, s1, s2, s3, s4, s5, s6⟩, m2, m3, m4, m5⟩ := b3
    refine ⟨_, _, rfl, (az.tr f2).tr ((d8.mo fun f i q => pBg_f.mpr (by have := pMq_f.mp q; omega)).st (pMq_t (by omega))), ?_, Or.inl ⟨C, B, b1, rfl, ⟨⟨?_, ?_, ?_, ?_, ?_, ?_⟩, fun l hl hl2 => ?_, fun l hl hl2 => ?_, fun l hl hl2 => ?_⟩, fun l hl hl2 => ?_, fun l hl hl2 => ?_, fun k hk => ?_, fun k hk => ?_, fun k hk hk2 => ?_, fun k hk => ?_, st2_eq⟩⟩
    · rw [d8' _ (by omega)]; exact c3
    · rw [w37 _ (by omega) (by omega), o2 _ (by omega)]; exact s0
    · rw [w37 _ (by omega) (by omega), o2 _ (by omega)]; exact s1
    · rw [w37 _ (by omega) (by omega), o2 _ (by omega)]; exact s2
    · rw [w37 _ (by omega) (by omega), o2 _ (by omega)]; exact s3
    · rw [w37 _ (by omega) (by omega), o2 _ (by omega)]; exact s4
    · rw [w37 _ (by omega) (by omega), o2 _ (by omega)]; exact s5
    · obtain ⟨e1, e2, e3, e4⟩ := (c1 (k := l)).2.1 hl
      rw [d8' _ (by omega), d8' _ (by omega), d8' _ (by omega), d8' _ (by omega), e1, e2, e3, e4, o1 _ _ (by omega), o1 _ _ (by omega), o1 _ _ (by omega), o1 _ _ (by omega)]
      exact m2 l hl hl2
    · obtain ⟨e1, e2, e3, e4⟩ := (c1 (k := l)).2.2.1 hl
      obtain ⟨n1, n2, n3, n4⟩ := m3 l hl hl2
      rw [d8' _ (by omega), d8' _ (by omega), d8' _ (by omega), e1, e2, e3, o1 _ _ (by omega), o1 _ _ (by omega), o1 _ _ (by omega)]
      exact ⟨n1, n2, n3⟩
    · obtain ⟨e1, e2⟩ := (c1 (k := l)).2.2.2 hl
      rw [d8' _ (by omega), d8' _ (by omega), e1, e2, o1 _ _ (by omega), o1 _ _ (by omega)]
      exact m4 l hl hl2
    · have e1 := (c1 (k := l)).1 hl
      rw [d8' _ (by omega), st2_ne (by omega), d2 l hl, e1, o1 _ _ (by omega)]
      exact ⟨m5 l hl hl2, m5 l hl hl2⟩
    · obtain ⟨e1, e2, e3, e4⟩ := (c1 (k := l)).2.2.1 hl
      obtain ⟨n1, n2, n3, n4⟩ := m3 l hl hl2
      rw [d8' _ (by omega), st2_ne (by omega), st2_ne (by omega), d4 l hl, d3 l hl, e3, e4, o1 _ _ (by omega), o1 _ _ (by omega)]
      exact ⟨n4, n4, n3⟩
    · rw [st2_ne (by omega), d6 k hk]
    · rw [st2_ne (by omega), d7 k hk]
    · rw [st2_ne (by omega), d5]
      by_cases q : k = 6 ∨ k = 7
      · rw [if_pos q]
      · rw [if_neg q, c2, o3 k (by omega) hk2]
    · rw [w37 _ (by omega) (by omega), o4 k hk, a2 _ _ (pMs_f.mpr (by omega))]
  · rw [b2, if_neg (by omega), bnd, bnd]
    exact ⟨_, _, rfl, az, a3, Or.inr ⟨e, b3, b1, rfl, a2⟩⟩
def pCM (f i : Nat) : Bool := pCt f i || pMq f i
theorem pCM_f {f i : Nat} : pCM f i = false ↔ ¬ ((129 ≤ f ∧ f ≤ 135 ∧ i = 0) ∨ (384 ≤ f ∧ f ≤ 399 ∧ (i = 5 ∨ i = 0)) ∨ (512 ≤ f ∧ f ≤ 518 ∧ (i = 161 ∨ i ≤ 1)) ∨ ((f = 1028 ∨ f = 1032) ∧ i = 0)) ∧ ¬ ((1537 ≤ f ∧ f ≤ 1556) ∨ f = 1593 ∨ (f = 1569 ∨ f = 1570 ∨ f = 1571 ∨ (1574 ≤ f ∧ f ≤ 1576)) ∨ (1557 ≤ f ∧ f ≤ 1568 ∧ i = 0)) := by
  unfold pCM
  rw [Bool.or_eq_false_iff, pCt_f, pMq_f]
theorem call_court {s : S2} (h : Inv s) : ∃ r s1 s2, f18 s = some (r, s1) ∧ f159 s1 = some (r, s2) ∧ Inv s2 := by
  obtain ⟨R, K, b1, b2, b3, b4, b5, b6⟩ := id h
  obtain ⟨n, bs, hn, hc, hm⟩ := b2.hs
  obtain ⟨r, s1, c1, c2, c3, c4, c5⟩ := m18 hc hn b5.2
  have hm1 : HMt s1 bs n := hm.fr c2 (pCt_f.mpr (by omega)) (pCt_f.mpr (by omega))
  obtain ⟨r', s2, d1, d2, d3, d4⟩ := m159 hm1 (fun k hk => (hc.2 k hk).1) hn (fun f g1 g2 => clC_z (C := cw s 5) g1 g2) (clC_CB b5.2) clC_BD
  have e : Fr pCM s s2 := (c2.mo fun f i w => (Bool.or_eq_false_iff.mp w).1).tr (d2.mo fun f i w => (Bool.or_eq_false_iff.mp w).2)
  have hTP : TP s2 := ⟨0, by omega, by rw [d2 _ _ (pMq_f.mpr (by omega))]; exact c3, d3, fun k hk => absurd hk (by omega)⟩
  have hBK : BK s2 R K := b1.fr e (pCM_f.mpr (by omega)) (pCM_f.mpr (by omega)) (fun r hr => ⟨pCM_f.mpr (by omega), pCM_f.mpr (by omega)⟩) (fun f g1 g2 => pCM_f.mpr (by omega))
  have hIM : IM R s2 := b4.fr (e _ _ (pCM_f.mpr (by omega))) (e _ _ (pCM_f.mpr (by omega))) (e _ _ (pCM_f.mpr (by omega))) (fun i hi => by rw [e _ _ (pCM_f.mpr (by omega))]) (fun w g1 g2 => e.we (fun f g1 g2 => pCM_f.mpr (by omega)) (fun f j g1 g2 g3 => pCM_f.mpr (by omega)) (fun f g1 g2 => pCM_f.mpr (by omega)))
  have k5 : cw s2 5 = cw s1 5 := d2.cw fun f g1 g2 => pMq_f.mpr (by omega)
  have hDX : DX s2 := ⟨by rw [e _ _ (pCM_f.mpr (by omega))]; exact b5.1, by rw [k5]; exact c4⟩
  have h89 : s2 1589 0 0 = 0 := by rw [e _ _ (pCM_f.mpr (by omega))]; exact b6
  have kw : cw s2 0 = cw s1 0 := d2.cw fun f g1 g2 => pMq_f.mpr (by omega)
  have ky : ∀ y, yv s2 y = yv s1 y := fun y => d2.yv fun f g1 g2 => pMq_f.mpr (by omega)
  rcases c5 with ⟨C, B, x1, x2, x3, x4, x5, x6, x7, x8, x9⟩ | ⟨x, x1, x2, x3, x4⟩
  · rcases d4 with ⟨C', B', y1, y2, y3, y4, y5, y6, y7, y8, y9, y10⟩ | ⟨x', -, y1, -, -⟩
    · rw [x1] at y1
      cases y1
      refine ⟨r, s1, s2, c1, by rw [d1, y2, x2], R, K, hBK, hTP, ?_, hIM, hDX, h89⟩
      unfold IW
      rw [kw, x5, show 32 * 0 = 0 from rfl, show 0 + 1 = 1 from rfl, ky 0, ky 1, x6, x7]
      obtain ⟨g1, g2, g3, g4, g5⟩ := x4
      obtain ⟨-, -, i3, -, i5⟩ := b3
      have lj : ∀ f k, jr f k → live s2 f k = s2 f 0 k := fun f k hr => live_t hr
      have u28 : uw s2 0 1028 0 = 0 := by rw [uw1 (by omega), d2 _ _ (pMq_f.mpr (by omega))]; exact x8
      have u32 : uw s2 0 1032 0 = 0 := by rw [uw1 (by omega), d2 _ _ (pMq_f.mpr (by omega))]; exact x9
      have uo : ∀ f, f = 1027 ∨ f = 1033 ∨ f = 1034 → uw s2 0 f 0 = uw s 0 f 0 := fun f hf => by
        rw [uw1 (by omega), uw1 (by omega), e _ _ (pCM_f.mpr (by omega))]
      refine ⟨⟨x3, g1, by omega, CR_live.mpr y3, YR_live.mpr ⟨by rw [y8 _ (by omega) (by omega)]; omega, by rw [y8 _ (by omega) (by omega), cutV_0 fun l hl => (g3 l hl).2], fun l hl hl2 => by rw [y7 l hl, (g3 l hl).1], fun l hl hl2 => ?_, fun l hl hl2 => ?_⟩⟩, ⟨g1, g2, g3, g4, fun l hl hl2 => ⟨g5 l hl hl2, ?_⟩, fun l hl hl2 => ?_⟩, ?_, ⟨0, by omega, u32, ?_, fun i hi => absurd hi (by omega)⟩, ?_⟩
      · obtain ⟨z1, z2, z3⟩ := y5 l hl hl2
        rw [z2, z3, g5 l hl hl2]
        exact ⟨rfl, rfl⟩
      · rw [(y4 l hl hl2).2, y6 l hl, g4 l hl]
        exact ⟨rfl, rfl⟩
      · rw [lj _ _ (by unfold jr; omega)]; exact (y5 l hl hl2).1
      · rw [lj _ _ (by unfold jr; omega)]; exact (y4 l hl hl2).1
      · obtain ⟨m, p, p1, p2, p3, p4, p5, -⟩ := i3
        exact ⟨0, p, by omega, p2, u28, by rw [lj _ _ (by unfold jr; omega)]; exact y10, by rw [uo _ (by omega)]; exact p5, fun j hj => absurd hj (by omega)⟩
      · rw [lj _ _ (by unfold jr; omega)]; exact y8 _ (by omega) (by omega)
      · obtain ⟨q1, q2, q3, q4, q5, q6⟩ := i5
        have l9 : ∀ k, 9 ≤ k → k < 11 → live s2 1537 k = live s 1537 k := fun k w1 w2 => by
          rw [live_t (by unfold jr; omega), live_t (by unfold jr; omega), y9 k w1, c2 _ _ (pCt_f.mpr (by omega))]
        unfold IWf
        rw [uo _ (by omega), uo _ (by omega), l9 _ (by omega) (by omega), l9 _ (by omega) (by omega)]
        exact ⟨q1, q2, q3, q4, q5, q6⟩
    · rw [x1] at y1; cases y1
  · rcases d4 with ⟨C', B', y1, -⟩ | ⟨x', z1, y1, y2, y3⟩
    · rw [x2] at y1; cases y1
    · rw [x2] at y1
      cases y1
      refine ⟨r, s1, s2, c1, by rw [d1, y2, x3], R, K, hBK, hTP, ?_, hIM, hDX, h89⟩
      have el : live s2 = live s := live_e fun f k hr => by
        unfold jr at hr
        rw [y3 _ _ (pMs_f.mpr (by omega)), c2 _ _ (pCt_f.mpr (by omega))]
      rw [el]
      refine b3.we ?_
      have w1 : WE s s1 0 := x4.we (fun f g1 g2 => by rw [Bool.or_eq_false_iff]; exact ⟨one_f (by omega), pDr_f.mpr (by omega)⟩) (fun f j g1 g2 g3 => by rw [Bool.or_eq_false_iff]; exact ⟨one_f (by omega), pDr_f.mpr (by omega)⟩) (fun f g1 g2 => by rw [Bool.or_eq_false_iff]; exact ⟨one_f (by omega), pDr_f.mpr (by omega)⟩)
      have w2 : WE s1 s2 0 := y3.we (fun f g1 g2 => pMs_f.mpr (by omega)) (fun f j g1 g2 g3 => pMs_f.mpr (by omega)) (fun f g1 g2 => pMs_f.mpr (by omega))
      exact ⟨w2.1.trans w1.1, fun j hj => (w2.2.1 j hj).trans (w1.2.1 j hj), w2.2.2.trans w1.2.2⟩
