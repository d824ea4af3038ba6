theorem RRes.tr {s s' s'' : S2} {n m : Nat} {bs : Nat → Nat} {L : List Int} {r : Int ⊕ PS} (h : Fr pRu s s') (h2 : RRes s' s'' n bs m L r) : RRes s s'' n bs m L r := ⟨h.tr h2.1, h2.2⟩
theorem m62_a {z : S2} {n m q c i : Nat} {bs : Nat → Nat} {L : List Int} (h : RA z n bs m q c L) (hi : i < 60) : if isA (tK n bs q) = true then (∃ z1, RA z1 n bs m (nq n bs q) c L ∧ Fr pRu z z1 ∧ f62_a i z = cP (f63 z1) fun s7 => cP (f9 7 (-(tK n bs q)) s7) fun s8 => some (.inl (((i + 1 : Nat) : Int), s8))) else f62_a i z = some (.inr z) := by
  have e5 : jadd (i : Int) 1 = ((i + 1 : Nat) : Int) := by rw [jadd_e (by omega) (by omega)]; rfl
  by_cases v : isA (tK n bs q) = true
  · rw [if_pos v]
    have hv := of_decide_eq_true v
    obtain ⟨z1, a1, a2, a3⟩ := h.step
    refine ⟨z1, a2, a3, ?_⟩
    unfold f62_a
    simp only [bnd, jn]
    rw [if_neg (by omega), h.1.kind, cP_s, cP_s, cP_s, a1, cP_s, e5, jneg_e (by omega) (by omega)]
    by_cases k1 : tK n bs q = 43
    · rw [if_pos k1]
    · rw [if_neg k1, if_neg (by omega)]
  · rw [if_neg v]
    have hv := of_decide_eq_false (Bool.eq_false_iff.mpr v)
    unfold f62_a
    simp only [jn]
    rw [if_neg (by omega), h.1.kind, cP_s, if_neg (fun w => hv (Or.inl w)), cP_s, if_pos (fun w => hv (Or.inr w))]
theorem m62 {s : S2} {n m q c : Nat} {bs : Nat → Nat} {L : List Int} (h : RA s n bs m q c L) (hL : L.length ≤ q) : ∃ s', f62 s = some s' ∧ RRes s s' n bs m L (aSum n bs q c) := by
  have hn : n ≤ 400 := h.1.2.2.2
  have hb := h.1.2.2.1
  obtain ⟨s1, a1, a2⟩ := m63 h hL
  unfold f62 aSum
  rw [a1, cP_s]
  cases hx : aTerm n bs q c with
  | inl e =>
    rw [hx] at a2
    have a3 : CEr s1 n bs m e := a2.2
    have hl : itr (fun (x2, s3) => f62_a x2 s3) am_fu (0, s1) = some s1 := by
      refine itr_seq (fun _ => ((0 : Int), s1)) 0 _ (fun i hi => absurd hi (by omega)) ?_ am_fu (fu_lt (by omega))
      show f62_a 0 s1 = _
      unfold f62_a
      simp only [jn]
      rw [if_neg (by omega), a3.kind, cP_s, if_neg (by decide), cP_s, if_pos (by decide)]
    rw [hl, cP_s]
    exact ⟨s1, rfl, a2.1, a3⟩
  | inr p =>
    obtain ⟨q1, c1, X⟩ := p
    rw [hx] at a2
    obtain ⟨a2, a3⟩ := a2
    have hp := aTerm_p hb hx
    rw [bS_r]
    generalize hT : aSm n bs 60 q1 c1 X = T
    refine inv_cP (a := ((0 : Int), s1)) (P := fun e => ∃ s', e = some s' ∧ RRes s s' n bs m L T) (fun (i : Nat) (y : Int × S2) => y.1 = i ∧ Fr pRu s y.2 ∧ ((i < 60 ∧ ∃ q1 c1 X, RA y.2 n bs m q1 c1 (L ++ X) ∧ PrB n q c false q1 c1 X ∧ i + 1 ≤ c1 ∧ aSm n bs (60 - i) q1 c1 X = T) ∨ (∃ e, T = .inl e ∧ CEr y.2 n bs m e))) (fun z => RRes s z n bs m L T) 61 (by omega) ⟨rfl, a2, Or.inl ⟨by omega, q1, c1, X, a3, hp, by have := hp.1; omega, hT⟩⟩ ?_ ?_
    · rintro i ⟨x, z⟩ hi ⟨g1, g2, g3⟩
      dsimp only at g1 g2 g3 ⊢
      subst g1
      rcases g3 with ⟨g3, q2, c2, Y, g4, g5, g6, g7⟩ | ⟨e, g3, g4⟩
      · have h62 := m62_a g4 g3
        rw [show 60 - i = (60 - (i + 1)) + 1 by omega] at g7
        unfold aSm at g7
        by_cases v : isA (tK n bs q2) = true
        · rw [if_pos v] at h62 g7
          obtain ⟨z1, b1, b2, b3⟩ := h62
          have hq := nq_b (bs := bs) (tK_lt (n := n) (q := q2) (bs := bs) (isM_0 (Or.inr (Or.inl v))))
          have hlen : (L ++ Y).length + 1 ≤ nq n bs q2 := by
            have := g5.1
            rw [List.length_append]
            omega
          obtain ⟨z2, d1, d2⟩ := m63 b1 (by omega)
          rw [d1, cP_s] at b3
          cases hy : aTerm n bs (nq n bs q2) c2 with
          | inl e =>
            rw [hy] at d2 g7
            have d3 : CEr z2 n bs m e := d2.2
            obtain ⟨z3, l1, l2, l3⟩ := d3.add (x := -(tK n bs q2))
            rw [l1, cP_s] at b3
            exact Or.inl ⟨by omega, _, b3, rfl, ((g2.tr b2).tr d2.1).tr l3, Or.inr ⟨e, g7.symm, l2⟩⟩
          | inr p =>
            obtain ⟨q3, c3, Z⟩ := p
            rw [hy] at d2 g7
            rw [bS_r] at g7
            obtain ⟨d2, d3⟩ := d2
            have hp2 := aTerm_p hb hy
            have hj := g5.join hp2 (by omega) (by omega) (ty_m (t := []) (Or.inr v)).2 fun t => (ty_m (Or.inr v)).1
            obtain ⟨z3, l1, l2, l3⟩ := d3.add (x := -(tK n bs q2)) (by
              have := hp2.1
              have := g5.1
              rw [List.length_append, List.length_append]
              omega) (ty_m (t := []) (Or.inr v)).2
            rw [l1, cP_s] at b3
            have eL : L ++ Y ++ Z ++ [-(tK n bs q2)] = L ++ (Y ++ Z ++ [-(tK n bs q2)]) := by simp only [List.append_assoc]
            rw [eL] at l2
            have := hj.1
            have := hp2.1
            refine Or.inl ⟨by omega, _, b3, rfl, ((g2.tr b2).tr d2).tr l3, Or.inl ⟨by omega, q3, c3, _, l2, hj, by omega, g7⟩⟩
        · rw [if_neg v] at h62 g7
          refine Or.inr ⟨z, h62, ?_⟩
          rw [← g7]
          exact ⟨g2, g4⟩
      · refine Or.inr ⟨z, ?_, ?_⟩
        · show f62_a i z = _
          unfold f62_a
          simp only [jn]
          by_cases y : (60 : Int) ≤ i
          · rw [if_pos y]
          · rw [if_neg y, g4.kind, cP_s, if_neg (by decide), cP_s, if_pos (by decide)]
        · rw [g3]
          exact ⟨g2, g4⟩
    · intro z hz
      exact ⟨z, rfl, hz⟩
theorem m62e {s : S2} {n m : Nat} {e : Int} {bs : Nat → Nat} (h : CEr s n bs m e) : f62 s = some s := by
  have hl : itr (fun (x2, s3) => f62_a x2 s3) am_fu (0, s) = some s := by
    refine itr_seq (fun _ => ((0 : Int), s)) 0 _ (fun i hi => absurd hi (by omega)) ?_ am_fu (fu_lt (by omega))
    show f62_a 0 s = _
    unfold f62_a
    simp only [jn]
    rw [if_neg (by omega), h.kind, cP_s, if_neg (by decide), cP_s, if_pos (by decide)]
  unfold f62
  rw [m63e h, cP_s, hl, cP_s]
theorem m68 {K : Int} : f68 K = some (if isC K = true then 1 else 0) := by
  unfold f68 isC
  by_cases h : K = 60 ∨ K = 3 ∨ K = 61 ∨ K = 4 ∨ K = 62
  · rw [if_pos (show decide (K = 60 ∨ K = 3 ∨ K = 61 ∨ K = 4 ∨ K = 62) = true from decide_eq_true h)]
    rcases h with rfl | rfl | rfl | rfl | rfl <;> rfl
  · rw [if_neg (show ¬ decide (K = 60 ∨ K = 3 ∨ K = 61 ∨ K = 4 ∨ K = 62) = true by rw [decide_eq_false h]; decide), if_neg (by omega), if_neg (by omega), if_neg (by omega), if_neg (by omega), if_pos (by omega)]
theorem m67 {s : S2} {n m q c : Nat} {bs : Nat → Nat} {L : List Int} (h : RA s n bs m q c L) (hL : L.length ≤ q) : ∃ s', f67 s = some s' ∧ RRes s s' n bs m L (aCmp n bs q c) := by
  have hn : n ≤ 400 := h.1.2.2.2
  have hb := h.1.2.2.1
  obtain ⟨s1, a1, a2⟩ := m62 h hL
  unfold f67 aCmp
  simp only [bnd]
  rw [a1, cP_s]
  cases hx : aSum n bs q c with
  | inl e =>
    rw [hx] at a2
    have a3 : CEr s1 n bs m e := a2.2
    have h0 : f68 0 = some 0 := rfl
    rw [a3.kind, cP_s, h0, cP_s, if_neg (by decide), a3.ref0 (by omega), cP_s]
    exact ⟨s1, rfl, a2.1, a3⟩
  | inr p =>
    obtain ⟨q1, c1, X⟩ := p
    rw [hx] at a2
    obtain ⟨a2, a3⟩ := a2
    have hp := aSum_p hb hx
    have hp1 := hp.1
    rw [bS_r, a3.1.kind, cP_s, m68, cP_s]
    by_cases v : isC (tK n bs q1) = true
    · rw [if_pos v, if_pos v, if_pos ne10, a3.2.1]
      by_cases w : 60 ≤ c1
      · obtain ⟨s2, b1, b2, b3⟩ := a3.1.refuse (k := 3) (by omega)
        rw [if_pos w, if_neg (by omega), b1, cP_s]
        exact ⟨s2, rfl, a2.tr b3.ru, b2⟩
      · have e4 : jadd (c1 : Int) 1 = ((c1 + 1 : Nat) : Int) := by rw [jadd_e (by omega) (by omega)]; rfl
        have hR2 : RA (st2 s1 641 0 0 ((c1 + 1 : Nat) : Int)) n bs m q1 (c1 + 1) (L ++ X) := ⟨a3.1.st (by omega), st2_eq, a3.2.2.fr (st2_row (by omega)) (st2_row (by omega))⟩
        have hF2 : Fr pRu s1 (st2 s1 641 0 0 ((c1 + 1 : Nat) : Int)) := Fr.rf.st rfl
        obtain ⟨s3, b1, b2, b3⟩ := hR2.step
        have hq := nq_b (bs := bs) (tK_lt (n := n) (q := q1) (bs := bs) (isM_0 (Or.inr (Or.inr v))))
        obtain ⟨s4, d1, d2⟩ := m62 b2 (by rw [List.length_append]; omega)
        have hv := of_decide_eq_true v
        have hF3 := (a2.tr hF2).tr b3
        rw [if_neg w, if_pos (by omega), e4, b1, cP_s, d1, cP_s, jneg_e (by omega) (by omega)]
        cases hy : aSum n bs (nq n bs q1) (c1 + 1) with
        | inl e =>
          rw [hy] at d2
          have d3 : CEr s4 n bs m e := d2.2
          obtain ⟨s5, l1, l2, l3⟩ := d3.add (x := -(tK n bs q1))
          rw [l1, cP_s]
          exact ⟨s5, rfl, (hF3.tr d2.1).tr l3, l2⟩
        | inr p =>
          obtain ⟨q2, c2, Y⟩ := p
          rw [hy] at d2
          obtain ⟨d2, d3⟩ := d2
          have hp2 := (aSum_p hb hy).1
          obtain ⟨s5, l1, l2, l3⟩ := d3.add (x := -(tK n bs q1)) (by
            rw [List.length_append, List.length_append]
            omega) (ty_c (t := []) v).2
          rw [l1, cP_s, bS_r]
          have eL : L ++ X ++ Y ++ [-(tK n bs q1)] = L ++ (X ++ Y ++ [-(tK n bs q1)]) := by simp only [List.append_assoc]
          rw [eL] at l2
          exact ⟨s5, rfl, (hF3.tr d2).tr l3, l2⟩
    · obtain ⟨s2, b1, b2, b3⟩ := a3.1.refuse (k := 0) (by omega)
      rw [if_neg v, if_neg v, if_neg (by decide), b1, cP_s]
      exact ⟨s2, rfl, a2.tr b3.ru, b2⟩
theorem m67e {s : S2} {n m : Nat} {e : Int} {bs : Nat → Nat} (h : CEr s n bs m e) : f67 s = some s := by
  have h0 : f68 0 = some 0 := rfl
  unfold f67
  rw [m62e h, cP_s, h.kind, cP_s, h0, cP_s, if_neg (by decide), h.ref0 (by omega), cP_s]
