theorem m65_a {z : S2} {n m q c i d : Nat} {o : Bool} {bs : Nat → Nat} {L : List Int} {rf : Int → S2 → Option S2} (h : RA z n bs m q c L) (hi : i < 60) (hL : L.length ≤ q) : if tK n bs q = 271 then (∃ z1, RA z1 n bs m (nq n bs q) c L ∧ Fr pRu z z1 ∧ f65_a rf d (ob o : Nat) i z = cP (rf d z1) fun s11 => cP (f9 7 (-271) s11) fun s13 => some (.inl (((ob o : Nat) : Int), ((i + 1 : Nat) : Int), s13))) else if tK n bs q = 272 then (∃ z1, RA z1 n bs m (nq n bs q) c (L ++ orX o) ∧ Fr pRu z z1 ∧ f65_a rf d (ob o : Nat) i z = cP (rf d z1) fun s11 => some (.inl (1, ((i + 1 : Nat) : Int), s11))) else f65_a rf d (ob o : Nat) i z = some (.inr (((ob o : Nat) : Int), z)) := by
  have e5 : jadd (i : Int) 1 = ((i + 1 : Nat) : Int) := by rw [jadd_e (by omega) (by omega)]; rfl
  by_cases v : tK n bs q = 271
  · rw [if_pos v]
    obtain ⟨z1, a1, a2, a3⟩ := h.step
    refine ⟨z1, a2, a3, ?_⟩
    unfold f65_a
    simp only [bnd, jn]
    rw [if_neg (by omega), h.1.kind, cP_s, if_pos v, cP_s, if_neg (fun w => w v), if_pos ne10, a1, cP_s, e5]
    simp only [if_neg ne10]
  · rw [if_neg v]
    by_cases w : tK n bs q = 272
    · rw [if_pos w]
      have st : ∃ z0, (if ((ob o : Nat) : Int) = 0 then some z else f9 7 (-272) z) = some z0 ∧ RA z0 n bs m q c (L ++ orX o) ∧ Fr pRu z z0 := by
        cases o with
        | false =>
          refine ⟨z, rfl, ?_, Fr.rf⟩
          show RA z n bs m q c (L ++ [])
          rw [List.append_nil]
          exact h
        | true => exact h.add (by
            have := tK_lt (n := n) (q := q) (bs := bs) (by omega)
            have := h.1.2.2.2
            omega) (by unfold okO; omega)
      obtain ⟨z0, b1, b2, b3⟩ := st
      obtain ⟨z1, a1, a2, a3⟩ := b2.step
      refine ⟨z1, a2, b3.tr a3, ?_⟩
      unfold f65_a
      simp only [bnd, jn]
      rw [if_neg (by omega), h.1.kind, cP_s, if_neg v, cP_s, if_neg (fun y => y w), cP_s, if_pos v, if_neg (fun y => y trivial)]
      by_cases y : ((ob o : Nat) : Int) = 0
      · rw [if_pos y] at b1 ⊢
        cases b1
        rw [a1, cP_s, e5]
        simp only [if_true]
      · rw [if_neg y] at b1 ⊢
        rw [b1, cP_s, a1, cP_s, e5]
        simp only [if_true]
    · rw [if_neg w]
      unfold f65_a
      simp only [bnd, jn]
      rw [if_neg (by omega), h.1.kind, cP_s, if_neg v, cP_s, if_pos w]
theorem m65r {s : S2} {n m q c d : Nat} {bs : Nat → Nat} {L : List Int} {rf : Int → S2 → Option S2} {rt : Nat → Nat → Nat → Int ⊕ PS} (h : RA s n bs m q c L) (hL : L.length ≤ q) (hd : d ≤ 10) (hr : RtP n rt) (hrf : RfC n bs m (d + 1) rf rt) : ∃ s', f65r (f66r rf) d s = some s' ∧ RRes s s' n bs m L (bS (aFact n bs rt d q c) fun q1 c1 X => aTs n bs rt d 60 false q1 c1 X) := by
  have hn : n ≤ 400 := h.1.2.2.2
  have hb := h.1.2.2.1
  have hqn := h.1.place.1
  obtain ⟨s1, a1, a2⟩ := m66 h hL hd hr hrf
  unfold f65r
  rw [a1, cP_s]
  have ex : ∀ (z : S2) (x : Int) (e : Int), CEr z n bs m e → ∃ s', (if x = 0 then some z else cP (f9 7 (-272) z) fun s19 => some s19) = some s' ∧ CEr s' n bs m e ∧ Fr pRu z s' := fun z x e hz => by
    by_cases y : x = 0
    · rw [if_pos y]
      exact ⟨z, rfl, hz, Fr.rf⟩
    · obtain ⟨z', b1, b2, b3⟩ := hz.add (x := -272)
      rw [if_neg y, b1, cP_s]
      exact ⟨z', rfl, b2, b3⟩
  have er : ∀ (z : S2) (x : Int) (i : Int) (e : Int), CEr z n bs m e → f65_a (f66r rf) d x i z = some (.inr (x, z)) := fun z x i e hz => by
    unfold f65_a
    simp only [jn]
    by_cases y : 60 ≤ i
    · rw [if_pos y]
    · rw [if_neg y, hz.kind, cP_s, if_neg (by decide), cP_s, if_pos (by decide)]
  cases hx : aFact n bs rt d q c with
  | inl e =>
    rw [hx] at a2
    have a3 : CEr s1 n bs m e := a2.2
    have hl : itr (fun (x3, x4, s5) => f65_a (f66r rf) d x3 x4 s5) am_fu (0, 0, s1) = some (0, s1) := by
      refine itr_seq (fun _ => ((0 : Int), (0 : Int), s1)) 0 _ (fun i hi => absurd hi (by omega)) ?_ am_fu (fu_lt (by omega))
      exact er s1 0 0 e a3
    rw [hl, cP_s]
    dsimp only
    rw [if_pos rfl]
    exact ⟨s1, rfl, a2.1, a3⟩
  | inr p =>
    obtain ⟨q1, c1, X⟩ := p
    rw [hx] at a2
    obtain ⟨a2, a3⟩ := a2
    have hp := (aFact_p hb hr hd hqn hx).o
    rw [bS_r]
    generalize hT : aTs n bs rt d 60 false q1 c1 X = T
    refine inv_cP (a := ((0 : Int), (0 : Int), s1)) (P := fun e => ∃ s', e = some s' ∧ RRes s s' n bs m L T) (fun (i : Nat) (y : Int × Int × S2) => y.2.1 = i ∧ Fr pRu s y.2.2 ∧ ((i < 60 ∧ ∃ q1 c1 o X, y.1 = ((ob o : Nat) : Int) ∧ RA y.2.2 n bs m q1 c1 (L ++ X) ∧ PrO n q c o q1 c1 X ∧ i + 1 ≤ c1 ∧ aTs n bs rt d (60 - i) o q1 c1 X = T) ∨ (∃ e, T = .inl e ∧ CEr y.2.2 n bs m e))) (fun (r : Int × S2) => Fr pRu s r.2 ∧ ((∃ q1 c1 o X, r.1 = ((ob o : Nat) : Int) ∧ RA r.2 n bs m q1 c1 (L ++ X) ∧ PrO n q c o q1 c1 X ∧ T = .inr (q1, c1, X ++ orX o)) ∨ (∃ e, T = .inl e ∧ CEr r.2 n bs m e))) 61 (by omega) ⟨rfl, a2, Or.inl ⟨by omega, q1, c1, false, X, rfl, a3, hp, by have := hp.1; omega, hT⟩⟩ ?_ ?_
    · rintro i ⟨x, y, z⟩ hi ⟨g1, g2, g3⟩
      dsimp only at g1 g2 g3 ⊢
      subst g1
      rcases g3 with ⟨g3, q2, c2, o, Y, rfl, g4, g5, g6, g7⟩ | ⟨e, g3, g4⟩
      · have h1 := g5.1
        have h65 := m65_a (o := o) (d := d) (rf := f66r rf) g4 g3 (by rw [List.length_append]; omega)
        rw [show 60 - i = (60 - (i + 1)) + 1 by omega] at g7
        unfold aTs at g7
        by_cases v : tK n bs q2 = 271
        · rw [if_pos v] at h65 g7
          obtain ⟨z1, b1, b2, b3⟩ := h65
          have hq := nq_b (bs := bs) (tK_lt (n := n) (q := q2) (bs := bs) (by omega))
          obtain ⟨z2, d1, d2⟩ := m66 b1 (by rw [List.length_append]; omega) hd hr hrf
          rw [d1, cP_s] at b3
          cases hy : aFact n bs rt d (nq n bs q2) c2 with
          | inl e =>
            rw [hy] at d2 g7
            have d3 : CEr z2 n bs m e := d2.2
            obtain ⟨z3, l1, l2, l3⟩ := d3.add (x := -271)
            rw [l1, cP_s] at b3
            exact Or.inl ⟨by omega, _, b3, rfl, ((g2.tr b2).tr d2.1).tr l3, Or.inr ⟨e, g7.symm, l2⟩⟩
          | inr p =>
            obtain ⟨q3, c3, Z⟩ := p
            rw [hy] at d2 g7
            rw [bS_r] at g7
            obtain ⟨d2, d3⟩ := d2
            have hp2 := aFact_p hb hr hd (by omega) hy
            have hj := g5.and hp2 (by omega)
            have := hp2.1
            obtain ⟨z3, l1, l2, l3⟩ := d3.add (x := -271) (by
              rw [List.length_append, List.length_append]
              omega) (by unfold okO; omega)
            rw [l1, cP_s] at b3
            have eL : L ++ Y ++ Z ++ [-271] = L ++ (Y ++ Z ++ [-271]) := by simp only [List.append_assoc]
            rw [eL] at l2
            have := hj.1
            refine Or.inl ⟨by omega, _, b3, rfl, ((g2.tr b2).tr d2).tr l3, Or.inl ⟨by omega, q3, c3, o, _, rfl, l2, hj, by omega, g7⟩⟩
        · rw [if_neg v] at h65 g7
          by_cases w : tK n bs q2 = 272
          · rw [if_pos w] at h65 g7
            obtain ⟨z1, b1, b2, b3⟩ := h65
            have hq := nq_b (bs := bs) (tK_lt (n := n) (q := q2) (bs := bs) (by omega))
            obtain ⟨z2, d1, d2⟩ := m66 b1 (by rw [List.length_append, List.length_append, orX_l]; omega) hd hr hrf
            rw [d1, cP_s] at b3
            cases hy : aFact n bs rt d (nq n bs q2) c2 with
            | inl e =>
              rw [hy] at d2 g7
              have d3 : CEr z2 n bs m e := d2.2
              exact Or.inl ⟨by omega, _, b3, rfl, (g2.tr b2).tr d2.1, Or.inr ⟨e, g7.symm, d3⟩⟩
            | inr p =>
              obtain ⟨q3, c3, Z⟩ := p
              rw [hy] at d2 g7
              rw [bS_r] at g7
              obtain ⟨d2, d3⟩ := d2
              have hp2 := aFact_p hb hr hd (by omega) hy
              have hj := g5.or hp2 (by omega)
              have d3 : RA z2 n bs m q3 c3 (L ++ Y ++ orX o ++ Z) := d3
              have eL : L ++ Y ++ orX o ++ Z = L ++ (Y ++ orX o ++ Z) := by simp only [List.append_assoc]
              rw [eL] at d3
              have := hj.1
              have := hp2.1
              refine Or.inl ⟨by omega, _, b3, rfl, (g2.tr b2).tr d2, Or.inl ⟨by omega, q3, c3, true, _, rfl, d3, hj, by omega, g7⟩⟩
          · rw [if_neg w] at h65 g7
            exact Or.inr ⟨_, h65, g2, Or.inl ⟨q2, c2, o, Y, rfl, g4, g5, g7.symm⟩⟩
      · exact Or.inr ⟨_, er z x i e g4, g2, Or.inr ⟨e, g3, g4⟩⟩
    · rintro ⟨x, z⟩ ⟨g1, g2⟩
      dsimp only at g1 g2 ⊢
      rcases g2 with ⟨q2, c2, o, Y, rfl, g4, g5, g6⟩ | ⟨e, g3, g4⟩
      · have h1 := g5.1
        cases o with
        | false =>
          rw [if_pos (by rfl)]
          refine ⟨z, rfl, g1, ?_⟩
          rw [g6]
          show RA z n bs m q2 c2 (L ++ (Y ++ []))
          rw [List.append_nil]
          exact g4
        | true =>
          obtain ⟨z', b1, b2, b3⟩ := g4.add (x := -272) (by
            have : ob true = 1 := rfl
            rw [List.length_append]; omega) (by unfold okO; omega)
          rw [if_neg (by show ¬ (1 : Int) = 0; decide), b1, cP_s]
          refine ⟨z', rfl, g1.tr b3, ?_⟩
          rw [g6]
          rw [List.append_assoc] at b2
          exact b2
      · obtain ⟨z', b1, b2, b3⟩ := ex z x e g4
        refine ⟨z', b1, g1.tr b3, ?_⟩
        rw [g3]
        exact b2
theorem m65 {n m : Nat} {bs : Nat → Nat} (hb : ∀ k, k < n → bs k < 256) : ∀ f, RfC n bs m (12 - f) (f65 f) (aTest n bs f)
  | 0 => fun d q c L s h1 h2 _ _ => by omega
  | f + 1 => fun d q c L s h1 h2 h3 h4 => by
    have ih := m65 (m := m) hb f
    exact m65r h3 h4 h2 (aTest_p hb f) fun d' q' c' L' s' g1 g2 g3 g4 => ih d' q' c' L' s' (by omega) g2 g3 g4
theorem m65e {s : S2} {n m d f : Nat} {e : Int} {bs : Nat → Nat} (h : CEr s n bs m e) : f65 (f + 1) d s = some s := by
  have er : f65_a (f66r (f65 f)) d 0 0 s = some (.inr (0, s)) := by
    unfold f65_a
    simp only [jn]
    rw [if_neg (by omega), h.kind, cP_s, if_neg (by decide), cP_s, if_pos (by decide)]
  have hl : itr (fun (x3, x4, s5) => f65_a (f66r (f65 f)) d x3 x4 s5) am_fu (0, 0, s) = some (0, s) := by
    refine itr_seq (fun _ => ((0 : Int), (0 : Int), s)) 0 _ (fun i hi => absurd hi (by omega)) ?_ am_fu (fu_lt (by omega))
    exact er
  show f65r (f66r (f65 f)) d s = some s
  unfold f65r
  rw [m66e h, cP_s, hl, cP_s]
  dsimp only
  rw [if_pos rfl]
