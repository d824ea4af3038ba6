/-! THE CLASS' FACTS AND TESTS -/
theorem CEr.expK {s : S2} {n m : Nat} {e K : Int} {bs : Nat → Nat} (h : CEr s n bs m e) (hK : K ≠ 0) : f55 K s = some s := by
  unfold f55
  rw [h.kind, cP_s, if_pos (fun w => hK w.symm), h.ref0 (by omega), cP_s]
theorem RA.expK {s : S2} {n m q c : Nat} {K : Int} {bs : Nat → Nat} {L : List Int} (h : RA s n bs m q c L) : ∃ s', f55 K s = some s' ∧ Fr pRu s s' ∧ if tK n bs q = K then RA s' n bs m (nq n bs q) c L else CEr s' n bs m (1 + 8 * (q : Int) + 0) := by
  unfold f55
  rw [h.1.kind, cP_s]
  by_cases y : tK n bs q = K
  · obtain ⟨s', k1, k2, k3⟩ := h.step
    rw [if_neg (fun w => w y), k1, cP_s]
    exact ⟨s', rfl, k3, by rw [if_pos y]; exact k2⟩
  · obtain ⟨s', k1, k2, k3⟩ := h.1.refuse (k := 0) (by omega)
    rw [if_pos y, k1, cP_s]
    exact ⟨s', rfl, k3.ru, by rw [if_neg y]; exact k2⟩
theorem m66b {s : S2} {n m q c k : Nat} {bs : Nat → Nat} {L : List Int} (h : RA s n bs m q c L) (hL : L.length + k ≤ 400) : ∃ s', itr (fun (x12, s13) => f66_b k x12 s13) am_fu (0, s) = some s' ∧ RA s' n bs m q c (L ++ List.replicate k (-273)) ∧ Fr pRu s s' := by
  refine itr_inv (b := fun (x12, s13) => f66_b k x12 s13) (fun (i : Nat) (y : Int × S2) => y.1 = i ∧ i ≤ k ∧ RA y.2 n bs m q c (L ++ List.replicate i (-273)) ∧ Fr pRu s y.2) (fun z => RA z n bs m q c (L ++ List.replicate k (-273)) ∧ Fr pRu s z) k ?_ am_fu (fu_lt (by omega)) ((0 : Int), s) ⟨rfl, by omega, by rw [List.replicate_zero, List.append_nil]; exact h, Fr.rf⟩
  rintro i ⟨x, z⟩ hi ⟨g1, g2, g3, g4⟩
  dsimp only at g1 g3 g4 ⊢
  subst g1
  by_cases e : i = k
  · refine Or.inr ⟨z, ?_, by rw [← e]; exact g3, g4⟩
    show f66_b k i z = _
    unfold f66_b
    rw [if_pos (by omega)]
  · obtain ⟨z', a1, a2, a3⟩ := g3.add (x := -273) (by rw [List.length_append, List.length_replicate]; omega) (by unfold okO; omega)
    refine Or.inl ⟨by omega, (((i + 1 : Nat) : Int), z'), ?_, rfl, by omega, ?_, g4.tr a3⟩
    · show f66_b k i z = _
      unfold f66_b
      rw [if_neg (by omega), a1, cP_s, bnd, jadd_e (by omega) (by omega)]
      rfl
    · rw [List.append_assoc] at a2
      rw [List.replicate_succ']
      exact a2
theorem m66be {s : S2} {n m k : Nat} {e : Int} {bs : Nat → Nat} (h : CEr s n bs m e) (hk : k ≤ 20) : ∃ s', itr (fun (x12, s13) => f66_b k x12 s13) am_fu (0, s) = some s' ∧ CEr s' n bs m e ∧ Fr pRu s s' := by
  refine itr_inv (b := fun (x12, s13) => f66_b k x12 s13) (fun (i : Nat) (y : Int × S2) => y.1 = i ∧ i ≤ k ∧ CEr y.2 n bs m e ∧ Fr pRu s y.2) (fun z => CEr z n bs m e ∧ Fr pRu s z) k ?_ am_fu (fu_lt (by omega)) ((0 : Int), s) ⟨rfl, by omega, h, Fr.rf⟩
  rintro i ⟨x, z⟩ hi ⟨g1, g2, g3, g4⟩
  dsimp only at g1 g3 g4 ⊢
  subst g1
  by_cases e : i = k
  · refine Or.inr ⟨z, ?_, g3, g4⟩
    show f66_b k i z = _
    unfold f66_b
    rw [if_pos (by omega)]
  · obtain ⟨z', a1, a2, a3⟩ := g3.add (x := -273)
    refine Or.inl ⟨by omega, (((i + 1 : Nat) : Int), z'), ?_, rfl, by omega, a2, g4.tr a3⟩
    show f66_b k i z = _
    unfold f66_b
    rw [if_neg (by omega), a1, cP_s, bnd, jadd_e (by omega) (by omega)]
    rfl
theorem m66a {s : S2} {n m q c d : Nat} {bs : Nat → Nat} {L : List Int} (h : RA s n bs m q c L) (hd : d ≤ 10) : ∃ z, itr (fun (x2, s3) => f66_a d x2 s3) am_fu (0, s) = some ((((aNot n bs 11 d q).1 - d : Nat) : Int), z) ∧ d ≤ (aNot n bs 11 d q).1 ∧ (aNot n bs 11 d q).1 ≤ 10 ∧ RA z n bs m (aNot n bs 11 d q).2 c L ∧ Fr pRu s z := by
  generalize hT : aNot n bs 11 d q = T
  have key := itr_inv (b := fun (x2, s3) => f66_a d x2 s3) (fun (i : Nat) (y : Int × S2) => y.1 = i ∧ d + i ≤ 10 ∧ Fr pRu s y.2 ∧ ∃ q1, RA y.2 n bs m q1 c L ∧ aNot n bs (11 - i) (d + i) q1 = T) (fun (r : Int × S2) => r.1 = ((T.1 - d : Nat) : Int) ∧ d ≤ T.1 ∧ T.1 ≤ 10 ∧ RA r.2 n bs m T.2 c L ∧ Fr pRu s r.2) 12 (by
    rintro i ⟨x, z⟩ hi ⟨g1, g2, g3, q1, g4, g5⟩
    dsimp only at g1 g3 g4 ⊢
    subst g1
    have ej : jadd (d : Int) i = ((d + i : Nat) : Int) := by rw [jadd_e (by omega) (by omega)]; rfl
    have e5 : jadd (i : Int) 1 = ((i + 1 : Nat) : Int) := by rw [jadd_e (by omega) (by omega)]; rfl
    rw [show 11 - i = (11 - (i + 1)) + 1 by omega] at g5
    unfold aNot at g5
    by_cases v : tK n bs q1 = 273 ∧ d + i < 10
    · rw [if_pos v] at g5
      obtain ⟨z', a1, a2, a3⟩ := g4.step
      refine Or.inl ⟨by omega, (((i + 1 : Nat) : Int), z'), ?_, rfl, by omega, g3.tr a3, _, a2, g5⟩
      show f66_a d i z = _
      unfold f66_a
      rw [g4.1.kind, cP_s, if_neg (fun w => w v.1), ej, if_neg (by omega), a1, cP_s, bnd, e5]
    · rw [if_neg v] at g5
      subst g5
      refine Or.inr ⟨((i : Int), z), ?_, by dsimp only; omega, by dsimp only; omega, by dsimp only; omega, g4, g3⟩
      show f66_a d i z = _
      unfold f66_a
      rw [g4.1.kind, cP_s]
      by_cases w : tK n bs q1 = 273
      · rw [if_neg (fun y => y w), ej, if_pos (by omega)]
      · rw [if_pos w]) am_fu (fu_lt (by omega)) ((0 : Int), s) ⟨rfl, by omega, Fr.rf, q, h, hT⟩
  obtain ⟨⟨x, z⟩, k1, k2, k3, k4, k5, k6⟩ := key
  dsimp only at k2
  subst k2
  exact ⟨z, k1, k3, k4, k5, k6⟩
def RfC (n : Nat) (bs : Nat → Nat) (m D : Nat) (rf : Int → S2 → Option S2) (rt : Nat → Nat → Nat → Int ⊕ PS) : Prop := ∀ (d q c : Nat) (L : List Int) (s : S2), D ≤ d → d ≤ 10 → RA s n bs m q c L → L.length ≤ q → ∃ s', rf d s = some s' ∧ RRes s s' n bs m L (rt d q c)
theorem m66 {s : S2} {n m q c d : Nat} {bs : Nat → Nat} {L : List Int} {rf : Int → S2 → Option S2} {rt : Nat → Nat → Nat → Int ⊕ PS} (h : RA s n bs m q c L) (hL : L.length ≤ q) (hd : d ≤ 10) (hr : RtP n rt) (hrf : RfC n bs m (d + 1) rf rt) : ∃ s', f66r rf d s = some s' ∧ RRes s s' n bs m L (aFact n bs rt d q c) := by
  have hn : n ≤ 400 := h.1.2.2.2
  have hb := h.1.2.2.1
  have hqn := h.1.place.1
  obtain ⟨z, a1, a2, a3, a4, a5⟩ := m66a (d := d) h hd
  have hN := aNot_p (n := n) (bs := bs) hb (f := 11) (d := d) (q := q) hd (by omega) hqn
  unfold f66r aFact
  simp only [jn]
  rw [a1, cP_s]
  generalize aNot n bs 11 d q = N at a1 a2 a3 a4 hN ⊢
  obtain ⟨d1, q1⟩ := N
  dsimp only at a1 a2 a3 a4 hN ⊢
  have ej : jadd (d : Int) ((d1 - d : Nat) : Int) = ((d1 : Nat) : Int) := by rw [jadd_e (by omega) (by omega)]; omega
  -- behind the part
  have fin : ∀ (z2 : S2) (r : Int ⊕ PS), RRes z z2 n bs m L r → (∀ q' c' X, r = .inr (q', c', X) → PrB n q1 c true q' c' X) → ∃ s', (cP (itr (fun (x12, s13) => f66_b ((d1 - d : Nat) : Int) x12 s13) am_fu (0, z2)) fun s16 => some s16) = some s' ∧ RRes s s' n bs m L (bS r fun q3 c3 X => .inr (q3, c3, X ++ List.replicate (d1 - d) (-273))) := by
    intro z2 r hz hp
    obtain ⟨hz1, hz2⟩ := hz
    match r, hz2, hp with
    | .inl e, hz2, _ =>
      obtain ⟨z3, b1, b2, b3⟩ := m66be (k := d1 - d) hz2 (by omega)
      rw [b1, cP_s]
      exact ⟨z3, rfl, (a5.tr hz1).tr b3, b2⟩
    | .inr (q', c', X), hz2, hp =>
      have := (hp q' c' X rfl).1
      obtain ⟨z3, b1, b2, b3⟩ := m66b (k := d1 - d) hz2 (by rw [List.length_append]; omega)
      rw [b1, cP_s]
      rw [List.append_assoc] at b2
      exact ⟨z3, rfl, (a5.tr hz1).tr b3, b2⟩
  have pp : ∀ q' c' X, aFx n bs rt d1 q1 c = .inr (q', c', X) → PrB n q1 c true q' c' X := fun q' c' X hx => aFx_p hb hr hx
  have deep : tK n bs q1 = 273 ∨ (tK n bs q1 = 91 ∧ 10 ≤ d1) → ∃ s', (cP (f34 2 z) fun s17 => cP (itr (fun (x12, s13) => f66_b ((d1 - d : Nat) : Int) x12 s13) am_fu (0, s17)) fun s16 => some s16) = some s' ∧ RRes s s' n bs m L (bS (aFx n bs rt d1 q1 c) fun q3 c3 X => .inr (q3, c3, X ++ List.replicate (d1 - d) (-273))) := fun hw => by
    obtain ⟨z2, b1, b2, b3⟩ := a4.1.refuse (k := 2) (by omega)
    rw [b1, cP_s]
    refine fin z2 _ ⟨b3.ru, ?_⟩ pp
    unfold aFx
    rw [if_pos hw]
    exact b2
  rw [a4.1.kind, cP_s]
  by_cases w1 : tK n bs q1 = 273
  · rw [if_pos w1]
    exact deep (Or.inl w1)
  · rw [if_neg w1]
    by_cases w2 : tK n bs q1 = 91
    · rw [if_neg (fun y => y w2), ej]
      by_cases w3 : (d1 : Int) < 10
      · rw [if_pos w3, if_neg (fun y => y w2)]
        obtain ⟨z2, b1, b2, b3⟩ := a4.step
        have hq := nq_b (bs := bs) (tK_lt (n := n) (q := q1) (bs := bs) (by omega))
        have e1 : jadd (d1 : Int) 1 = ((d1 + 1 : Nat) : Int) := by rw [jadd_e (by omega) (by omega)]; rfl
        obtain ⟨z3, d2, d3⟩ := hrf (d1 + 1) (nq n bs q1) c L z2 (by omega) (by omega) b2 (by omega)
        rw [b1, cP_s, e1, d2, cP_s]
        have ex : aFx n bs rt d1 q1 c = bS (rt (d1 + 1) (nq n bs q1) c) fun q2 c2 X => (if tK n bs q2 = 93 then .inr (nq n bs q2, c2, X) else .inl (1 + 8 * (q2 : Int) + 0)) := by
          unfold aFx
          rw [if_neg (by omega), if_pos w2]
        rw [ex] at pp ⊢
        cases hx : rt (d1 + 1) (nq n bs q1) c with
        | inl e =>
          rw [hx] at d3 pp
          have d4 : CEr z3 n bs m e := d3.2
          rw [d4.expK (by decide), cP_s]
          exact fin z3 (.inl e) ⟨b3.tr d3.1, d4⟩ pp
        | inr p =>
          obtain ⟨q2, c2, X⟩ := p
          rw [hx] at d3 pp
          rw [bS_r] at pp ⊢
          obtain ⟨d3, d4⟩ := d3
          obtain ⟨z4, l1, l2, l3⟩ := RA.expK (K := 93) d4
          rw [l1, cP_s]
          refine fin z4 _ ⟨(b3.tr d3).tr l2, ?_⟩ pp
          by_cases w4 : tK n bs q2 = 93
          · rw [if_pos w4] at l3 ⊢
            exact l3
          · rw [if_neg w4] at l3 ⊢
            exact l3
      · rw [if_neg w3]
        exact deep (Or.inr ⟨w2, by omega⟩)
    · rw [if_pos w2, if_pos w2]
      obtain ⟨z2, b1, b2⟩ := m67 a4 (by omega)
      rw [b1, cP_s]
      refine fin z2 _ ?_ pp
      unfold aFx
      rw [if_neg (by omega), if_neg w2]
      exact b2
theorem m66e {s : S2} {n m d : Nat} {e : Int} {bs : Nat → Nat} {rf : Int → S2 → Option S2} (h : CEr s n bs m e) : f66r rf d s = some s := by
  have hl : itr (fun (x2, s3) => f66_a d x2 s3) am_fu (0, s) = some (0, s) := by
    refine itr_seq (fun _ => ((0 : Int), s)) 0 _ (fun i hi => absurd hi (by omega)) ?_ am_fu (fu_lt (by omega))
    show f66_a d 0 s = _
    unfold f66_a
    rw [h.kind, cP_s, if_pos (by decide)]
  have hl2 : itr (fun (x12, s13) => f66_b 0 x12 s13) am_fu (0, s) = some s := by
    refine itr_seq (fun _ => ((0 : Int), s)) 0 _ (fun i hi => absurd hi (by omega)) ?_ am_fu (fu_lt (by omega))
    show f66_b 0 0 s = _
    unfold f66_b
    rw [if_pos (by omega)]
  unfold f66r
  simp only [jn]
  rw [hl, cP_s]
  dsimp only
  rw [h.kind, cP_s, if_neg (by decide), if_pos (by decide), if_pos (by decide), m67e h, cP_s, hl2, cP_s]
