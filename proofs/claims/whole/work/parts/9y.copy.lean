/-! A WORLD COPIED, in the class -/
def pWo (a f i : Nat) : Bool := (Nat.ble 384 f && Nat.ble f 399 && Nat.beq i a) || (Nat.ble 512 f && Nat.ble f 518 && Nat.ble (32 * a) i && Nat.ble i (32 * a + 21)) || (Nat.ble 1027 f && Nat.ble f 1034 && Nat.beq i a)
theorem pWo_f {a f i : Nat} : pWo a f i = false ↔ ¬ ((384 ≤ f ∧ f ≤ 399 ∧ i = a) ∨ (512 ≤ f ∧ f ≤ 518 ∧ 32 * a ≤ i ∧ i ≤ 32 * a + 21) ∨ (1027 ≤ f ∧ f ≤ 1034 ∧ i = a)) := by
  rw [← Bool.not_eq_true]
  unfold pWo
  simp only [Bool.or_eq_true, Bool.and_eq_true, Nat.beq_eq, Nat.ble_eq, or_assoc, and_assoc]
theorem pWo_t {a f i : Nat} (h : (384 ≤ f ∧ f ≤ 399 ∧ i = a) ∨ (512 ≤ f ∧ f ≤ 518 ∧ 32 * a ≤ i ∧ i ≤ 32 * a + 21) ∨ (1027 ≤ f ∧ f ≤ 1034 ∧ i = a)) : pWo a f i = true := by
  by_cases e : pWo a f i = true
  · exact e
  · exact absurd h (pWo_f.mp (Bool.eq_false_iff.mpr e))
theorem elw {w j : Nat} : am_el 32 w 2 j = 32 * w + 2 + j := rfl
theorem m153a {s : S2} {a b : Nat} (hab : a ≠ b) : ∃ z, itr (fun (x5, s6) => f153_a a b x5 s6) am_fu (0, s) = some z ∧ (∀ j, j < 20 → yv z (32 * a + 2 + j) = yv s (32 * b + 2 + j)) ∧ (∀ f i, ¬ (512 ≤ f ∧ f ≤ 518 ∧ 32 * a + 2 ≤ i ∧ i < 32 * a + 22) → z f i = s f i) := by
  refine itr_inv (b := fun (x5, s6) => f153_a a b x5 s6) (fun (i : Nat) (z : Int × S2) => z.1 = i ∧ (∀ j, j < i → yv z.2 (32 * a + 2 + j) = yv s (32 * b + 2 + j)) ∧ (∀ f i, ¬ (512 ≤ f ∧ f ≤ 518 ∧ 32 * a + 2 ≤ i ∧ i < 32 * a + 22) → z.2 f i = s f i)) (fun (z : S2) => (∀ j, j < 20 → yv z (32 * a + 2 + j) = yv s (32 * b + 2 + j)) ∧ (∀ f i, ¬ (512 ≤ f ∧ f ≤ 518 ∧ 32 * a + 2 ≤ i ∧ i < 32 * a + 22) → z f i = s f i)) 20 ?_ am_fu (fu_lt (by omega)) ((0 : Int), s) ⟨rfl, fun j hj => absurd hj (by omega), fun f i _ => rfl⟩
  rintro i ⟨x, z⟩ hi ⟨g1, g2, g3⟩
  dsimp only at g1 g2 g3 ⊢
  subst g1
  by_cases e : i = 20
  · subst e
    refine Or.inr ⟨z, ?_, g2, g3⟩
    show f153_a a b _ z = _
    unfold f153_a
    rw [if_pos (by omega)]
  · refine Or.inl ⟨by omega, ?_⟩
    obtain ⟨z', k1, k2, k3⟩ := m58 (a := 32 * a + 2 + i) (b := 32 * b + 2 + i) (s := z)
    refine ⟨(((i + 1 : Nat) : Int), z'), ?_, rfl, fun j hj => ?_, fun f q hq => ?_⟩
    · show f153_a a b _ z = _
      unfold f153_a
      rw [if_neg (by omega), ldr_t (by omega) (by omega), ldr_t (by omega) (by omega), Int.toNat_natCast, elw, elw, m286 k1, cP_s, bnd, jadd_e (by omega) (by omega)]
      rfl
    · by_cases q : j = i
      · subst q
        rw [k2]
        refine nY_ext fun f k hr => ?_
        show z f (32 * b + 2 + j) k = s f (32 * b + 2 + j) k
        rw [g3 _ _ (by omega)]
      · rw [← g2 j (by omega)]
        exact k3.yv fun f w1 w2 => pY_f.mpr (by omega)
    · show z' f q = s f q
      rw [k3 _ _ (pY_f.mpr (by omega)), g3 _ _ hq]
theorem m153 {s : S2} {a b : Nat} (hab : a ≠ b) (ht : s 384 b 0 = 0 ∨ s 384 b 0 = 1) : ∃ s', f153 a b s = some s' ∧ cw s' a = cw s b ∧ (∀ j, j < 22 → yv s' (32 * a + j) = yv s (32 * b + j)) ∧ uw s' a = uw s b ∧ Fr (pWo a) s s' := by
  obtain ⟨s1, a1, a2, a3, a4⟩ := m57 hab ht
  obtain ⟨s2, b1, b2, b3⟩ := m58 (a := 32 * a + 0) (b := 32 * b + 0) (s := s1)
  obtain ⟨s3, c1, c2, c3⟩ := m153a (s := s2) hab
  have q1 : ∀ f i, ¬ (384 ≤ f ∧ f ≤ 399 ∧ i = a) → ¬ (512 ≤ f ∧ f ≤ 518 ∧ i = 32 * a + 1) → s1 f i = s f i := fun f i w1 w2 => a4 _ _ (pC_f.mpr ⟨w1, pY_f.mpr w2⟩)
  have q2 : ∀ f i, ¬ (512 ≤ f ∧ f ≤ 518 ∧ i = 32 * a) → s2 f i = s1 f i := fun f i w => b3 _ _ (pY_f.mpr (by omega))
  have q3 : ∀ f i, ¬ (384 ≤ f ∧ f ≤ 399 ∧ i = a) → ¬ (512 ≤ f ∧ f ≤ 518 ∧ 32 * a ≤ i ∧ i ≤ 32 * a + 21) → s3 f i = s f i := fun f i w1 w2 => by
    rw [c3 _ _ (by omega), q2 _ _ (by omega), q1 _ _ w1 (by omega)]
  have hu : ∀ f, 1027 ≤ f → f ≤ 1034 → s3 f b = s f b := fun f g1 g2 => q3 _ _ (by omega) (by omega)
  refine ⟨st2 (st2 (st2 (cp2 (cp2 (cp2 (st2 (st2 s3 1027 a 0 (s 1027 b 0)) 1028 a 0 (s 1028 b 0)) 1029 b 0 1029 a 0 10) 1030 b 0 1030 a 0 10) 1031 b 0 1031 a 0 10) 1032 a 0 (s 1032 b 0)) 1033 a 0 (s 1033 b 0)) 1034 a 0 (s 1034 b 0), ?_, ?_, fun j hj => ?_, ?_, ?_⟩
  · unfold f153
    rw [a1, cP_s, b1, cP_s, c1, cP_s]
    simp (disch := omega) only [bnd, cpy_t]
    have k1 : s3 1027 b 0 = s 1027 b 0 := by rw [hu _ (by omega) (by omega)]
    have k2 : ∀ x, st2 s3 1027 a 0 x 1028 b 0 = s 1028 b 0 := fun x => by rw [st2_ne (by omega), hu _ (by omega) (by omega)]
    rw [k1, k2]
    have k3 : cp2 (cp2 (cp2 (st2 (st2 s3 1027 a 0 (s 1027 b 0)) 1028 a 0 (s 1028 b 0)) 1029 b 0 1029 a 0 10) 1030 b 0 1030 a 0 10) 1031 b 0 1031 a 0 10 1032 b 0 = s 1032 b 0 := by
      rw [cp2_ne (by omega), cp2_ne (by omega), cp2_ne (by omega), st2_ne (by omega), st2_ne (by omega), hu _ (by omega) (by omega)]
    have k4 : cp2 (cp2 (cp2 (st2 (st2 s3 1027 a 0 (s 1027 b 0)) 1028 a 0 (s 1028 b 0)) 1029 b 0 1029 a 0 10) 1030 b 0 1030 a 0 10) 1031 b 0 1031 a 0 10 1033 b 0 = s 1033 b 0 := by
      rw [cp2_ne (by omega), cp2_ne (by omega), cp2_ne (by omega), st2_ne (by omega), st2_ne (by omega), hu _ (by omega) (by omega)]
    have k5 : cp2 (cp2 (cp2 (st2 (st2 s3 1027 a 0 (s 1027 b 0)) 1028 a 0 (s 1028 b 0)) 1029 b 0 1029 a 0 10) 1030 b 0 1030 a 0 10) 1031 b 0 1031 a 0 10 1034 b 0 = s 1034 b 0 := by
      rw [cp2_ne (by omega), cp2_ne (by omega), cp2_ne (by omega), st2_ne (by omega), st2_ne (by omega), hu _ (by omega) (by omega)]
    show some (st2 (st2 (st2 _ 1032 a 0 _) 1033 a 0 _) 1034 a 0 _) = _
    rw [show Int.toNat 0 = 0 from rfl, show Int.toNat 10 = 10 from rfl, k3, st2_ne (f' := 1033) (by omega), k4, st2_ne (f' := 1034) (by omega), st2_ne (f' := 1034) (by omega), k5]
  · refine nC_ext fun f k hr => ?_
    unfold cv
    unfold cr at hr
    rw [st2_ne (by omega), st2_ne (by omega), st2_ne (by omega), cp2_ne (by omega), cp2_ne (by omega), cp2_ne (by omega), st2_ne (by omega), st2_ne (by omega), c3 _ _ (by omega), q2 _ _ (by omega)]
    have := congrFun (congrFun a2 f) k
    rw [cw_t hr, cw_t hr] at this
    exact this
  · have e1 : ∀ (y : Nat), yv (st2 (st2 (st2 (cp2 (cp2 (cp2 (st2 (st2 s3 1027 a 0 (s 1027 b 0)) 1028 a 0 (s 1028 b 0)) 1029 b 0 1029 a 0 10) 1030 b 0 1030 a 0 10) 1031 b 0 1031 a 0 10) 1032 a 0 (s 1032 b 0)) 1033 a 0 (s 1033 b 0)) 1034 a 0 (s 1034 b 0)) y = yv s3 y := fun y => nY_ext fun f k hr => by
      unfold yr at hr
      unfold cv
      rw [st2_ne (by omega), st2_ne (by omega), st2_ne (by omega), cp2_ne (by omega), cp2_ne (by omega), cp2_ne (by omega), st2_ne (by omega), st2_ne (by omega)]
    rw [e1]
    by_cases j0 : j = 0
    · subst j0
      have : yv s3 (32 * a + 0) = yv s2 (32 * a + 0) := nY_ext fun f k hr => by
        unfold cv
        rw [c3 _ _ (by omega)]
      rw [this, b2]
      exact nY_ext fun f k hr => by
        unfold yr at hr
        unfold cv
        rw [q1 _ _ (by omega) (by omega)]
    · by_cases j1 : j = 1
      · subst j1
        have : yv s3 (32 * a + 1) = yv s1 (32 * a + 1) := nY_ext fun f k hr => by
          unfold cv
          rw [c3 _ _ (by omega), q2 _ _ (by omega)]
        rw [this, a3]
      · obtain ⟨j, rfl⟩ : ∃ q, j = 2 + q := ⟨j - 2, by omega⟩
        rw [← Nat.add_assoc, c2 j (by omega), Nat.add_assoc]
        exact nY_ext fun f k hr => by
          unfold yr at hr
          unfold cv
          rw [q2 _ _ (by omega), q1 _ _ (by omega) (by omega)]
  · refine uw_ext fun f k hr => ?_
    rcases hr with ⟨rfl | rfl | rfl | rfl | rfl, rfl⟩ | ⟨h1, h2, h3⟩
    · rw [st2_ne (by omega), st2_ne (by omega), st2_ne (by omega), cp2_ne (by omega), cp2_ne (by omega), cp2_ne (by omega), st2_ne (by omega), st2_eq]
    · rw [st2_ne (by omega), st2_ne (by omega), st2_ne (by omega), cp2_ne (by omega), cp2_ne (by omega), cp2_ne (by omega), st2_eq]
    · rw [st2_ne (by omega), st2_ne (by omega), st2_eq]
    · rw [st2_ne (by omega), st2_eq]
    · rw [st2_eq]
    · have : f = 1029 ∨ f = 1030 ∨ f = 1031 := by omega
      rw [st2_ne (by omega), st2_ne (by omega), st2_ne (by omega)]
      rcases this with rfl | rfl | rfl
      · rw [cp2_ne (by omega), cp2_ne (by omega), cp2_in h3, st2_ne (by omega), st2_ne (by omega), hu _ (by omega) (by omega)]
      · rw [cp2_ne (by omega), cp2_in h3, cp2_ne (by omega), st2_ne (by omega), st2_ne (by omega), hu _ (by omega) (by omega)]
      · rw [cp2_in h3, cp2_ne (by omega), cp2_ne (by omega), st2_ne (by omega), st2_ne (by omega), hu _ (by omega) (by omega)]
  · intro f i w
    have w := pWo_f.mp w
    funext k
    rw [st2_ne (by omega), st2_ne (by omega), st2_ne (by omega), cp2_ne (by omega), cp2_ne (by omega), cp2_ne (by omega), st2_ne (by omega), st2_ne (by omega), q3 _ _ (by omega) (by omega)]
