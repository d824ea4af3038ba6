theorem m19l {s : S2} {n m q0 : Nat} {bs : Nat → Nat} (h : CAt s n bs m q0) (hC : CB (cw s 5)) (hB : BD (cw s 5) (yv s 161)) : ∃ r, itr (fun (x3, s4) => f19_a x3 s4) am_fu (0, s) = some r ∧ ((∃ z, r = .inl z ∧ clN n bs 41 0 q0 (cw s 5) (yv s 161) = .inr (cw z 5, yv z 161) ∧ CB (cw z 5) ∧ BD (cw z 5) (yv z 161) ∧ Fr pDr s z) ∨ (∃ z e, r = .inr z ∧ clN n bs 41 0 q0 (cw s 5) (yv s 161) = .inl e ∧ CEr z n bs m e ∧ CS (cw z 5) ∧ Fr pDr s z)) := by
  generalize hT : clN n bs 41 0 q0 (cw s 5) (yv s 161) = T
  refine itr_inv (b := fun (x3, s4) => f19_a x3 s4) (fun (i : Nat) (z : Int × S2) => z.1 = i ∧ Fr pDr s z.2 ∧ ((i ≤ 40 ∧ ∃ q, CAt z.2 n bs m q ∧ CB (cw z.2 5) ∧ BD (cw z.2 5) (yv z.2 161) ∧ clN n bs (41 - i) i q (cw z.2 5) (yv z.2 161) = T) ∨ (∃ e, T = .inl e ∧ CEr z.2 n bs m e ∧ CS (cw z.2 5)))) (fun (r : S2 ⊕ S2) => (∃ z, r = .inl z ∧ T = .inr (cw z 5, yv z 161) ∧ CB (cw z 5) ∧ BD (cw z 5) (yv z 161) ∧ Fr pDr s z) ∨ (∃ z e, r = .inr z ∧ T = .inl e ∧ CEr z n bs m e ∧ CS (cw z 5) ∧ Fr pDr s z)) 50 ?_ am_fu (fu_lt (by omega)) ((0 : Int), s) ⟨rfl, Fr.rf, Or.inl ⟨by omega, q0, h, hC, hB, hT⟩⟩
  rintro i ⟨x, z⟩ hi ⟨g1, g2, g3⟩
  dsimp only at g1 g2 g3 ⊢
  subst g1
  rcases g3 with ⟨g3, q, g4, g5, g6, g7⟩ | ⟨e, g3, g4, g5⟩
  · obtain ⟨s', k1, k2⟩ := m19a (x := i) g4 g5 g3
    have ej : jadd (i : Int) 1 = ((i + 1 : Nat) : Int) := by rw [jadd_e (by omega) (by omega)]; rfl
    rw [show 41 - i = (40 - i) + 1 by omega] at g7
    unfold clN at g7
    have g1 := k1.1
    have g2' := g2.tr g1
    cases hx : clX n bs i q (cw z 5) (yv z 161) with
    | inl e =>
      rw [hx] at g7 k1
      dsimp only at g7
      obtain ⟨-, c1, c2⟩ := k1
      have c3 := c1.2.2.1
      refine Or.inl ⟨by omega, (((i + 1 : Nat) : Int), s'), ?_, rfl, g2', Or.inr ⟨e, g7.symm, c1, c2⟩⟩
      show f19_a i z = _
      rw [k2, c1.2.1, bnd, if_pos (show ¬ e = 0 by omega), c1.expect, cP_s, ej]
    | inr t =>
      obtain ⟨q', C', B'⟩ := t
      have hne : i ≠ 40 := fun w => by
        subst w
        obtain ⟨e, he⟩ := clX_40 (n := n) (q := q) (bs := bs) (C := cw z 5) (B := yv z 161)
        rw [he] at hx
        cases hx
      obtain ⟨w1, w2⟩ := clX_k g5 g6 hx
      rw [hx] at g7 k1
      dsimp only at g7
      obtain ⟨-, c1, c2, c3⟩ := k1
      subst c2 c3
      have st0 : f19_a i z = if ¬ tK n bs q' = 0 then (cP (f55 59 s') fun s10 => some (.inl (jadd i 1, s10))) else some (.inr (.inl s')) := by
        rw [k2, c1.2.1, bnd, if_neg (show ¬ ¬ (0 : Int) = 0 by decide), c1.kind, cP_s]
      by_cases t0 : tK n bs q' = 0
      · rw [if_pos t0] at g7
        refine Or.inr ⟨.inl s', ?_, Or.inl ⟨s', rfl, g7.symm, w1, w2, g2'⟩⟩
        show f19_a i z = _
        rw [st0, if_neg (fun y => y t0)]
      · rw [if_neg t0] at g7
        obtain ⟨s3, l1, l2, l3⟩ := c1.expect
        have hc : cw s3 5 = cw s' 5 := cw13 l2
        have hy : yv s3 161 = yv s' 161 := yv13 l2
        refine Or.inl ⟨by omega, (((i + 1 : Nat) : Int), s3), ?_, rfl, g2'.tr l2.p13, ?_⟩
        · show f19_a i z = _
          rw [st0, if_pos t0, l1, cP_s, ej]
        · by_cases t9 : tK n bs q' = 59
          · rw [if_pos t9] at g7 l3
            refine Or.inl ⟨by omega, nq n bs q', l3, by rw [hc]; exact w1, by rw [hc, hy]; exact w2, ?_⟩
            dsimp only
            rw [hc, hy, show 41 - (i + 1) = 40 - i by omega]
            exact g7
          · rw [if_neg t9] at g7 l3
            exact Or.inr ⟨_, g7.symm, l3, by rw [hc]; exact w1.cs⟩
  · refine Or.inr ⟨.inr z, ?_, Or.inr ⟨z, e, rfl, g3, g4, g5, g2⟩⟩
    show f19_a i z = _
    unfold f19_a
    by_cases y : (40 : Int) < i
    · rw [if_pos y]
    · have := g4.2.2.1
      rw [if_neg y, g4.2.1, bnd, if_pos (show ¬ e = 0 by omega)]
