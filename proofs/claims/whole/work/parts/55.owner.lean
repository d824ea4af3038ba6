/-- rule r of the model is the law's row code -/
def MLaw (t : S2) (r : Nat) (code : List Int) : Prop := r < 6 ∧ ∃ (n : Nat) (S T : Nat → List Int) (a : Nat → Nat), n ≤ 12 ∧ t 1582 0 r = n ∧ code = encF S T 0 n ∧ ∀ c, c < n → wfS (S c) (T c) ∧ a c + (S c).length + (T c).length ≤ 300 ∧ t 1583 0 (12 * r + c) = a c ∧ t 1584 0 (12 * r + c) = ((a c + (S c).length : Nat) : Int) ∧ t 1585 0 (12 * r + c) = ((a c + (S c).length + (T c).length : Nat) : Int) ∧ (∀ k, k < (S c).length → entM t r (a c + k) ((S c).getD k 0)) ∧ ∀ k, k < (T c).length → entM t r (a c + (S c).length + k) ((T c).getD k 0)
theorem entM.fr {t t' : S2} {r j : Nat} {op : Int} (h : entM t r j op) (e1 : t' 1580 0 = t 1580 0) (e2 : t' 1581 0 = t 1581 0) : entM t' r j op := by
  unfold entM
  rw [e1, e2]
  exact h
theorem MLaw.fr {t t' : S2} {r : Nat} {code : List Int} {P : Nat → Nat → Bool} (h : MLaw t r code) (e : Fr P t t') (hp : ∀ f, 1580 ≤ f → f ≤ 1585 → P f 0 = false) : MLaw t' r code := by
  obtain ⟨hr, n, S, T, a, h1, h2, h3, h4⟩ := h
  refine ⟨hr, n, S, T, a, h1, ?_, h3, fun c hc => ?_⟩
  · rw [e 1582 0 (hp _ (by omega) (by omega))]; exact h2
  · obtain ⟨g1, g2, g3, g4, g5, g6, g7⟩ := h4 c hc
    rw [e 1583 0 (hp _ (by omega) (by omega)), e 1584 0 (hp _ (by omega) (by omega)), e 1585 0 (hp _ (by omega) (by omega))]
    exact ⟨g1, g2, g3, g4, g5, fun k hk => (g6 k hk).fr (e _ _ (hp _ (by omega) (by omega))) (e _ _ (hp _ (by omega) (by omega))), fun k hk => (g7 k hk).fr (e _ _ (hp _ (by omega) (by omega))) (e _ _ (hp _ (by omega) (by omega)))⟩
theorem m205_i {r : Nat} (hr : r < 6) : jmul 12 (r : Int) = ((12 * r + 0 : Nat) : Int) := by rw [jmul_e (by omega) (by omega)]; omega
theorem m205_n {r n : Nat} (hr : r < 6) (hn : n ≤ 12) : jadd (jmul 12 (r : Int)) (n : Int) = ((12 * r + n : Nat) : Int) := by rw [jmul_e (by omega) (by omega), jadd_e (by omega) (by omega)]; omega
theorem m205 {r : Nat} {t : S2} {v : Int → Int} {code : List Int} (hL : MLaw t r code) (hr : t 1537 0 10 = r) (hv : ∀ w : Nat, w < 13 → t 1587 0 w = v (256 + w)) : ∃ t', f205 t = some (runL v code [], t') ∧ Fr pE t t' := by
  obtain ⟨hr6, n, S, T, a, h1, h2, h3, h4⟩ := hL
  unfold f205
  rw [ld_t (by omega) (by omega), show t 1537 0 (Int.toNat 10) = r from hr, bnd, m205_i hr6]
  refine inv_cP (a := (((12 * r + 0 : Nat) : Int), t)) (P := fun e => ∃ t', e = some (runL v code [], t') ∧ Fr pE t t') (fun (c : Nat) (y : Int × S2) => y.1 = ((12 * r + c : Nat) : Int) ∧ Fr pE t y.2 ∧ runL v (encF S T c (n - c)) [] = runL v code []) (fun (y : (Int × S2) ⊕ S2) => match y with
    | .inl (z, y) => Fr pE t y ∧ ∃ c x, c < n ∧ z = ((12 * r + c : Nat) : Int) ∧ evS v (S c) [] = [x] ∧ runL v code [] = x
    | .inr y => Fr pE t y ∧ runL v code [] = 0) n (by omega) ⟨rfl, Fr.rf, by rw [h3]; rfl⟩ ?_ ?_
  · rintro c ⟨z, y⟩ hc ⟨g1, hF, g2⟩
    dsimp only at g1 hF g2 ⊢
    subst g1
    have q1 : y 1582 0 r = n := by rw [hF 1582 0 (pE_f.mpr (by omega))]; exact h2
    by_cases e : c = n
    · right
      refine ⟨.inr y, ?_, hF, ?_⟩
      · show f205_a r _ y = _
        unfold f205_a
        rw [ld_t (by omega) (by omega), Int.toNat_natCast, q1, m205_n hr6 h1, if_pos (by omega)]
      · rw [← g2, e, Nat.sub_self]; rfl
    · have hcn : c < n := by omega
      obtain ⟨w1, w2, w3, w4, w5, w6, w7⟩ := h4 c hcn
      have q4 : y 1584 0 (12 * r + c) = ((a c + (S c).length : Nat) : Int) := by rw [hF 1584 0 (pE_f.mpr (by omega))]; exact w4
      have q5 : y 1585 0 (12 * r + c) = ((a c + (S c).length + (T c).length : Nat) : Int) := by rw [hF 1585 0 (pE_f.mpr (by omega))]; exact w5
      have hokS := evS_ok (v := v) (st := []) (t := []) (ops := S c) trivial w1.1
      obtain ⟨x, hx⟩ : ∃ x, evS v (S c) [] = [x] := by
        match evS v (S c) [], hokS with
        | [x], _ => exact ⟨x, rfl⟩
      have hm : n - c = (n - (c + 1)) + 1 := by omega
      rw [hm, runL_encF w1 hx] at g2
      by_cases hT : T c = []
      · right
        rw [if_pos hT] at g2
        refine ⟨.inl (((12 * r + c : Nat) : Int), y), ?_, hF, c, x, hcn, rfl, hx, g2.symm⟩
        show f205_a r _ y = _
        unfold f205_a
        rw [ld_t (by omega) (by omega), Int.toNat_natCast, q1, m205_n hr6 h1, if_neg (by omega), ld_t (by omega) (by omega), ld_t (by omega) (by omega), Int.toNat_natCast, q4, q5, hT, if_pos (by simp)]
      · rw [if_neg hT] at g2
        have w8 := w1.2.resolve_left hT
        have hEy : ∀ k, k < (T c).length → entM y r (a c + (S c).length + k) ((T c).getD k 0) := fun k hk => (w7 k hk).fr (hF _ _ (pE_f.mpr (by omega))) (hF _ _ (pE_f.mpr (by omega)))
        have hvy : ∀ w : Nat, w < 13 → y 1587 0 w = v (256 + w) := fun w hw => by
          rw [hF 1587 0 (pE_f.mpr (by omega))]; exact hv w hw
        obtain ⟨b, y', k1, k2, k3, k4⟩ := m206 hr6 w2 hEy hvy w8.1
        rw [k1] at g2
        have hlen : 0 < (T c).length := List.length_pos_iff.mpr hT
        have hstep : f205_a r ((12 * r + c : Nat) : Int) y = if ¬ jcmp b 1 = 0 then bnd (jadd ((12 * r + c : Nat) : Int) 1) fun v13 => some (.inl (v13, y')) else some (.inr (.inl (((12 * r + c : Nat) : Int), y'))) := by
          unfold f205_a
          rw [ld_t (by omega) (by omega), Int.toNat_natCast, q1, m205_n hr6 h1, if_neg (by omega), ld_t (by omega) (by omega), ld_t (by omega) (by omega), Int.toNat_natCast, q4, q5, if_neg (by omega), ld_t (by omega) (by omega), ld_t (by omega) (by omega), Int.toNat_natCast, q4, q5, k3, cR_s]
        rcases k2 rfl with rfl | rfl
        · left
          refine ⟨hcn, (((12 * r + (c + 1) : Nat) : Int), y'), ?_, rfl, hF.tr k4, ?_⟩
          · show f205_a r _ y = _
            rw [hstep, if_pos (by decide), bnd, jadd_e (by omega) (by omega)]
            congr 3
          · simpa using g2
        · right
          refine ⟨.inl (((12 * r + c : Nat) : Int), y'), ?_, hF.tr k4, c, x, hcn, rfl, hx, by simpa using g2.symm⟩
          show f205_a r _ y = _
          rw [hstep, if_neg (by decide)]
  · rintro (⟨z, y⟩ | y)
    · rintro ⟨hF, c, x, hcn, rfl, hx, hX⟩
      obtain ⟨w1, w2, w3, w4, w5, w6, w7⟩ := h4 c hcn
      have q3 : y 1583 0 (12 * r + c) = a c := by rw [hF 1583 0 (pE_f.mpr (by omega))]; exact w3
      have q4 : y 1584 0 (12 * r + c) = ((a c + (S c).length : Nat) : Int) := by rw [hF 1584 0 (pE_f.mpr (by omega))]; exact w4
      have hEy : ∀ k, k < (S c).length → entM y r (a c + k) ((S c).getD k 0) := fun k hk => (w6 k hk).fr (hF _ _ (pE_f.mpr (by omega))) (hF _ _ (pE_f.mpr (by omega)))
      have hvy : ∀ w : Nat, w < 13 → y 1587 0 w = v (256 + w) := fun w hw => by
        rw [hF 1587 0 (pE_f.mpr (by omega))]; exact hv w hw
      obtain ⟨b, y', k1, k2, k3, k4⟩ := m206 hr6 (by omega) hEy hvy w1.1
      rw [hx] at k1
      cases k1
      refine ⟨y', ?_, hF.tr k4⟩
      show (ld y 1583 0 72 _ fun v17 => _) = _
      rw [ld_t (by omega) (by omega), ld_t (by omega) (by omega), Int.toNat_natCast, q3, q4, k3, cR_s, hX]
    · rintro ⟨hF, hX⟩
      exact ⟨y, by rw [hX]; rfl, hF⟩
