/-! THE LAW'S LOOP -/
theorem lds_t {α : Type} {X : X2} {x : Int} {k : Int → Option α} (h : 0 ≤ x ∧ x < X.1) : lds X x k = k (X.2 x.toNat) := if_pos h
theorem two_R {γ : Type} {y : Int} {A : Option (Int × S2)} {B : S2 → Option (Int × S2)} {k2 : S2 → Option ((Int × S2) ⊕ γ)} (h : ∃ r s1 s2, A = some (r, s1) ∧ B s1 = some (r, s2) ∧ Inv s2) : ∃ s', (cR A fun r s => cR (B s) fun r' s' => if r = r' then (bnd y fun v => some (.inl (v, s'))) else k2 s') = some (.inl (y, s')) ∧ Inv s' := by
  obtain ⟨r, s1, s2, h1, h2, h3⟩ := h
  rw [h1, cR_s, h2, cR_s, if_pos rfl, bnd]
  exact ⟨s2, rfl, h3⟩
theorem two_P {γ : Type} {y : Int} {s : S2} {A B : Option Int} {k2 : Option ((Int × S2) ⊕ γ)} (hI : Inv s) (h : ∃ r, A = some r ∧ B = some r) : ∃ s', (cP A fun r => cP B fun r' => if r = r' then (bnd y fun v => some (.inl (v, s))) else k2) = some (.inl (y, s')) ∧ Inv s' := by
  obtain ⟨r, h1, h2⟩ := h
  rw [h1, cP_s, h2, cP_s, if_pos rfl, bnd]
  exact ⟨s, rfl, hI⟩
theorem two_A {s : S2} {A : Option (Int × S2)} {B : S2 → Option (Int × S2)} (hI : Inv s) (h : ∃ r s1 s2, A = some (r, s1) ∧ B s1 = some (r, s2) ∧ Ask s s2) : ∃ r s1 s2, A = some (r, s1) ∧ B s1 = some (r, s2) ∧ Inv s2 := by
  obtain ⟨r, s1, s2, h1, h2, h3⟩ := h
  exact ⟨r, s1, s2, h1, h2, hI.ask h3⟩
theorem step287 {X : X2} {x : Nat} {s : S2} (h : Inv s) (hx : ∀ k, k < X.1 → i32 (X.2 k)) (hx1 : x + 6 ≤ X.1) (hX : X.1 ≤ 3072) (hc : ∃ r s1 s2, f18 s = some (r, s1) ∧ f159 s1 = some (r, s2) ∧ Inv s2) (hr : ∃ r s1 s2, f59 s = some (r, s1) ∧ f181 s1 = some (r, s2) ∧ Inv s2) : ∃ s', f287_a X x s = some (.inl (((x + 6 : Nat) : Int), s')) ∧ Inv s' := by
  obtain ⟨R, K, -, -, hR⟩ := h.rel
  have e6 : jadd (x : Int) 6 = ((x + 6 : Nat) : Int) := jadd_e (by omega) (by omega)
  have L0 : ∀ {α : Type} (k : Int → Option α), lds X (x : Int) k = k (X.2 x) := fun k => lds_t (by omega)
  have L1 : ∀ {α : Type} (k : Int → Option α), lds X (jadd (x : Int) 1) k = k (X.2 (x + 1)) := fun k => by
    rw [jadd_e (by omega) (by omega), lds_t (by omega), show ((x : Int) + 1).toNat = x + 1 by omega]
  have i1 : i32 (X.2 (x + 1)) := hx _ (by omega)
  have L2 : ∀ {α : Type} (k : Int → Option α), lds X (jadd (x : Int) 2) k = k (X.2 (x + 2)) := fun k => by
    rw [jadd_e (by omega) (by omega), lds_t (by omega), show ((x : Int) + 2).toNat = x + 2 by omega]
  have i2 : i32 (X.2 (x + 2)) := hx _ (by omega)
  have L3 : ∀ {α : Type} (k : Int → Option α), lds X (jadd (x : Int) 3) k = k (X.2 (x + 3)) := fun k => by
    rw [jadd_e (by omega) (by omega), lds_t (by omega), show ((x : Int) + 3).toNat = x + 3 by omega]
  have i3 : i32 (X.2 (x + 3)) := hx _ (by omega)
  have L4 : ∀ {α : Type} (k : Int → Option α), lds X (jadd (x : Int) 4) k = k (X.2 (x + 4)) := fun k => by
    rw [jadd_e (by omega) (by omega), lds_t (by omega), show ((x : Int) + 4).toNat = x + 4 by omega]
  have i4 : i32 (X.2 (x + 4)) := hx _ (by omega)
  have L5 : ∀ {α : Type} (k : Int → Option α), lds X (jadd (x : Int) 5) k = k (X.2 (x + 5)) := fun k => by
    rw [jadd_e (by omega) (by omega), lds_t (by omega), show ((x : Int) + 5).toNat = x + 5 by omega]
  have i5 : i32 (X.2 (x + 5)) := hx _ (by omega)
  rw [← e6]
  unfold f287_a
  rw [jsub_e (by omega) (by omega), if_neg (by omega), L0]
  generalize jand (X.2 x) 63 = w
  by_cases w0 : w = 0
  · rw [if_pos w0]
    simp only [L1, L2, L3, L4, L5]
    exact two_R (call_feed h )
  rw [if_neg w0]
  by_cases w1 : w = 1
  · rw [if_pos w1]
    simp only [L1]
    exact two_R (call_end h )
  rw [if_neg w1]
  by_cases w2 : w = 2
  · rw [if_pos w2]
    exact two_R hc
  rw [if_neg w2]
  by_cases w3 : w = 3
  · rw [if_pos w3]
    exact two_R hr
  rw [if_neg w3]
  by_cases w4 : w = 4
  · rw [if_pos w4]
    simp only [L1]
    exact two_R (call_force h i1)
  rw [if_neg w4]
  by_cases w5 : w = 5
  · rw [if_pos w5]
    simp only [L1, L2]
    exact two_R (two_A h (call_family hR i1))
  rw [if_neg w5]
  by_cases w6 : w = 6
  · rw [if_pos w6]
    simp only [L1, L2]
    exact two_R (two_A h (call_line hR i1))
  rw [if_neg w6]
  by_cases w7 : w = 7
  · rw [if_pos w7]
    simp only [L1, L2]
    exact two_P h (call_linen hR i1)
  rw [if_neg w7]
  by_cases w8 : w = 8
  · rw [if_pos w8]
    exact two_R (call_hour h )
  rw [if_neg w8]
  by_cases w9 : w = 9
  · rw [if_pos w9]
    simp only [L1, L2]
    exact two_R (call_hang h i1 i2)
  rw [if_neg w9]
  by_cases w10 : w = 10
  · rw [if_pos w10]
    simp only [L1]
    exact two_R (call_take h i1)
  rw [if_neg w10]
  by_cases w11 : w = 11
  · rw [if_pos w11]
    simp only [L1]
    exact two_R (call_wash h i1)
  rw [if_neg w11]
  by_cases w12 : w = 12
  · rw [if_pos w12]
    simp only [L1]
    exact two_R (call_cut h i1)
  rw [if_neg w12]
  by_cases w13 : w = 13
  · rw [if_pos w13]
    simp only [L1]
    exact two_R (call_mend h i1)
  rw [if_neg w13]
  by_cases w14 : w = 14
  · rw [if_pos w14]
    exact two_R (call_undo h )
  rw [if_neg w14]
  by_cases w15 : w = 15
  · rw [if_pos w15]
    simp only [L1, L2, L3]
    exact two_R (two_A h (call_ahead hR i1 i2 i3))
  rw [if_neg w15]
  by_cases w16 : w = 16
  · rw [if_pos w16]
    simp only [L1]
    exact two_R (two_A h (call_dries hR i1))
  rw [if_neg w16]
  by_cases w17 : w = 17
  · rw [if_pos w17]
    simp only [L1, L2, L3]
    exact two_R (two_A h (call_most hR i1 i2 i3))
  rw [if_neg w17]
  by_cases w18 : w = 18
  · rw [if_pos w18]
    simp only [L1, L2, L3, L4]
    exact two_R (two_A h (call_game hR i1 i2 i3 i4))
  rw [if_neg w18]
  by_cases w19 : w = 19
  · rw [if_pos w19]
    simp only [L1, L2]
    exact two_R (two_A h (call_free hR i1 i2))
  rw [if_neg w19]
  by_cases w20 : w = 20
  · rw [if_pos w20]
    simp only [L1, L2, L3]
    exact two_R (two_A h (call_few hR i1 i2 i3))
  rw [if_neg w20]
  by_cases w21 : w = 21
  · rw [if_pos w21]
    simp only [L1, L2, L3]
    exact two_R (two_A h (call_way hR i1 i2 i3))
  rw [if_neg w21]
  by_cases w22 : w = 22
  · rw [if_pos w22]
    simp only [L1]
    exact two_P h (call_bears hR i1)
  rw [if_neg w22]
  by_cases w23 : w = 23
  · rw [if_pos w23]
    simp only [L1]
    exact two_P h (call_storm hR i1)
  rw [if_neg w23]
  by_cases w24 : w = 24
  · rw [if_pos w24]
    simp only [L1, L2]
    exact two_R (two_A h (call_worth hR i1 i2))
  rw [if_neg w24]
  by_cases w25 : w = 25
  · rw [if_pos w25]
    simp only [L1, L2, L3]
    exact two_R (call_log h i1 i2 i3)
  rw [if_neg w25]
  by_cases w26 : w = 26
  · rw [if_pos w26]
    simp only [L1]
    exact two_R (two_A h (call_ruled h i1))
  rw [if_neg w26]
  by_cases w27 : w = 27
  · rw [if_pos w27]
    simp only [L1, L2]
    exact two_R (two_A h (call_look h i1 i2))
  rw [if_neg w27]
  by_cases w28 : w = 28
  · rw [if_pos w28]
    simp only [L1, L2, L3]
    exact two_R (two_A h (call_laws h i1 i2 i3))
  rw [if_neg w28]
  by_cases w29 : w = 29
  · rw [if_pos w29]
    simp only [L1]
    exact two_R (call_seed h i1)
  rw [if_neg w29]
  by_cases w30 : w = 30
  · rw [if_pos w30]
    simp only [L1, L2, L3, L4]
    exact two_R (two_A h (call_years h i1 i2 i3 i4))
  rw [if_neg w30]
  by_cases w31 : w = 31
  · rw [if_pos w31]
    simp only [L1]
    exact two_P h (call_count h )
  rw [if_neg w31]
  by_cases w32 : w = 32
  · rw [if_pos w32]
    simp only [L1]
    exact two_R (call_image h i1)
  rw [if_neg w32]
  by_cases w33 : w = 33
  · rw [if_pos w33]
    simp only [L1]
    exact two_R (call_back h i1)
  rw [if_neg w33]
  exact ⟨s, by rw [bnd], h⟩
theorem m287 {X : X2} {s : S2} (h : Inv s) (hx : ∀ k, k < X.1 → i32 (X.2 k)) (hX : X.1 ≤ 3072) (hc : ∀ s, Inv s → ∃ r s1 s2, f18 s = some (r, s1) ∧ f159 s1 = some (r, s2) ∧ Inv s2) (hr : ∀ s, Inv s → ∃ r s1 s2, f59 s = some (r, s1) ∧ f181 s1 = some (r, s2) ∧ Inv s2) : ∃ s', f287 X s = some (1, s') := by
  unfold f287
  refine inv_cP (a := ((0 : Int), s)) (P := fun e => ∃ s', e = some ((1 : Int), s')) (fun (i : Nat) (z : Int × S2) => z.1 = ((6 * i : Nat) : Int) ∧ Inv z.2) (fun r => ∃ s, r = .inr (.inr (.inr (.inr (.inr (.inr (.inr (.inr (.inr (.inr (.inr (.inr (.inr (.inr (.inr (.inr (.inr (.inr (.inr (.inr (.inr (.inr (.inr (.inr (.inr (.inr (.inr (.inr (.inr (.inr (.inr (.inr (.inr (.inr s)))))))))))))))))))))))))))))))))) 600 (by decide) ⟨rfl, h⟩ ?_ ?_
  · rintro i ⟨x, z⟩ hi ⟨g1, g2⟩
    dsimp only at g1 g2 ⊢
    subst g1
    by_cases q : 6 * i + 6 ≤ X.1
    · obtain ⟨z', k1, k2⟩ := step287 g2 hx q hX (hc z g2) (hr z g2)
      exact Or.inl ⟨by omega, ⟨_, z'⟩, k1, rfl, k2⟩
    · refine Or.inr ⟨_, ?_, z, rfl⟩
      show f287_a X _ z = _
      unfold f287_a
      rw [jsub_e (by omega) (by omega), if_pos (by omega)]
  · rintro r ⟨s', rfl⟩
    exact ⟨s', rfl⟩
