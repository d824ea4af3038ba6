/-! trial hours by a law: court c, law r -/
def Hr (s : S2) (c r : Nat) (C : V2) (code : List Int) : Prop := s 1153 0 0 = c ∧ s 1154 0 0 = r ∧ hasL s r code ∧ wfc code [] ∧ cw s c = C ∧ CB C
theorem Hr.fr {s s' : S2} {c r : Nat} {C : V2} {code : List Int} {P : Nat → Nat → Bool} (h : Hr s c r C code) (e : Fr P s s') (h1 : P 1153 0 = false) (h2 : P 1154 0 = false) (h3 : P 768 r = false) (h4 : P 769 r = false) (h5 : ∀ f, 384 ≤ f → f ≤ 399 → P f c = false) : Hr s' c r C code := by
  obtain ⟨a1, a2, a3, a4, a5, a6⟩ := h
  refine ⟨?_, ?_, a3.fr (e _ _ h4) (e _ _ h3), a4, ?_, a6⟩
  · rw [e _ _ h1]; exact a1
  · rw [e _ _ h2]; exact a2
  · rw [e.cw h5]; exact a5
theorem pP_c {r f i : Nat} (h1 : 384 ≤ f) (h2 : f ≤ 399) : pP r f i = false := pP_f.mpr ⟨pM_f.mpr (by omega), pA_f.mpr (by omega), pY_f.mpr (by omega)⟩
theorem pP_o {r f i : Nat} (h : f < 512 ∨ (518 < f ∧ f < 770) ∨ (771 < f ∧ f < 1155) ∨ 1161 < f) : pP r f i = false := pP_f.mpr ⟨pM_f.mpr (by omega), pA_f.mpr (by omega), pY_f.mpr (by omega)⟩
theorem pP_y {r f i : Nat} (h1 : 512 ≤ f) (h2 : f ≤ 518) (h : i ≠ 160) : pP r f i = false := pP_f.mpr ⟨pM_f.mpr (by omega), pA_f.mpr (by omega), pY_f.mpr (by omega)⟩
theorem Hr.pP {s s' : S2} {c r : Nat} {C : V2} {code : List Int} (h : Hr s c r C code) (e : Fr (pP r) s s') : Hr s' c r C code := h.fr e (pP_o (by omega)) (pP_o (by omega)) (pP_o (by omega)) (pP_o (by omega)) (fun f h1 h2 => pP_c h1 h2)
theorem m94h {d : Int} {r c : Nat} {s : S2} {C Y : V2} {code : List Int} (h : Hr s c r C code) (hy : yv s 160 = Y) (hY : YB C Y) : ∃ s', f94 d s = some (passG C Y (rainI C Y d) code, s') ∧ yv s' 160 = passY C Y (rainI C Y d) code ∧ Fr (pP r) s s' := by
  obtain ⟨a1, a2, a3, a4, rfl, a6⟩ := h
  subst hy
  exact m94 a1 a2 a3 a4 a6 hY
def passN (C : V2) (code : List Int) : Nat → V2 → V2
  | 0, Y => Y
  | n + 1, Y => passY C (passN C code n Y) (rainI C (passN C code n Y) 0) code
theorem passN_h {C Y : V2} {code : List Int} : ∀ {n : Nat}, passN C code n Y 512 0 = Y 512 0 + n
  | 0 => by simp [passN]
  | n + 1 => by
    have : passN C code (n + 1) Y 512 0 = passN C code n Y 512 0 + 1 := (nY_t yr512).trans rfl
    rw [this, passN_h (n := n)]
    omega
theorem passN_YB {C Y : V2} {code : List Int} (hC : CB C) (hY : YB C Y) : ∀ {n : Nat}, Y 512 0 + n ≤ 5000 → YB C (passN C code n Y)
  | 0, _ => hY
  | n + 1, h => passY_YB hC (passN_YB hC hY (n := n) (by omega)) (by rw [passN_h]; omega)
theorem m107 {n : Nat} {r c : Nat} {s : S2} {C Y : V2} {code : List Int} (h : Hr s c r C code) (hy : yv s 160 = Y) (hY : YB C Y) (hn : n ≤ 1000) (hh : Y 512 0 + n ≤ 5000) : ∃ s', f107 n s = some s' ∧ yv s' 160 = passN C code n Y ∧ Fr (pP r) s s' := by
  unfold f107
  refine inv_cP (a := (0, s)) (P := fun e => ∃ s', e = some s' ∧ yv s' 160 = passN C code n Y ∧ Fr (pP r) s s') (fun (i : Nat) (z : Int × S2) => z.1 = i ∧ yv z.2 160 = passN C code i Y ∧ Fr (pP r) s z.2) (fun z => yv z 160 = passN C code n Y ∧ Fr (pP r) s z) n (by omega) ⟨rfl, hy, Fr.rf⟩ ?_ ?_
  · rintro i ⟨x, z⟩ hi ⟨g1, g2, hF⟩
    dsimp only at g1 g2 hF ⊢
    subst g1
    by_cases e : i = n
    · subst e
      refine Or.inr ⟨z, ?_, g2, hF⟩
      show f107_a i i z = _
      unfold f107_a
      rw [if_pos (by omega)]
    · refine Or.inl ⟨by omega, ?_⟩
      obtain ⟨z', k1, k2, k3⟩ := m94h (d := 0) (h.pP hF) g2 (passN_YB h.2.2.2.2.2 hY (by omega))
      refine ⟨(((i + 1 : Nat) : Int), z'), ?_, rfl, k2, hF.tr k3⟩
      show f107_a n i z = _
      unfold f107_a
      rw [if_neg (by omega), k1, cR_s, bnd, jadd_e (by omega) (by omega)]
      rfl
  · rintro z ⟨g1, g2⟩
    exact ⟨z, rfl, g1, g2⟩
/-! hanging, by views -/
theorem cells_n {s : S2} {c y : Nat} {l : Int} : cells (cv s c) (cv s y) l = cells (cw s c) (yv s y) l := sumI_congr fun i hi => by rw [yv515 hi, cw10 (by omega) (by omega) hi]
theorem left_n {s : S2} {c y : Nat} {l : Int} : left (cv s c) (cv s y) l = left (cw s c) (yv s y) l := by
  unfold left
  rw [cells_n, cw0 (by omega) (by omega)]
  by_cases h : 0 ≤ l ∧ l < s 388 c 0 ∧ l < 6
  · rw [if_pos h, if_pos h, cw6 (by omega) (by omega) (by omega)]
  · rw [if_neg h, if_neg h]
def mayD (C Y : V2) (n l : Int) : Decidable (mayH C Y n l) := by unfold mayH; exact inferInstance
theorem may_n {s : S2} {c y : Nat} {n l : Int} (hC : CB (cw s c)) : mayH (cv s c) (cv s y) n l ↔ mayH (cw s c) (yv s y) n l := by
  unfold mayH
  rw [left_n, cw0 (by omega) (by omega), cw0 (by omega) (by omega), cw0 (by omega) (by omega)]
  by_cases h1 : 0 ≤ n ∧ n < s 389 c 0 ∧ n < 10
  · by_cases h2 : 0 ≤ l ∧ l < s 388 c 0 ∧ l < 6
    · have hb := hC.2.1 n.toNat (by omega)
      rw [yv515 (by omega), yv514 (by omega), cw10 (by omega) (by omega) (by omega), cw10 (by omega) (by omega) (by omega)]
      rw [cw10 (by omega) (by omega) (by omega)] at hb
      rw [yv517 (by omega)]
    · simp [h2]
  · simp [h1]
def mayI (C Y : V2) (n l : Int) : Int := @ite _ (mayH C Y n l) (mayD C Y n l) 1 0
theorem m48n {y c : Nat} {n l : Int} {s : S2} (hC : CB (cw s c)) : f48 y c n l s = some (mayI (cw s c) (yv s y) n l) := by
  have := mayD (cv s c) (cv s y) n l
  rw [m48 (fun n hn => by have := hC.2.1 n hn; rw [cw10 (by omega) (by omega) hn, cw10 (by omega) (by omega) hn] at this; omega) (fun n hn => by have := hC.2.2.2.1 n hn; rw [cw6 (by omega) (by omega) hn, cw6 (by omega) (by omega) hn, cw6 (by omega) (by omega) hn] at this; omega)]
  unfold mayI
  by_cases h : mayH (cv s c) (cv s y) n l
  · rw [if_pos h, if_pos ((may_n hC).mp h)]
  · rw [if_neg h, if_neg (fun q => h ((may_n hC).mpr q))]
theorem m52n {y c : Nat} {l : Int} {s : S2} (hC : CB (cw s c)) : f52 y c l s = some (left (cw s c) (yv s y) l) := by
  rw [m52 (fun n hn => by have := hC.2.1 n hn; rw [cw10 (by omega) (by omega) hn, cw10 (by omega) (by omega) hn] at this; omega) (fun n hn => by have := hC.2.2.2.1 n hn; rw [cw6 (by omega) (by omega) hn, cw6 (by omega) (by omega) hn, cw6 (by omega) (by omega) hn] at this; omega), left_n]
