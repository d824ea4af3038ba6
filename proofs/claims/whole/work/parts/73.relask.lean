theorem Rel.ask {s s' : S2} {C Y : V2} {code : List Int} (h : Rel s C Y code) (e : Ask s s') : Rel s' C Y code := by
  obtain ⟨h1, h2, h3, h4, h5, h6, h7, h8⟩ := h
  obtain ⟨a1, a2, a3, a4⟩ := e
  have e1 : s' 1033 0 = s 1033 0 := a1 _ _ (pAk_f.mpr (by omega))
  have e2 : s' 898 0 = s 898 0 := a1 _ _ (pAk_f.mpr (by omega))
  have e3 : lawI s' (s' 1033 0 0) = lawI s (s 1033 0 0) := by
    unfold lawI
    rw [e1, e2]
  refine ⟨?_, ?_, h3, h4, h5, ?_, h7, ?_⟩
  · rw [a1.cw fun f g1 g2 => pAk_f.mpr (by omega)]; exact h1
  · rw [a1.yv fun f g1 g2 => pAk_f.mpr (by omega)]; exact h2
  · rw [e3]
    exact h6.fr (a1 _ _ (pAk_f.mpr (by omega))) (a1 _ _ (pAk_f.mpr (by omega)))
  · exact h8.sm a2 h3 a1 (fun f g1 g2 g3 g4 g5 => pAk_f.mpr (by omega)) (by rw [a3]; exact h8.2.2.2.1)
/-! DRIES: the row of yards, hour by hour -/
theorem dry_n {C Y : V2} {n : Nat} (hn : n < 10) : dryB Y n = decide (¬ Y 515 n = -1 ∧ Y 516 n = 0) := rfl
theorem passN_515 {C Y : V2} {code : List Int} {k : Nat} (hk : k < 10) : ∀ {n : Nat}, passN C code n Y 515 k = Y 515 k
  | 0 => rfl
  | n + 1 => by
    have : passN C code (n + 1) Y 515 k = passN C code n Y 515 k := (nY_t (yr515 hk)).trans rfl
    rw [this, passN_515 hk]
/-- the first of m hours at whose begin p holds, or none -/
def fstN (p : Nat → Bool) : Nat → Option Nat
  | 0 => none
  | n + 1 => match fstN p n with
    | some k => some k
    | none => if p n = true then some n else none
def fstD (p : Nat → Bool) : Option Nat := fstN p 200
/-- DRIES of a piece -/
def dryS (C Y : V2) (code : List Int) (a : Nat) : Int := match fstD (fun n => dryB (passN C code n Y) a) with
  | some n => passN C code n Y 512 0
  | none => -2
theorem c108 {s : S2} {C Y : V2} {code : List Int} {a : Nat} (h : Rel s C Y code) (ha : a < 10) (ha2 : (a : Int) < C 389 0) : ∃ s1, f108 a s = some (dryS C Y code a, s1) ∧ Fr pAk s s1 ∧ Fr pCl s s1 := by
  obtain ⟨e1, e2, e3⟩ := cw0f h.1
  have hC := h.2.2.1
  have hY := h.2.2.2.1
  have hh := hY.2.2.2.2.1
  have h9 := h.2.2.2.2.1
  obtain ⟨s2, a1, a2, a3, a4⟩ := h.start
  unfold f108
  rw [m49t (by omega), cP_s, if_pos ne10, a1, cP_s]
  refine inv_cP (a := ((0 : Int), s2)) (P := fun e => ∃ s1, e = some (dryS C Y code a, s1) ∧ Fr pAk s s1 ∧ Fr pCl s s1) (fun (i : Nat) (z : Int × S2) => z.1 = i ∧ fstN (fun n => dryB (passN C code n Y) a) i = none ∧ yv z.2 160 = passN C code i Y ∧ Fr (pP (lawI s (s 1033 0 0))) s2 z.2) (fun (z : S2 ⊕ S2) => match z with
    | .inl z => ∃ n, fstD (fun n => dryB (passN C code n Y) a) = some n ∧ yv z 160 = passN C code n Y ∧ Fr (pP (lawI s (s 1033 0 0))) s2 z
    | .inr z => fstD (fun n => dryB (passN C code n Y) a) = none ∧ Fr (pP (lawI s (s 1033 0 0))) s2 z) 200 (by decide) ⟨rfl, rfl, a3, Fr.rf⟩ ?_ ?_
  · rintro i ⟨x, z⟩ hi ⟨g1, g2, g3, g4⟩
    dsimp only at g1 g2 g3 g4 ⊢
    subst g1
    by_cases e : i = 200
    · subst e
      refine Or.inr ⟨.inr z, ?_, g2, g4⟩
      show f108_a a (200 : Nat) z = _
      unfold f108_a
      rw [if_pos (by omega)]
    · have hst : f108_a a i z = if (if dryB (passN C code i Y) a = true then (1 : Int) else 0) = 0 then (cR (f94 0 z) fun r7 s8 => bnd (jadd (i : Int) 1) fun v9 => some (.inl (v9, s8))) else some (.inr (.inl z)) := by
        unfold f108_a
        rw [if_neg (by omega), m109 ha, cP_s, g3]
      cases hd : dryB (passN C code i Y) a with
      | true =>
        right
        have hfst : ∀ m, i < m → fstN (fun n => dryB (passN C code n Y) a) m = some i := by
          intro m
          induction m with
          | zero => intro q; omega
          | succ m ih =>
            intro q
            unfold fstN
            by_cases e2 : i = m
            · subst e2
              rw [g2]
              simp [hd]
            · rw [ih (by omega)]
        refine ⟨.inl z, ?_, i, hfst 200 (by omega), g3, g4⟩
        show f108_a a i z = _
        rw [hst, hd]
        rfl
      | false =>
        left
        refine ⟨by omega, ?_⟩
        obtain ⟨z', k1, k2, k3⟩ := m94h (d := 0) (a2.pP g4) g3 (passN_YB hC hY (by omega))
        refine ⟨(((i + 1 : Nat) : Int), z'), ?_, rfl, ?_, k2, g4.tr k3⟩
        · show f108_a a i z = _
          rw [hst, hd, if_pos (by decide), k1, cR_s, bnd, jadd_e (by omega) (by omega)]
          rfl
        · unfold fstN
          rw [g2]
          simp [hd]
  · rintro (z | z)
    · rintro ⟨n, g1, g2, g3⟩
      refine ⟨z, ?_, (a4.mo fun f i q => pS_k q).tr (g3.mo fun f i q => pP_k q), (a4.mo fun f i q => pS_cl q).tr (g3.mo fun f i q => pP_cl q)⟩
      unfold dryS
      rw [g1]
      show some (z 512 160 0, z) = some (passN C code n Y 512 0, z)
      rw [← g2, yv512]
    · rintro ⟨g1, g3⟩
      refine ⟨z, ?_, (a4.mo fun f i q => pS_k q).tr (g3.mo fun f i q => pP_k q), (a4.mo fun f i q => pS_cl q).tr (g3.mo fun f i q => pP_cl q)⟩
      unfold dryS
      rw [g1]
      rfl
