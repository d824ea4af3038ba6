/-! SETS AS BITS on both sides; line, linen, family -/
theorem jor_z {x : Int} (h : (Int32.ofInt x).toInt = x) : jor x 0 = x := by
  show (Int32.ofInt x ||| Int32.ofInt 0).toInt = x
  rw [show Int32.ofInt 0 = 0 from rfl, Int32.or_zero]
  exact h
theorem setB_i {p : Nat → Bool} : ∀ {n : Nat}, (Int32.ofInt (setB n p)).toInt = setB n p
  | 0 => by
    show (Int32.ofInt 0).toInt = 0
    decide
  | n + 1 => by
    rw [setB_s]
    by_cases h : p n = true
    · rw [if_pos h]
      unfold jor
      rw [Int32.ofInt_toInt]
    · rw [if_neg h]
      exact setB_i
theorem setB_z {p : Nat → Bool} {n : Nat} : jor (setB n p) 0 = setB n p := jor_z setB_i
theorem m212 {C Y : V2} {t : S2} {l : Int} (hC : CB C) (hY : YB C Y) (hR : CR C t) (hV : YR C Y t) (hl : 0 ≤ l) : f212 l t = some (setB 10 (fun n => decide (Y 515 n = l))) := by
  have hcc := hC.1
  have hcut : setB 10 (fun n => decide (Y 515 n = l)) = setB (C 389 0).toNat (fun n => decide (Y 515 n = l)) := setB_cut (by omega) (fun i h1 h2 => decide_eq_false (by have := hY.1 i h2; omega))
  rw [hcut]
  unfold f212
  refine seq_cP (fun i => (setB i (fun n => decide (Y 515 n = l)), (i : Int))) (C 389 0).toNat _ rfl (by omega) ?_ ?_ rfl
  · intro i hi
    show f212_a l _ _ t = _
    unfold f212_a
    rw [ld_t (by omega) (by omega), show t 1537 0 (Int.toNat 4) = C 389 0 from hR.1.2.2.2.2.1, if_neg (by omega), ld_t (by omega) (by omega), Int.toNat_natCast, (hV.2.2.2.1 i (by omega) (by omega)).2, setB_s]
    by_cases h : Y 515 i = l
    · simp only [jn, bnd, h, not_true_eq_false, if_false, decide_true, if_true]
      rw [jadd_e (by omega) (by omega)]
      rfl
    · simp only [jn, bnd, h, not_false_eq_true, if_true, decide_false, setB_z]
      rw [jadd_e (by omega) (by omega)]
      rfl
  · show f212_a l _ _ t = _
    unfold f212_a
    rw [ld_t (by omega) (by omega), show t 1537 0 (Int.toNat 4) = C 389 0 from hR.1.2.2.2.2.1, if_pos (by omega)]
theorem m269 {C Y : V2} {t : S2} (hC : CB C) (hY : YB C Y) (hR : CR C t) (hV : YR C Y t) : f269 t = some (setB 10 (fun n => !decide (Y 515 n = -1))) := by
  have hcc := hC.1
  have hcut : setB 10 (fun n => !decide (Y 515 n = -1)) = setB (C 389 0).toNat (fun n => !decide (Y 515 n = -1)) := setB_cut (by omega) (fun i h1 h2 => by
    have := hY.1 i h2
    rw [decide_eq_true (by omega)]; rfl)
  rw [hcut]
  unfold f269
  refine seq_cP (fun i => (setB i (fun n => !decide (Y 515 n = -1)), (i : Int))) (C 389 0).toNat _ rfl (by omega) ?_ ?_ rfl
  · intro i hi
    show f269_a _ _ t = _
    unfold f269_a
    rw [ld_t (by omega) (by omega), show t 1537 0 (Int.toNat 4) = C 389 0 from hR.1.2.2.2.2.1, if_neg (by omega), ld_t (by omega) (by omega), Int.toNat_natCast, (hV.2.2.2.1 i (by omega) (by omega)).2, setB_s]
    by_cases h : Y 515 i = -1
    · simp only [jn, bnd, h, if_true, decide_true, setB_z]
      rw [jadd_e (by omega) (by omega)]
      rfl
    · simp only [jn, bnd, h, if_false, decide_false]
      rw [jadd_e (by omega) (by omega)]
      rfl
  · show f269_a _ _ t = _
    unfold f269_a
    rw [ld_t (by omega) (by omega), show t 1537 0 (Int.toNat 4) = C 389 0 from hR.1.2.2.2.2.1, if_pos (by omega)]
theorem m197a {β : Type} {C : V2} {t : S2} {f : Int} {k : Int → Option β} (hC : CB C) (hR : CR C t) : cP (itr (fun (x7, x8) => f197_a f x7 x8 t) am_fu (0, 0)) k = k (setB 10 (fun n => decide ((n : Int) < C 389 0 ∧ C 395 n = f))) := by
  have hcc := hC.1
  have hcut : setB 10 (fun n => decide ((n : Int) < C 389 0 ∧ C 395 n = f)) = setB (C 389 0).toNat (fun n => decide ((n : Int) < C 389 0 ∧ C 395 n = f)) := setB_cut (by omega) (fun i h1 h2 => decide_eq_false (by omega))
  rw [hcut]
  refine seq_cP (fun i => (setB i (fun n => decide ((n : Int) < C 389 0 ∧ C 395 n = f)), (i : Int))) (C 389 0).toNat _ rfl (by omega) ?_ ?_ rfl
  · intro i hi
    have h9 : (i : Int) < C 389 0 := by omega
    show f197_a f _ _ t = _
    unfold f197_a
    rw [ld_t (by omega) (by omega), show t 1537 0 (Int.toNat 4) = C 389 0 from hR.1.2.2.2.2.1, if_neg (by omega), ld_t (by omega) (by omega), Int.toNat_natCast, (hR.2.2.1 i (by omega) (by omega)).1, setB_s]
    by_cases h : C 395 i = f
    · simp only [jn, bnd, h, h9, not_true_eq_false, if_false, decide_true, if_true, and_self]
      rw [jadd_e (by omega) (by omega)]
      rfl
    · simp only [jn, bnd, h, h9, not_false_eq_true, if_true, decide_false, setB_z, and_false]
      rw [jadd_e (by omega) (by omega)]
      rfl
  · show f197_a f _ _ t = _
    unfold f197_a
    rw [ld_t (by omega) (by omega), show t 1537 0 (Int.toNat 4) = C 389 0 from hR.1.2.2.2.2.1, if_pos (by omega)]
theorem pO_k {f i : Nat} (h : pAk f i = false) : pO f i = false := by
  have := pAk_f.mp h
  exact pO_f.mpr (by omega)
/-- the model's part of asking: rows as they are, nothing else -/
theorem Ask.mo {t t' : S2} {P : Nat → Nat → Bool} (h : Fr P t t') (hk : ∀ f i, pAk f i = false → P f i = false) (hm : ∀ f, 1537 ≤ f → f ≤ 1606 → (f = 1537 ∨ f = 1538 ∨ f = 1539 ∨ f = 1544 ∨ f = 1547 ∨ f = 1548 ∨ f = 1589 ∨ f = 1606) → P f 0 = false) : Ask t t' := by
  have e : ∀ f, (f = 1537 ∨ f = 1538 ∨ f = 1539 ∨ f = 1544 ∨ f = 1547 ∨ f = 1548 ∨ f = 1589 ∨ f = 1606) → t' f 0 = t f 0 := fun f g => h f 0 (hm f (by omega) (by omega) g)
  refine ⟨h.mo hk, ⟨?_, ?_, ?_, ?_, ?_, ?_⟩, by rw [e 1589 (by omega)], fun k _ => by rw [e 1606 (by omega)]⟩
  all_goals intro k _
  · rw [e 1537 (by omega)]
  · rw [e 1538 (by omega)]
  · rw [e 1539 (by omega)]
  · rw [e 1544 (by omega)]
  · rw [e 1547 (by omega)]
  · rw [e 1548 (by omega)]
theorem Ask.pO {t t' : S2} (h : Fr pO t t') : Ask t t' := Ask.mo h (fun f i q => pO_k q) (fun f g1 g2 g3 => pO_f.mpr (by omega))
/-- the class, measured now -/
theorem Rel.meas {s : S2} {C Y : V2} {code : List Int} (h : Rel s C Y code) : ∃ s1 s2, f75 s = some s1 ∧ f78 0 s1 = some s2 ∧ s2 1154 0 0 = (lawI s (s 1033 0 0) : Int) ∧ hasL s2 (lawI s (s 1033 0 0)) code ∧ Rd s2 0 C Y (rainI C Y 0) ∧ Fr pAk s s2 ∧ Fr pCl s s2 := by
  have hC := h.2.2.1
  have hY := h.2.2.2.1
  obtain ⟨s1, a1, a2, a3, a4⟩ := h.start
  obtain ⟨b1, b2, b3, b4, b5, b6⟩ := a2
  obtain ⟨s2, c1, c2, c3, c4⟩ := m78 (d := 0) b1 (by rw [b5]; exact hC) (by rw [b5, a3]; exact hY)
  rw [b5] at c2 c3
  rw [a3] at c3
  refine ⟨s1, s2, a1, c1, ?_, b3.fr (c4 _ _ (pM_f.mpr (by omega))) (c4 _ _ (pM_f.mpr (by omega))), ⟨?_, ?_, ?_, c3, ?_⟩, (a4.mo fun f i q => pS_k q).tr (c4.mo fun f i q => ?_), (a4.mo fun f i q => pS_cl q).tr (c4.mo fun f i q => ?_)⟩
  · rw [c4 1154 0 (pM_f.mpr (by omega))]; exact b2
  · rw [c4 1153 0 (pM_f.mpr (by omega))]; exact b1
  · rw [c4.cw fun f g1 g2 => pM_f.mpr (by omega)]; exact b5
  · rw [c4.yv fun f g1 g2 => pM_f.mpr (by omega)]; exact a3
  · rw [c2, ← a3]
    unfold rainI
    rw [yv512]
  · have := pAk_f.mp q
    exact pM_f.mpr (by omega)
  · have := pCl_f.mp q
    exact pM_f.mpr (by omega)
theorem pQ_k {r f i : Nat} (h : pAk f i = false) : pQ r f i = false := by
  have := pAk_f.mp h
  exact pQ_f.mpr (by omega)
theorem pQ_cl {r f i : Nat} (h : pCl f i = false) : pQ r f i = false := by
  have := pCl_f.mp h
  exact pQ_f.mpr (by omega)
theorem rel_own {s : S2} {C Y : V2} {code : List Int} {l : Nat} (h : Rel s C Y code) (hl : l < 6) : ∃ s1, f90 l s = some (own C Y (rainI C Y 0) code l, s1) ∧ Fr pAk s s1 ∧ Fr pCl s s1 := by
  obtain ⟨s1, s2, a1, a2, a3, a4, a5, a6, a7⟩ := h.meas
  obtain ⟨s3, b1, b2⟩ := m81 a3 a4 h.2.2.2.2.2.2.1 a5 h.2.2.1 h.2.2.2.1 hl
  refine ⟨s3, ?_, a6.tr (b2.mo fun f i q => pQ_k q), a7.tr (b2.mo fun f i q => pQ_cl q)⟩
  unfold f90
  rw [a1, cP_s, a2, cP_s, b1]
  rfl
def linesS (C Y : V2) (code : List Int) (f : Int) : Int := setB 6 (fun l => decide (own C Y (rainI C Y 0) code l = f))
theorem Rel.lines {s : S2} {C Y : V2} {code : List Int} {f : Int} (h : Rel s C Y code) : ∃ s1, f74 f s = some (linesS C Y code f, s1) ∧ Fr pAk s s1 ∧ Fr pCl s s1 := by
  obtain ⟨s1, s2, a1, a2, a3, a4, a5, a6, a7⟩ := h.meas
  unfold f74
  rw [a1, cP_s, a2, cP_s]
  refine inv_cP (a := ((0 : Int), (0 : Int), s2)) (P := fun e => ∃ s1, e = some (linesS C Y code f, s1) ∧ Fr pAk s s1 ∧ Fr pCl s s1) (fun (i : Nat) (z : Int × Int × S2) => z.1 = setB i (fun l => decide (own C Y (rainI C Y 0) code l = f)) ∧ z.2.1 = i ∧ Fr (pQ (lawI s (s 1033 0 0))) s2 z.2.2) (fun (z : Int × S2) => z.1 = linesS C Y code f ∧ Fr (pQ (lawI s (s 1033 0 0))) s2 z.2) 6 (by decide) ⟨rfl, rfl, Fr.rf⟩ ?_ ?_
  · rintro i ⟨x, y, z⟩ hi ⟨g1, g2, g3⟩
    dsimp only at g1 g2 g3 ⊢
    subst g1 g2
    by_cases e : i = 6
    · subst e
      exact Or.inr ⟨(setB 6 (fun l => decide (own C Y (rainI C Y 0) code l = f)), z), rfl, rfl, g3⟩
    · refine Or.inl ⟨by omega, ?_⟩
      obtain ⟨z', k1, k2⟩ := m81 (s := z) (by rw [g3 1154 0 (pQ_f.mpr (by omega))]; exact a3) (a4.fr (g3 _ _ (pQ_f.mpr (by omega))) (g3 _ _ (pQ_f.mpr (by omega)))) h.2.2.2.2.2.2.1 (a5.fr g3) h.2.2.1 h.2.2.2.1 (l := i) (by omega)
      refine ⟨(setB (i + 1) (fun l => decide (own C Y (rainI C Y 0) code l = f)), ((i + 1 : Nat) : Int), z'), ?_, rfl, rfl, g3.tr k2⟩
      show f74_a f _ i z = _
      unfold f74_a
      rw [if_neg (by omega), k1, cR_s, setB_s]
      by_cases hq : own C Y (rainI C Y 0) code i = f
      · simp only [hq, bnd, not_true_eq_false, if_false, decide_true, if_true]
        rw [jadd_e (by omega) (by omega)]
        rfl
      · simp only [hq, bnd, not_false_eq_true, if_true, decide_false]
        rw [jadd_e (by omega) (by omega)]
        rfl
  · rintro ⟨x, z⟩ ⟨g1, g2⟩
    dsimp only at g1
    subst g1
    exact ⟨z, rfl, a6.tr (g2.mo fun f i q => pQ_k q), a7.tr (g2.mo fun f i q => pQ_cl q)⟩
theorem m199 {C Y : V2} {code : List Int} {t : S2} {f : Int} (hC : CB C) (hY : YB C Y) (hf : 0 ≤ f) (h : MS C Y code 0 t) : ∃ t', f199 f t = some (linesS C Y code f, t') ∧ Fr pO t t' := by
  have hcc := hC.1
  have hcut : linesS C Y code f = setB (C 388 0).toNat (fun l => decide (own C Y (rainI C Y 0) code l = f)) := setB_cut (by omega) (fun i h1 h2 => decide_eq_false (by
    unfold own
    rw [if_neg (by omega)]
    omega))
  rw [hcut]
  unfold f199
  refine inv_cP (a := ((0 : Int), (0 : Int), t)) (P := fun e => ∃ s1, e = some (setB (C 388 0).toNat (fun l => decide (own C Y (rainI C Y 0) code l = f)), s1) ∧ Fr pO t s1) (fun (i : Nat) (z : Int × Int × S2) => z.1 = setB i (fun l => decide (own C Y (rainI C Y 0) code l = f)) ∧ z.2.1 = i ∧ Fr pO t z.2.2) (fun (z : Int × S2) => z.1 = setB (C 388 0).toNat (fun l => decide (own C Y (rainI C Y 0) code l = f)) ∧ Fr pO t z.2) (C 388 0).toNat (by omega) ⟨rfl, rfl, Fr.rf⟩ ?_ ?_
  · rintro i ⟨x, y, z⟩ hi ⟨g1, g2, g3⟩
    dsimp only at g1 g2 g3 ⊢
    subst g1 g2
    have hz := h.fr g3 (fun f h1 h2 h3 h4 => pO_f.mpr (by omega))
    have q1 : z 1537 0 3 = C 388 0 := hz.1.1.2.2.2.1
    by_cases e : i = (C 388 0).toNat
    · refine Or.inr ⟨(setB i (fun l => decide (own C Y (rainI C Y 0) code l = f)), z), ?_, by rw [e], g3⟩
      show f199_a f _ i z = _
      unfold f199_a
      rw [ld_t (by omega) (by omega), show z 1537 0 (Int.toNat 3) = C 388 0 from q1, if_pos (by omega)]
    · refine Or.inl ⟨by omega, ?_⟩
      obtain ⟨z', k1, k2⟩ := m200 hC hY hz (l := i) (by omega) (by omega)
      refine ⟨(setB (i + 1) (fun l => decide (own C Y (rainI C Y 0) code l = f)), ((i + 1 : Nat) : Int), z'), ?_, rfl, rfl, g3.tr k2⟩
      show f199_a f _ i z = _
      unfold f199_a
      rw [ld_t (by omega) (by omega), show z 1537 0 (Int.toNat 3) = C 388 0 from q1, if_neg (by omega), k1, cR_s, setB_s]
      by_cases hq : own C Y (rainI C Y 0) code i = f
      · simp only [jn, hq, bnd, not_true_eq_false, if_false, decide_true, if_true]
        rw [jadd_e (by omega) (by omega)]
        rfl
      · simp only [jn, hq, bnd, not_false_eq_true, if_true, decide_false, setB_z]
        rw [jadd_e (by omega) (by omega)]
        rfl
  · rintro ⟨x, z⟩ ⟨g1, g2⟩
    dsimp only at g1
    subst g1
    exact ⟨z, rfl, g2⟩
