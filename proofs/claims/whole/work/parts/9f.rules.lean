/-! RULED, LOOK: all rules tried, the class -/
def fsF (fit : Nat → Bool) : Nat → Int
  | 0 => -1
  | i + 1 => if fit i = true ∧ cntB i fit = 0 then (i : Int) - 1 else fsF fit i
theorem fsF_s {fit : Nat → Bool} {i : Nat} : fsF fit (i + 1) = if fit i = true ∧ cntB i fit = 0 then (i : Int) - 1 else fsF fit i := rfl
theorem cntB_s {p : Nat → Bool} {n : Nat} : cntB (n + 1) p = if p n = true then cntB n p + 1 else cntB n p := rfl
def fitK (C B : V2) (K : Nat → List Int) (LN : Nat) (lh ll lf : Nat → Int) (i : Nat) : Bool := fitR C B (lawK K ((i : Int) - 1)) LN lh ll lf
def heldK (C B : V2) (K : Nat → List Int) (hr i l : Nat) : Int := passN C (lawK K ((i : Int) - 1)) (hr + 1) B 513 l
/-- the rows of those that fit -/
def rowsK (z : S2) (fit : Nat → Bool) (hl : Nat → Nat → Int) (i : Nat) : Prop := ∀ j, j < i → fit j = true → ∀ l, l < 6 → z 3000 (cntB j fit).toNat l = hl j l
def pTr (f i : Nat) : Bool := Nat.beq f 3000 || ((Nat.beq f 1408 || Nat.beq f 1409) && Nat.beq i 0) || pS f i || pM f i || Nat.beq f 770 || Nat.beq f 771 || Nat.beq f 1161
theorem pTr_f {f i : Nat} : pTr f i = false ↔ ¬ (f = 3000) ∧ ¬ ((f = 1408 ∨ f = 1409) ∧ i = 0) ∧ pS f i = false ∧ pM f i = false ∧ ¬ f = 770 ∧ ¬ f = 771 ∧ ¬ f = 1161 := by
  unfold pTr
  rw [Bool.or_eq_false_iff, Bool.or_eq_false_iff, Bool.or_eq_false_iff, Bool.or_eq_false_iff, Bool.or_eq_false_iff, Bool.or_eq_false_iff, ← Bool.not_eq_true (_ && Nat.beq i 0), Bool.and_eq_true, Bool.or_eq_true, Nat.beq_eq, Nat.beq_eq, Nat.beq_eq, ← Bool.not_eq_true (Nat.beq f 3000), Nat.beq_eq, ← Bool.not_eq_true (Nat.beq f 770), Nat.beq_eq, ← Bool.not_eq_true (Nat.beq f 771), Nat.beq_eq, ← Bool.not_eq_true (Nat.beq f 1161), Nat.beq_eq]
  grind
theorem pTr_o {f i : Nat} (h : f < 512 ∨ (518 < f ∧ f < 770) ∨ (771 < f ∧ f < 1153) ∨ (1161 < f ∧ f < 1408) ∨ (1409 < f ∧ f ≠ 3000)) : pTr f i = false := pTr_f.mpr ⟨by omega, by omega, pS_f.mpr ⟨by omega, pY_f.mpr (by omega)⟩, pM_f.mpr (by omega), by omega, by omega, by omega⟩
theorem pTr_y {f i : Nat} (h1 : 512 ≤ f) (h2 : f ≤ 518) (h : i ≠ 160) : pTr f i = false := pTr_f.mpr ⟨by omega, by omega, pS_f.mpr ⟨by omega, pY_f.mpr (by omega)⟩, pM_f.mpr (by omega), by omega, by omega, by omega⟩
theorem pFt_tr {r k f i : Nat} (h : pTr f i = false) : pFt r k f i = false := by
  obtain ⟨a, b, c, d, e1, e2, e3⟩ := pTr_f.mp h
  exact pFt_f.mpr ⟨pP_f.mpr ⟨d, pA_f.mpr ⟨by omega, by omega⟩, (pS_f.mp c).2⟩, by omega⟩
theorem pS_tr {f i : Nat} (h : pTr f i = false) : pS f i = false := (pTr_f.mp h).2.2.1
theorem pTr_k {f i : Nat} (h : pAk f i = false) : pTr f i = false := by
  have := pAk_f.mp h
  exact pTr_f.mpr ⟨by omega, by omega, pS_k h, pM_f.mpr (by omega), by omega, by omega, by omega⟩
theorem pTr_cl {f i : Nat} (h : pCl f i = false) : pTr f i = false := by
  have := pCl_f.mp h
  exact pTr_f.mpr ⟨by omega, by omega, pS_cl h, pM_f.mpr (by omega), by omega, by omega, by omega⟩
theorem BK.tr {s s' : S2} {R : Nat} {K : Nat → List Int} (h : BK s R K) (e : Fr pTr s s') : BK s' R K := h.fr e (pTr_o (by omega)) (pTr_o (by omega)) (fun r hr => ⟨pTr_o (by omega), pTr_o (by omega)⟩) (fun f g1 g2 => pTr_o (by omega))
theorem cntB_nn {p : Nat → Bool} {n : Nat} : ((cntB n p).toNat : Int) = cntB n p := by
  have := cntB_bd (p := p) (n := n)
  omega
/-- all rules tried -/
theorem c140 {s : S2} {R : Nat} {K : Nat → List Int} {C B : V2} {LN hr : Nat} {lh ll lf : Nat → Int} (hBK : BK s R K) (hC : CB C) (hs : cw s 0 = C) (hb : yv s 1 = B) (hB : YB C B) (hB0 : B 512 0 = 0) (hL : LG s C LN lh ll lf) (hhr : hr ≤ 60) : ∃ s', f140 0 hr s = some s' ∧ s' 1408 0 0 = cntB (R + 1) (fitK C B K LN lh ll lf) ∧ s' 1409 0 0 = fsF (fitK C B K LN lh ll lf) (R + 1) ∧ rowsK s' (fitK C B K LN lh ll lf) (heldK C B K hr) (R + 1) ∧ Fr pTr s s' := by
  have hR6 := hBK.2.2.1
  generalize hfit : fitK C B K LN lh ll lf = fit
  have hfk : ∀ i : Nat, fitR C B (lawK K ((i : Int) - 1)) LN lh ll lf = fit i := fun i => congrFun hfit i
  have F0 : Fr pTr s (st2 (st2 s 1408 0 0 0) 1409 0 0 (-1)) := (Fr.rf.st rfl).st rfl
  unfold f140
  simp only [bnd]
  refine inv_cP (a := ((-1 : Int), st2 (st2 s 1408 0 0 0) 1409 0 0 (-1))) (P := fun e => ∃ s', e = some s' ∧ s' 1408 0 0 = cntB (R + 1) fit ∧ s' 1409 0 0 = fsF fit (R + 1) ∧ rowsK s' fit (heldK C B K hr) (R + 1) ∧ Fr pTr s s') (fun (i : Nat) (z : Int × S2) => z.1 = (i : Int) - 1 ∧ z.2 1408 0 0 = cntB i fit ∧ z.2 1409 0 0 = fsF fit i ∧ rowsK z.2 fit (heldK C B K hr) i ∧ Fr pTr s z.2) (fun (s' : S2) => s' 1408 0 0 = cntB (R + 1) fit ∧ s' 1409 0 0 = fsF fit (R + 1) ∧ rowsK s' fit (heldK C B K hr) (R + 1) ∧ Fr pTr s s') (R + 1) (by omega) ⟨rfl, (by rw [st2_ne (by omega)]; exact st2_eq : st2 (st2 s 1408 0 0 0) 1409 0 0 (-1) 1408 0 0 = 0), (st2_eq : st2 (st2 s 1408 0 0 0) 1409 0 0 (-1) 1409 0 0 = -1), fun j hj => by omega, F0⟩ ?_ ?_
  · rintro i ⟨x, z⟩ hi ⟨g1, g2, g3, g4, g5⟩
    dsimp only at g1 g2 g3 g4 g5 ⊢
    subst g1
    have hBz := hBK.tr g5
    have hcb := cntB_bd (p := fit) (n := i)
    by_cases e : i = R + 1
    · refine Or.inr ⟨z, ?_, by rw [← e]; exact g2, by rw [← e]; exact g3, by rw [← e]; exact g4, g5⟩
      show f140_a 0 hr _ z = _
      unfold f140_a
      rw [bnd, hBz.1, if_pos (by omega)]
    · refine Or.inl ⟨by omega, ?_⟩
      have cz : cw z 0 = C := by rw [g5.cw fun f g1 g2 => pTr_o (by omega)]; exact hs
      have bz : yv z 1 = B := by rw [g5.yv fun f g1 g2 => pTr_y g1 g2 (by omega)]; exact hb
      obtain ⟨z1, a1, a2, a3, a4⟩ := hBz.start (r := (i : Int) - 1) (b := 1) (by rw [cz]; exact hC) (by omega) (by omega)
      rw [cz] at a2
      rw [bz] at a3
      have A4 : Fr pTr z z1 := a4.mo fun f i q => pS_tr q
      have hL1 : LG z1 C LN lh ll lf := hL.fr (g5.tr A4) (fun f h1 h2 => pTr_o (by omega)) (fun f h1 h2 => pTr_o (by omega)) (by rw [(g5.tr A4) _ _ (pTr_o (by omega))])
      have q14 : z1 1408 0 0 = (((cntB i fit).toNat : Nat) : Int) := by rw [a4 _ _ (pS_f.mpr ⟨by omega, pY_f.mpr (by omega)⟩), g2, cntB_nn]
      obtain ⟨z2, b1, b2, b3⟩ := m141 (hr := hr) a2 a3 hB hB0 hL1 q14 (by omega) hhr
      rw [hfk] at b1 b2
      have B3 : Fr pTr z1 z2 := b3.mo fun f i q => pFt_tr q
      have ej : jadd ((i : Int) - 1) 1 = ((i + 1 : Nat) : Int) - 1 := by rw [jadd_e (by omega) (by omega)]; omega
      have w14 : z2 1408 0 0 = cntB i fit := by rw [b3 _ _ (pFt_o (by omega)), q14, cntB_nn]
      have w15 : z2 1409 0 0 = fsF fit i := by rw [b3 _ _ (pFt_o (by omega)), a4 _ _ (pS_f.mpr ⟨by omega, pY_f.mpr (by omega)⟩)]; exact g3
      have hst : f140_a 0 hr ((i : Int) - 1) z = if (if fit i = true then (1 : Int) else 0) = 0 then some (.inl (((i + 1 : Nat) : Int) - 1, z2)) else (if ¬ cntB i fit = 0 then some (.inl (((i + 1 : Nat) : Int) - 1, st2 (st2 z2 1409 0 0 (fsF fit i)) 1408 0 0 (cntB i fit + 1))) else some (.inl (((i + 1 : Nat) : Int) - 1, st2 (st2 z2 1409 0 0 ((i : Int) - 1)) 1408 0 0 (cntB i fit + 1)))) := by
        have ec : jadd (cntB i fit) 1 = cntB i fit + 1 := jadd_e (by omega) (by omega)
        have v1 : ∀ x, st2 z2 1409 0 0 x 1408 0 0 = cntB i fit := fun x => by rw [st2_ne (by omega)]; exact w14
        unfold f140_a
        rw [bnd, hBz.1, if_neg (by omega), m76, cP_s, show 32 * 0 + 1 = 1 from rfl, a1, cP_s, b1, cR_s]
        simp only [jn, bnd, w14, w15, v1, ec, ej]
      have hold : ∀ z', (∀ k l, k < (cntB i fit).toNat → z' 3000 k l = z2 3000 k l) → rowsK z' fit (heldK C B K hr) i := fun z' hz' j hj hf l hl => by
        have hlt : cntB j fit + 1 ≤ cntB i fit := by
          have h1 := cntB_lt (p := fun x => decide (x < j) && fit x) (q := fit) (b := j) hf (by simp) (n := i) hj (fun x _ hx => by simp at hx; exact hx.2)
          have h2 : cntB i (fun x => decide (x < j) && fit x) = cntB j fit := by
            rw [cntB_cut (p := fun x => decide (x < j) && fit x) (m := j) (n := i) (by omega) (fun x h1 h2 => by simp; omega)]
            exact cntB_congr fun x hx => by simp [hx]
          omega
        have hjb := cntB_bd (p := fit) (n := j)
        rw [hz' _ _ (by omega), b3 3000 _ (pFt_f.mpr ⟨pP_o (by omega), by omega⟩), a4 3000 _ (pS_f.mpr ⟨by omega, pY_f.mpr (by omega)⟩)]
        exact g4 j hj hf l hl
      cases hf : fit i with
      | false =>
        refine ⟨(((i + 1 : Nat) : Int) - 1, z2), ?_, rfl, ?_, ?_, ?_, (g5.tr A4).tr B3⟩
        · show f140_a 0 hr _ z = _
          rw [hst, hf, i01_f, if_pos rfl]
        · show z2 1408 0 0 = _
          rw [cntB_s, hf, w14]
          rfl
        · show z2 1409 0 0 = _
          rw [fsF_s, hf, w15]
          simp
        · intro j hj hfj l hl
          have hji : j ≠ i := fun w => by rw [w, hf] at hfj; cases hfj
          exact hold z2 (fun k l _ => rfl) j (by omega) hfj l hl
      | true =>
        have hrow : ∀ z', z' 3000 = z2 3000 → rowsK z' fit (heldK C B K hr) (i + 1) := fun z' hz' j hj hfj l hl => by
          by_cases c : j = i
          · subst c
            rw [hz']
            exact b2 hf l hl
          · exact hold z' (fun k l _ => by rw [hz']) j (by omega) hfj l hl
        by_cases c : cntB i fit = 0
        · refine ⟨(((i + 1 : Nat) : Int) - 1, st2 (st2 z2 1409 0 0 ((i : Int) - 1)) 1408 0 0 (cntB i fit + 1)), ?_, rfl, ?_, ?_, hrow _ ?_, (((g5.tr A4).tr B3).st rfl).st rfl⟩
          · show f140_a 0 hr _ z = _
            rw [hst, hf, i01_t, if_neg ne10, if_neg (fun w => w c)]
          · show st2 (st2 z2 1409 0 0 ((i : Int) - 1)) 1408 0 0 (cntB i fit + 1) 1408 0 0 = _
            rw [st2_eq, cntB_s, if_pos hf]
          · show st2 (st2 z2 1409 0 0 ((i : Int) - 1)) 1408 0 0 (cntB i fit + 1) 1409 0 0 = _
            rw [st2_ne (Or.inl (by decide)), st2_eq, fsF_s, if_pos ⟨hf, c⟩]
          · funext k
            dsimp only
            rw [st2_row (by omega), st2_row (by omega)]
        · refine ⟨(((i + 1 : Nat) : Int) - 1, st2 (st2 z2 1409 0 0 (fsF fit i)) 1408 0 0 (cntB i fit + 1)), ?_, rfl, ?_, ?_, hrow _ ?_, (((g5.tr A4).tr B3).st rfl).st rfl⟩
          · show f140_a 0 hr _ z = _
            rw [hst, hf, i01_t, if_neg ne10, if_pos c]
          · show st2 (st2 z2 1409 0 0 (fsF fit i)) 1408 0 0 (cntB i fit + 1) 1408 0 0 = _
            rw [st2_eq, cntB_s, if_pos hf]
          · show st2 (st2 z2 1409 0 0 (fsF fit i)) 1408 0 0 (cntB i fit + 1) 1409 0 0 = _
            rw [st2_ne (Or.inl (by decide)), st2_eq, fsF_s, if_neg (fun w => c w.2)]
          · funext k
            dsimp only
            rw [st2_row (by omega), st2_row (by omega)]
  · rintro z ⟨g1, g2, g3, g4⟩
    exact ⟨z, rfl, g1, g2, g3, g4⟩
