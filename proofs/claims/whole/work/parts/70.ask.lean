/-! CALLS THAT ASK: what they may leave behind -/
def pAk (f i : Nat) : Bool := Nat.beq f 770 || Nat.beq f 771 || (Nat.ble 1153 f && Nat.ble f 1161) || pY 160 f i || (Nat.ble 1280 f && Nat.ble f 1291) || (Nat.ble 512 f && Nat.ble f 518 && Nat.ble 194 i && Nat.ble i 196) || (Nat.ble 1408 f && Nat.ble f 1410) || Nat.beq f 3000 || Nat.beq f 1537 || Nat.beq f 1538 || Nat.beq f 1539 || Nat.beq f 1544 || Nat.beq f 1547 || Nat.beq f 1548 || Nat.beq f 1587 || Nat.beq f 1588 || Nat.beq f 1589 || Nat.beq f 1590 || (Nat.ble 1596 f && Nat.ble f 1606) || Nat.beq f 1608 || Nat.beq f 1609
theorem pAk_f {f i : Nat} : pAk f i = false ↔ ¬ (f = 770 ∨ f = 771 ∨ (1153 ≤ f ∧ f ≤ 1161) ∨ (512 ≤ f ∧ f ≤ 518 ∧ i = 160) ∨ (1280 ≤ f ∧ f ≤ 1291) ∨ (512 ≤ f ∧ f ≤ 518 ∧ 194 ≤ i ∧ i ≤ 196) ∨ (1408 ≤ f ∧ f ≤ 1410) ∨ f = 3000 ∨ f = 1537 ∨ f = 1538 ∨ f = 1539 ∨ f = 1544 ∨ f = 1547 ∨ f = 1548 ∨ f = 1587 ∨ f = 1588 ∨ f = 1589 ∨ f = 1590 ∨ (1596 ≤ f ∧ f ≤ 1606) ∨ f = 1608 ∨ f = 1609) := by
  rw [← Bool.not_eq_true]
  unfold pAk pY
  simp only [Bool.or_eq_true, Bool.and_eq_true, Nat.beq_eq, Nat.ble_eq]
  omega
def Ask (s s' : S2) : Prop := Fr pAk s s' ∧ Sm s s' ∧ s' 1589 0 0 = s 1589 0 0 ∧ ∀ k, k < 4400 → s' 1606 0 k = s 1606 0 k
/-- world 0 and the model, and the law in force, as they are -/
def Rel (s : S2) (C Y : V2) (code : List Int) : Prop := cw s 0 = C ∧ yv s 0 = Y ∧ CB C ∧ YB C Y ∧ Y 512 0 ≤ 999 ∧ hasL s (lawI s (s 1033 0 0)) code ∧ wfc code [] ∧ MS C Y code 0 s
/-- trial hours begun -/
theorem Rel.start {s : S2} {C Y : V2} {code : List Int} (h : Rel s C Y code) : ∃ s', f75 s = some s' ∧ Hr s' 0 (lawI s (s 1033 0 0)) C code ∧ yv s' 160 = Y ∧ Fr pS s s' := by
  obtain ⟨h1, h2, h3, h4, h5, h6, h7, h8⟩ := h
  obtain ⟨s', a1, a2, a3, a4, a5⟩ := m75 (s := s)
  refine ⟨s', a1, ⟨a3, a4, h6.fr (a5 _ _ (pS_f.mpr ⟨by omega, pY_f.mpr (by omega)⟩)) (a5 _ _ (pS_f.mpr ⟨by omega, pY_f.mpr (by omega)⟩)), h7, ?_, h3⟩, by rw [a2, h2], a5⟩
  rw [a5.cw fun f g1 g2 => pS_f.mpr ⟨by omega, pY_f.mpr (by omega)⟩, h1]
theorem pS_k {f i : Nat} (h : pAk f i = false) : pS f i = false := by
  have := pAk_f.mp h
  exact pS_f.mpr ⟨by omega, pY_f.mpr (by omega)⟩
theorem pP_k {r f i : Nat} (h : pAk f i = false) : pP r f i = false := by
  have := pAk_f.mp h
  exact pP_f.mpr ⟨pM_f.mpr (by omega), pA_f.mpr (by omega), pY_f.mpr (by omega)⟩
theorem pI_k {f i : Nat} (h : pAk f i = false) : pI f i = false := by
  have := pAk_f.mp h
  exact pI_f.mpr (by omega)
theorem pJ_k {f i : Nat} (h : pAk f i = false) : pJ f i = false := by
  have := pAk_f.mp h
  exact pJ_f.mpr (by omega)
theorem pG_k {f i : Nat} (h : pAk f i = false) : pG f i = false := by
  have := pAk_f.mp h
  exact pG_f.mpr (by omega)
/-- the class' part of asking touches nothing of the model -/
def pCl (f i : Nat) : Bool := Nat.ble f 1535 || Nat.ble 3000 f
theorem pCl_f {f i : Nat} : pCl f i = false ↔ 1535 < f ∧ f < 3000 := by
  unfold pCl
  rw [Bool.or_eq_false_iff, ← Bool.not_eq_true, ← Bool.not_eq_true, Nat.ble_eq, Nat.ble_eq]
  omega
theorem MS.cl {C Y : V2} {code : List Int} {d : Int} {t t' : S2} (h : MS C Y code d t) (e : Fr pCl t t') : MS C Y code d t' := h.fr e (fun f h1 h2 _ _ => pCl_f.mpr (by omega))
theorem pS_cl {f i : Nat} (h : pCl f i = false) : pS f i = false := by
  have := pCl_f.mp h
  exact pS_f.mpr ⟨by omega, pY_f.mpr (by omega)⟩
theorem pP_cl {r f i : Nat} (h : pCl f i = false) : pP r f i = false := by
  have := pCl_f.mp h
  exact pP_f.mpr ⟨pM_f.mpr (by omega), pA_f.mpr (by omega), pY_f.mpr (by omega)⟩
