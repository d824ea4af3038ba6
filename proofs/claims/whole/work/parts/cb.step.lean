/-! THE TWO PROGRAMS: the same, but where the second makes a world in one step -/
def tbE : List (Int × Nat) → List (Int × Nat) → Bool
  | [], [] => true
  | a :: x, b :: y => ieq a.1 b.1 && (Nat.beq a.2 b.2 && tbE x y)
  | _, _ => false
theorem tbE_i : ∀ {x y : List (Int × Nat)}, tbE x y = true → x = y
  | [], [], _ => rfl
  | (a, a') :: x, (b, b') :: y, h => by
    unfold tbE at h
    rw [Bool.and_eq_true, Bool.and_eq_true] at h
    have h1 : a = b := ieq_i h.1
    have h2 : a' = b' := Nat.eq_of_beq_eq_true h.2.1
    rw [h1, h2, tbE_i h.2.2]
  | [], _ :: _, h => by cases h
  | _ :: _, [], h => by cases h
def iE (a b : am_I × Nat) : Bool := Nat.beq a.1.1 b.1.1 && (Nat.beq a.1.2.1 b.1.2.1 && (Nat.beq a.1.2.2.1 b.1.2.2.1 && (ieq a.1.2.2.2.1 b.1.2.2.2.1 && (tbE a.1.2.2.2.2 b.1.2.2.2.2 && Nat.beq a.2 b.2))))
theorem iE_i {a b : am_I × Nat} (h : iE a b = true) : a = b := by
  obtain ⟨⟨a1, a2, a3, a4, a5⟩, a6⟩ := a
  obtain ⟨⟨b1, b2, b3, b4, b5⟩, b6⟩ := b
  unfold iE at h
  rw [Bool.and_eq_true, Bool.and_eq_true, Bool.and_eq_true, Bool.and_eq_true, Bool.and_eq_true] at h
  obtain ⟨h1, h2, h3, h4, h5, h6⟩ := h
  have h1 : a1 = b1 := Nat.eq_of_beq_eq_true h1
  have h2 : a2 = b2 := Nat.eq_of_beq_eq_true h2
  have h3 : a3 = b3 := Nat.eq_of_beq_eq_true h3
  have h4 : a4 = b4 := ieq_i h4
  have h5 : a5 = b5 := tbE_i h5
  have h6 : a6 = b6 := Nat.eq_of_beq_eq_true h6
  rw [h1, h2, h3, h4, h5, h6]
def lE : List (Nat × am_I × Nat) → List (Nat × am_I × Nat) → Bool
  | [], [] => true
  | a :: x, b :: y => Nat.beq a.1 b.1 && (iE a.2 b.2 && lE x y)
  | _, _ => false
theorem lE_i : ∀ {x y : List (Nat × am_I × Nat)}, lE x y = true → x = y
  | [], [], _ => rfl
  | (a, a') :: x, (b, b') :: y, h => by
    unfold lE at h
    rw [Bool.and_eq_true, Bool.and_eq_true] at h
    have h1 : a = b := Nat.eq_of_beq_eq_true h.1
    have h2 : a' = b' := iE_i h.2.1
    rw [h1, h2, lE_i h.2.2]
  | [], _ :: _, h => by cases h
  | _ :: _, [], h => by cases h
theorem cd_t : ((List.range 288).all fun k => Nat.beq k 152 || lE (am_cd k) (am_cs.getD k [])) = true := by decide +kernel
theorem cd_P {k : Nat} (h : k ≠ 152) : am_cd k = am_cs.getD k [] := by
  by_cases hk : k < 288
  · have := List.all_eq_true.mp cd_t k (List.mem_range.mpr hk)
    rcases Bool.or_eq_true _ _ ▸ this with w | w
    · exact absurd (Nat.eq_of_beq_eq_true w) h
    · exact lE_i w
  · have e1 : am_cd k = [] := by
      unfold am_cd
      rw [show Nat.blt k 288 = false by
        cases e : Nat.blt k 288 with
        | true =>
          have : k + 1 ≤ 288 := Nat.le_of_ble_eq_true e
          omega
        | false => rfl]
      rfl
    have l : am_cs.length = 288 := by decide +kernel
    rw [e1, List.getD_eq_getElem?_getD, List.getElem?_eq_none (by omega)]
    rfl
def ckI2 : Bool := am_cI.all fun i => (match am_lk i.1 am_c152 with
  | some r => iE r i.2
  | none => false) || (Nat.beq i.1 22 && iE i.2 ((24, 30, 0, 8, []), 29))
theorem ckI2_t : ckI2 = true := by decide +kernel
theorem hP_2 (k pc : Nat) (i : am_I) (nx : Nat) (h : am_P2 k pc = some (i, nx)) : am_P k pc = some (i, nx) ∨ (k = 152 ∧ pc = 22 ∧ i = (24, 30, 0, 8, []) ∧ nx = 29) := by
  by_cases e : k = 152
  · subst e
    have h : am_lk pc am_cI = some (i, nx) := h
    have h1 := List.all_eq_true.mp ckI2_t _ (lk_mem h)
    rcases Bool.or_eq_true _ _ ▸ h1 with g | g
    · refine Or.inl ?_
      show am_lk pc am_c152 = _
      split at g
      · rename_i r e
        have e : am_lk pc am_c152 = some r := e
        rw [e, iE_i g]
      · cases g
    · rw [Bool.and_eq_true] at g
      have g2 : (i, nx) = ((24, 30, 0, 8, []), 29) := iE_i g.2
      cases g2
      exact Or.inr ⟨rfl, Nat.eq_of_beq_eq_true g.1, rfl, rfl⟩
  · refine Or.inl ?_
    unfold am_P
    rw [← cd_P e]
    exact h
