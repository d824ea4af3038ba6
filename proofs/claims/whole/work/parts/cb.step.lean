/-! THE TWO PROGRAMS: the same, but where the second makes a world in one step -/
theorem cd_P {k : Nat} (h : k ≠ 152) : am_cd k = am_cs.getD k [] := by
  by_cases hk : k < 287
  · have ck : ∀ k : Fin 287, k.val = 152 ∨ am_cd k.val = am_cs.getD k.val [] := by
      intro ⟨k, hk⟩
      sorry
    rcases ck ⟨k, hk⟩ with w | w
    · exact absurd w h
    · exact w
  · have e1 : am_cd k = [] := by
      unfold am_cd
      rw [show Nat.blt k 287 = false by
        cases e : Nat.blt k 287 with
        | true =>
          have : k + 1 ≤ 287 := Nat.le_of_ble_eq_true e
          omega
        | false => rfl]
      rfl
    have l : am_cs.length = 287 := by decide +kernel
    rw [e1, List.getD_eq_getElem?_getD, List.getElem?_eq_none (by omega)]
    rfl
