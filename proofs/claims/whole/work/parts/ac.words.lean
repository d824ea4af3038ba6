/-! THE KINDS of words -/
theorem wT_inj : ∀ i j : Fin 21, m2_tb (wT i.val) = m2_tb (wT j.val) → i = j := by decide +kernel
theorem wAt_u {n q : Nat} {bs : Nat → Nat} {v w : List Nat} (h : wAt n bs q v = true) (h2 : wAt n bs q w = true) : v = w := by
  obtain ⟨a1, a2⟩ := of_decide_eq_true h
  obtain ⟨b1, b2⟩ := of_decide_eq_true h2
  refine List.ext_getElem (by omega) fun k k1 k2 => ?_
  have c1 := a2 k k1
  have c2 := b2 k k2
  rw [List.getD_eq_getElem?_getD, List.getElem?_eq_getElem k1, Option.getD_some] at c1
  rw [List.getD_eq_getElem?_getD, List.getElem?_eq_getElem k2, Option.getD_some] at c2
  omega
theorem wk_t {n q i : Nat} {bs : Nat → Nat} (hi : i < 21) (h : wAt n bs q (m2_tb (wT i)) = true) : wk n bs q = 256 + (i : Int) := by
  unfold wk
  rw [fstN_f (p := fun i => wAt n bs q (m2_tb (wT i))) (i := i) (fun j hj => Bool.eq_false_iff.mpr fun w => by
    have := wT_inj ⟨j, by omega⟩ ⟨i, hi⟩ (wAt_u w h)
    rw [Fin.mk.injEq] at this
    omega) h hi]
theorem fstN_i {p : Nat → Bool} : ∀ {n i : Nat}, fstN p n = some i → i < n ∧ p i = true
  | 0, _, h => by unfold fstN at h; cases h
  | n + 1, i, h => by
    unfold fstN at h
    cases e : fstN p n with
    | some k =>
      rw [e] at h
      dsimp only at h
      cases h
      have := fstN_i e
      exact ⟨by omega, this.2⟩
    | none =>
      rw [e] at h
      dsimp only at h
      by_cases c : p n = true
      · rw [if_pos c] at h
        cases h
        exact ⟨by omega, c⟩
      · rw [if_neg c] at h
        cases h
theorem wk_f {n q i : Nat} {bs : Nat → Nat} (h : wk n bs q = 256 + (i : Int)) : wAt n bs q (m2_tb (wT i)) = true := by
  unfold wk at h
  cases e : fstN (fun i => wAt n bs q (m2_tb (wT i))) 21 with
  | some k =>
    rw [e] at h
    dsimp only at h
    have := (fstN_i e).2
    have ek : k = i := by omega
    subst ek
    exact this
  | none =>
    rw [e] at h
    dsimp only at h
    omega
theorem wk_r {n q : Nat} {bs : Nat → Nat} : wk n bs q = 1 ∨ ∃ i : Nat, i < 21 ∧ wk n bs q = 256 + (i : Int) := by
  unfold wk
  cases e : fstN (fun i => wAt n bs q (m2_tb (wT i))) 21 with
  | some k => exact Or.inr ⟨k, (fstN_i e).1, rfl⟩
  | none => exact Or.inl rfl
theorem sg_l : ∀ b : Fin 256, sg b.val = true → b.val ≤ 93 ∧ 37 ≤ b.val := by decide +kernel
theorem tK_w {n q i : Nat} {bs : Nat → Nat} (hb : ∀ k, k < n → bs k < 256) (hi : i < 21) : tK n bs q = 256 + (i : Int) ↔ wAt n bs q (m2_tb (wT i)) = true := by
  constructor
  · intro h
    unfold tK at h
    split at h
    · omega
    · split at h
      · omega
      · split at h
        · exact wk_f h
        · split at h
          · split at h <;> omega
          · split at h
            · rename_i g
              have := (sg_l ⟨bs q, hb q (by omega)⟩ g).1
              dsimp only at this
              omega
            · omega
  · intro h
    have hw := wT_k ⟨i, hi⟩
    have hl := (lenk ⟨wT i, hw.1⟩).2 hw.2
    dsimp only at hl
    obtain ⟨a1, a2⟩ := of_decide_eq_true h
    have l1 : isLt (bt n bs q) = true := run_in (q := isLt) (k := 0) (by omega)
    have l2 := isLt_t l1
    have hq : q < n := bt_lt (bs := bs) (by omega)
    have d : ¬ isD (bt n bs q) = true := fun w => by have := isD_t w; omega
    unfold tK
    rw [if_neg (by omega), if_neg d, if_pos l1]
    exact wk_t hi h
/-- a court with one number set -/
def setC (C : V2) (g j : Nat) (v : Int) : V2 := nC (fun f k => if f = g ∧ k = j then v else C f k)
theorem setC_e {C : V2} {g j f k : Nat} {v : Int} (h : cr f k) : setC C g j v f k = if f = g ∧ k = j then v else C f k := nC_t h
theorem cw_st {s : S2} {g c j : Nat} {v : Int} : cw (st2 s g c j v) c = setC (cw s c) g j v := nC_ext fun f k hr => by
  show st2 s g c j v f c k = if f = g ∧ k = j then v else cw s c f k
  rw [st2_d, cw_t hr]
  by_cases e : f = g ∧ k = j
  · rw [if_pos ⟨e.1, rfl, e.2⟩, if_pos e]
  · rw [if_neg (by omega), if_neg e]
