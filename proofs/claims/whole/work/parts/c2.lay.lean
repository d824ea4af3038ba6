/-! THE LAYOUT: which cell holds which thing of the second memory -/
def ndK : List Nat → Bool
  | [] => true
  | x :: r => (r.all fun y => !(Nat.beq x y)) && ndK r
theorem ndK_i : ∀ {l : List Nat} {a b x : Nat}, ndK l = true → l[a]? = some x → l[b]? = some x → a = b
  | [], _, _, _, _, h, _ => by cases h
  | y :: r, a, b, x, hn, ha, hb => by
    unfold ndK at hn
    rw [Bool.and_eq_true] at hn
    have no : ∀ i, r[i]? = some y → False := fun i hi => by
      have := List.all_eq_true.mp hn.1 y (List.mem_of_getElem? hi)
      rw [Nat.beq_refl] at this
      cases this
    match a, b, ha, hb with
    | 0, 0, _, _ => rfl
    | 0, b + 1, ha, hb =>
      cases ha
      exact (no b hb).elim
    | a + 1, 0, ha, hb =>
      cases hb
      exact (no a ha).elim
    | a + 1, b + 1, ha, hb => rw [ndK_i (l := r) hn.2 ha hb]
def layK (x : Nat × Nat) : Nat := x.1 * 1024 + x.2
theorem lay_nd : ndK (am_lay.map layK) = true := by decide +kernel
theorem lay_inj {a b : Nat} {x : Nat × Nat} (ha : am_lay[a]? = some x) (hb : am_lay[b]? = some x) : a = b := by
  refine ndK_i (x := layK x) lay_nd ?_ ?_
  · rw [List.getElem?_map, ha]; rfl
  · rw [List.getElem?_map, hb]; rfl
def am_fkA : List (Nat × am_K5) := am_fkT0 ++ (am_fkT1 ++ (am_fkT2 ++ (am_fkT3 ++ am_fkT4)))
theorem fkL_mem {f : Nat} {r : am_K5} : ∀ {l : List (Nat × am_K5)}, am_fkL f l = r → r.1 ≠ 9 → (f, r) ∈ l
  | [], h, h9 => by
    subst h
    exact absurd rfl h9
  | (g, r') :: t, h, h9 => by
    unfold am_fkL at h
    cases e : Nat.beq g f with
    | true =>
      rw [e] at h
      cases h
      rw [Nat.eq_of_beq_eq_true e]
      exact List.mem_cons_self
    | false =>
      rw [e] at h
      exact List.mem_cons_of_mem _ (fkL_mem h h9)
theorem fk_mem {f : Nat} {r : am_K5} (h : am_fk f = r) (h9 : r.1 ≠ 9) : (f, r) ∈ am_fkA := by
  unfold am_fkA
  simp only [List.mem_append]
  unfold am_fk at h
  cases e1 : Nat.blt f 500 with
  | true =>
    rw [e1] at h
    exact Or.inl (fkL_mem h h9)
  | false =>
    rw [e1] at h
    cases e2 : Nat.blt f 1100 with
    | true =>
      rw [e2] at h
      exact Or.inr (Or.inl (fkL_mem h h9))
    | false =>
      rw [e2] at h
      cases e3 : Nat.blt f 1536 with
      | true =>
        rw [e3] at h
        exact Or.inr (Or.inr (Or.inl (fkL_mem h h9)))
      | false =>
        rw [e3] at h
        cases e4 : Nat.blt f 1575 with
        | true =>
          rw [e4] at h
          exact Or.inr (Or.inr (Or.inr (Or.inl (fkL_mem h h9))))
        | false =>
          rw [e4] at h
          exact Or.inr (Or.inr (Or.inr (Or.inr (fkL_mem h h9))))
def ckF (x : Nat × am_K5) : Bool := Nat.ble x.2.1 7 && Nat.ble x.2.2.2.1 100000 && (Nat.beq x.1 3000 && Nat.beq x.2.1 2 || (Nat.blt (x.1 / 128) 13 && match (am_ft (x.1 / 128))[x.1 % 128]? with
  | some t => Nat.beq t (bif Nat.beq x.2.1 0 then 0 else bif Nat.beq x.2.1 1 then 1 else 2)
  | none => false))
theorem fk_ck : am_fkA.all ckF = true := by decide +kernel
theorem fk_ok {f : Nat} {r : am_K5} (h : am_fk f = r) (h9 : r.1 ≠ 9) : r.1 ≤ 7 ∧ r.2.2.1 ≤ 100000 ∧ ((f = 3000 ∧ r.1 = 2) ∨ (f / 128 < 13 ∧ (am_ft (f / 128))[f % 128]? = some (if r.1 = 0 then 0 else if r.1 = 1 then 1 else 2))) := by
  have hc := List.all_eq_true.mp fk_ck _ (fk_mem h h9)
  unfold ckF at hc
  dsimp only at hc
  rw [Bool.and_eq_true, Bool.and_eq_true] at hc
  refine ⟨Nat.le_of_ble_eq_true hc.1.1, Nat.le_of_ble_eq_true hc.1.2, ?_⟩
  rcases Bool.or_eq_true _ _ ▸ hc.2 with g | g
  · rw [Bool.and_eq_true] at g
    exact Or.inl ⟨Nat.eq_of_beq_eq_true g.1, Nat.eq_of_beq_eq_true g.2⟩
  · rw [Bool.and_eq_true] at g
    refine Or.inr ⟨Nat.le_of_ble_eq_true g.1, ?_⟩
    have g2 := g.2
    cases e : (am_ft (f / 128))[f % 128]? with
    | none => rw [e] at g2; cases g2
    | some t =>
      rw [e] at g2
      have g3 := Nat.eq_of_beq_eq_true g2
      rw [g3]
      by_cases y0 : r.1 = 0
      · rw [if_pos y0, y0]; rfl
      · by_cases y1 : r.1 = 1
        · rw [if_neg y0, if_pos y1, y1]; rfl
        · rw [if_neg y0, if_neg y1]
          have b0 : Nat.beq r.1 0 = false := by
            cases e0 : Nat.beq r.1 0 with
            | true => exact absurd (Nat.eq_of_beq_eq_true e0) y0
            | false => rfl
          have b1 : Nat.beq r.1 1 = false := by
            cases e0 : Nat.beq r.1 1 with
            | true => exact absurd (Nat.eq_of_beq_eq_true e0) y1
            | false => rfl
          rw [b0, b1]
          rfl
theorem ft_128 {c : Nat} : (am_ft c).length ≤ 128 := by
  by_cases h : c < 13
  · have k : ∀ c : Fin 13, (am_ft c.val).length ≤ 128 := by decide +kernel
    exact k ⟨c, h⟩
  · have : am_ft c = [] := by
      unfold am_ft
      rw [List.getD_eq_getElem?_getD, List.getElem?_eq_none (by
        show 13 ≤ c
        omega)]
      rfl
    rw [this]
    exact Nat.zero_le _
theorem lay_cls {a : Nat} {x : Nat × Nat} (h : am_lay[a]? = some x) : x.1 < 13 ∨ 2000 ≤ x.1 := by
  have k : (am_lay.all fun x => Nat.blt x.1 13 || Nat.ble 2000 x.1) = true := by decide +kernel
  have := List.all_eq_true.mp k x (List.mem_of_getElem? h)
  rcases Bool.or_eq_true _ _ ▸ this with g | g
  · exact Or.inl (Nat.le_of_ble_eq_true g)
  · exact Or.inr (Nat.le_of_ble_eq_true g)
theorem oc_99 {k : Nat} : am_o k < 99 := by
  unfold am_o
  rw [List.getD_eq_getElem?_getD]
  cases e : am_oc[k]? with
  | none => decide
  | some c =>
    have h : (am_oc.all fun c => Nat.blt c 99) = true := by decide +kernel
    exact Nat.le_of_ble_eq_true (List.all_eq_true.mp h c (List.mem_of_getElem? e))
