/-! ONE CLAUSE of a court, in the class -/
def opK (K : Int) : Bool := decide (K = 274 ∨ K = 256 ∨ K = 257 ∨ K = 275 ∨ K = 276 ∨ K = 268)
theorem m33 {K : Int} : f33 K = some (if opK K = true then 1 else 0) := by
  unfold f33 opK
  by_cases h : K = 274 ∨ K = 256 ∨ K = 257 ∨ K = 275 ∨ K = 276 ∨ K = 268
  · rw [if_pos (show decide (K = 274 ∨ K = 256 ∨ K = 257 ∨ K = 275 ∨ K = 276 ∨ K = 268) = true from decide_eq_true h)]
    rcases h with rfl | rfl | rfl | rfl | rfl | rfl <;> rfl
  · rw [if_neg (show ¬ decide (K = 274 ∨ K = 256 ∨ K = 257 ∨ K = 275 ∨ K = 276 ∨ K = 268) = true by rw [decide_eq_false h]; decide)]
    rw [if_neg (by omega), if_neg (by omega), if_neg (by omega), if_neg (by omega), if_neg (by omega), if_pos (by omega)]
/-- there is room for a clause -/
def hsP (K : Int) (C : V2) : Bool := if K = 256 then decide (C 384 0 ≠ 0 ∧ C 387 0 < 4) else if K = 257 then decide (C 384 0 ≠ 0 ∧ C 388 0 < 6) else if K = 268 then decide (C 384 0 ≠ 0 ∧ C 390 0 < 3) else if K = 274 then decide (C 384 0 = 0) else if K = 275 then decide (C 384 0 ≠ 0 ∧ C 389 0 < 10) else decide (C 384 0 ≠ 0)
theorem d01 {p : Prop} [Decidable p] {x : Option Int} (h1 : p → x = some 1) (h2 : ¬ p → x = some 0) : x = some (if decide p = true then 1 else 0) := by
  by_cases h : p
  · rw [if_pos (decide_eq_true h), h1 h]
  · rw [if_neg (by rw [decide_eq_false h]; decide), h2 h]
theorem m35 {s : S2} {K : Int} (ht : cw s 5 384 0 = 0 ∨ cw s 5 384 0 = 1) : f35 K s = some (if hsP K (cw s 5) = true then 1 else 0) := by
  have e4 : s 384 5 0 = cw s 5 384 0 := ch5 (by omega) (by omega)
  have two : ∀ (f : Nat) (b : Int), 384 ≤ f → f ≤ 390 → (bnd (s 384 5 0) fun v1 => if v1 = 0 then (some 0) else bnd (s f 5 0) fun v2 => if b ≤ v2 then (some 0) else some 1) = some (if decide (cw s 5 384 0 ≠ 0 ∧ cw s 5 f 0 < b) = true then (1 : Int) else 0) := fun f b h1 h2 => by
    have ef : s f 5 0 = cw s 5 f 0 := ch5 h1 h2
    rw [bnd, e4]
    refine d01 (fun w => ?_) (fun w => ?_)
    · rw [if_neg w.1, bnd, ef, if_neg (by omega)]
    · by_cases c : cw s 5 384 0 = 0
      · rw [if_pos c]
      · rw [if_neg c, bnd, ef, if_pos (by omega)]
  unfold f35 hsP
  by_cases k1 : K = 256
  · rw [if_pos k1, if_pos k1, two 387 4 (by omega) (by omega)]
  · rw [if_neg k1, if_neg k1]
    by_cases k2 : K = 257
    · rw [if_pos k2, if_pos k2, two 388 6 (by omega) (by omega)]
    · rw [if_neg k2, if_neg k2]
      by_cases k3 : K = 268
      · rw [if_pos k3, if_pos k3, two 390 3 (by omega) (by omega)]
      · rw [if_neg k3, if_neg k3]
        by_cases k4 : K = 274
        · rw [if_pos k4, if_pos k4, bnd, e4]
          refine d01 (fun w => ?_) (fun w => ?_)
          · rw [if_neg (fun y => y w)]
          · rw [if_pos w]
        · rw [if_neg k4, if_neg k4]
          by_cases k5 : K = 275
          · rw [if_pos k5, if_pos k5, two 389 10 (by omega) (by omega)]
          · rw [if_neg k5, if_neg k5, bnd, e4, gd_t ht]
            refine d01 (fun w => ?_) (fun w => ?_)
            · rw [show cw s 5 384 0 = 1 by omega]
            · rw [show cw s 5 384 0 = 0 by omega]
def clR (n : Nat) (bs : Nat → Nat) (K : Int) (q : Nat) (C B : V2) : Int ⊕ (Nat × V2 × V2) := if K = 256 then clFamily n bs q C B else if K = 257 then clLine n bs q C B else if K = 268 then clRain n bs q C B else if K = 274 then clCourt n bs q C B else if K = 275 then clLinen n bs q C B else clHung n bs q C B
theorem m37 {s : S2} {n m q : Nat} {K : Int} {bs : Nat → Nat} (h : CAt s n bs m q) (hC : CB (cw s 5)) (hp : hsP K (cw s 5) = true) : ∃ s', f37 K s = some s' ∧ CRes s s' n bs m (clR n bs K q (cw s 5) (yv s 161)) := by
  have hcc := hC.1
  have ret : ∀ {A : Option S2} {r : Int ⊕ (Nat × V2 × V2)}, (∃ s', A = some s' ∧ CRes s s' n bs m r) → ∃ s', (cP A fun s1 => some s1) = some s' ∧ CRes s s' n bs m r := fun {A} {r} w => by
    obtain ⟨s', k1, k2⟩ := w
    exact ⟨s', by rw [k1, cP_s], k2⟩
  unfold hsP at hp
  unfold f37 clR
  by_cases k1 : K = 256
  · rw [if_pos k1] at hp
    rw [if_pos k1, if_pos k1]
    have w := (of_decide_eq_true hp).2
    obtain ⟨k, hk⟩ := Int.eq_ofNat_of_zero_le (show 0 ≤ cw s 5 387 0 by omega)
    exact ret (m41 h hC.cs hk (by omega))
  · rw [if_neg k1] at hp
    rw [if_neg k1, if_neg k1]
    by_cases k2 : K = 257
    · rw [if_pos k2] at hp
      rw [if_pos k2, if_pos k2]
      have w := (of_decide_eq_true hp).2
      obtain ⟨k, hk⟩ := Int.eq_ofNat_of_zero_le (show 0 ≤ cw s 5 388 0 by omega)
      exact ret (m42 h hC.cs hk (by omega))
    · rw [if_neg k2] at hp
      rw [if_neg k2, if_neg k2]
      by_cases k3 : K = 268
      · rw [if_pos k3] at hp
        rw [if_pos k3, if_pos k3]
        have w := (of_decide_eq_true hp).2
        obtain ⟨k, hk⟩ := Int.eq_ofNat_of_zero_le (show 0 ≤ cw s 5 390 0 by omega)
        exact ret (m46 h hC.cs hk (by omega))
      · rw [if_neg k3] at hp
        rw [if_neg k3, if_neg k3]
        by_cases k4 : K = 274
        · rw [if_pos k4, if_pos k4]
          exact ret (m38 h hC.cs)
        · rw [if_neg k4] at hp
          rw [if_neg k4, if_neg k4]
          by_cases k5 : K = 275
          · rw [if_pos k5] at hp
            rw [if_pos k5, if_pos k5]
            have w := (of_decide_eq_true hp).2
            obtain ⟨k, hk⟩ := Int.eq_ofNat_of_zero_le (show 0 ≤ cw s 5 389 0 by omega)
            obtain ⟨F, hF⟩ := Int.eq_ofNat_of_zero_le (show 0 ≤ cw s 5 387 0 by omega)
            exact ret (m45 h hC.cs hk (by omega) hF (by omega))
          · rw [if_neg k5, if_neg k5]
            exact ret (m47 h hC)
