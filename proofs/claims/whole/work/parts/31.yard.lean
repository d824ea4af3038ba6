/-! COURTS AND YARDS as the class has them -/
abbrev V2 : Type := Nat → Nat → Int
def isF (C : V2) (n : Int) : Prop := 0 ≤ n ∧ n < C 387 0 ∧ n < 4
def isL (C : V2) (n : Int) : Prop := 0 ≤ n ∧ n < C 388 0 ∧ n < 6
def isN (C : V2) (n : Int) : Prop := 0 ≤ n ∧ n < C 389 0 ∧ n < 10
abbrev cv (s : S2) (c : Nat) : V2 := fun f k => s f c k
theorem m49 {c : Nat} {n : Int} {s : S2} : f49 c n s = some (if 0 ≤ n ∧ n < s 389 c 0 ∧ n < 10 then 1 else 0) := by
  unfold f49 bnd
  grind
theorem m50 {c : Nat} {n : Int} {s : S2} : f50 c n s = some (if 0 ≤ n ∧ n < s 388 c 0 ∧ n < 6 then 1 else 0) := by
  unfold f50 bnd
  grind
theorem m51 {c : Nat} {n : Int} {s : S2} : f51 c n s = some (if 0 ≤ n ∧ n < s 387 c 0 ∧ n < 4 then 1 else 0) := by
  unfold f51 bnd
  grind
theorem m53 {y c : Nat} {l : Int} {s : S2} (hb : ∀ n, n < 10 → -100 ≤ s 396 c n ∧ s 396 c n ≤ 100) : f53 y c l s = some (sumI 10 (fun n => if s 515 y n = l then s 396 c n else 0)) := by
  have hB : ∀ i, i ≤ 10 → -1000 ≤ sumI i (fun n => if s 515 y n = l then s 396 c n else 0) ∧ sumI i (fun n => if s 515 y n = l then s 396 c n else 0) ≤ 1000 := by
    intro i hi
    have := sumI_bd (f := fun n => if s 515 y n = l then s 396 c n else 0) (a := -100) (b := 100) (n := i) (fun j hj => by grind)
    omega
  unfold f53
  refine seq_cP (fun i => (sumI i (fun n => if s 515 y n = l then s 396 c n else 0), (i : Int))) 10 _ rfl (by decide) ?_ rfl rfl
  intro i hi
  have h1 := hB i (by omega)
  have h2 := hb i hi
  show f53_a y c l _ _ s = _
  simp (disch := omega) only [f53_a, sumI_s, and_self, and_true, true_and, not_true_eq_false, not_false_eq_true, reduceIte, bnd, jn, se, cP_s, cR_s, if_pos, if_neg, gd_t, ld_t, ldr_t, sto_t, jadd_e, jsub_e, Int.toNat_natCast]
  split <;> simp_all
/-- LENGTH on a line, left on it -/
def cells (C Y : V2) (l : Int) : Int := sumI 10 (fun n => if Y 515 n = l then C 396 n else 0)
def left (C Y : V2) (l : Int) : Int := if 0 ≤ l ∧ l < C 388 0 ∧ l < 6 then C 393 l.toNat - cells C Y l else 0
/-- all numbers of a court and a yard are small -/
def small (C : V2) : Prop := ∀ f k, -1 ≤ C f k ∧ C f k ≤ 100
theorem cells_bd {C Y : V2} {l : Int} (hb : ∀ n, n < 10 → -100 ≤ C 396 n ∧ C 396 n ≤ 100) : -1000 ≤ cells C Y l ∧ cells C Y l ≤ 1000 := by
  have := sumI_bd (f := fun n => if Y 515 n = l then C 396 n else 0) (a := -100) (b := 100) (n := 10) (fun j hj => by have := hb j hj; grind)
  unfold cells
  omega
theorem m52 {y c : Nat} {l : Int} {s : S2} (hb : ∀ n, n < 10 → -100 ≤ s 396 c n ∧ s 396 c n ≤ 100) (hl : ∀ n, n < 6 → -100 ≤ s 393 c n ∧ s 393 c n ≤ 100) : f52 y c l s = some (left (cv s c) (cv s y) l) := by
  unfold f52 left
  rw [m50, m53 hb]
  by_cases h : 0 ≤ l ∧ l < s 388 c 0 ∧ l < 6
  · have h1 := hl l.toNat (by omega)
    have h2 := cells_bd (C := cv s c) (Y := cv s y) (l := l) hb
    unfold cells cv at h2
    simp (disch := omega) only [cv, cells, h, and_self, and_true, true_and, not_true_eq_false, not_false_eq_true, reduceIte, bnd, jn, se, cP_s, cR_s, if_pos, if_neg, gd_t, ld_t, ldr_t, sto_t, jadd_e, jsub_e, Int.toNat_natCast]
  · simp (disch := omega) only [cv, h, and_self, and_true, true_and, not_true_eq_false, not_false_eq_true, reduceIte, bnd, jn, se, cP_s, cR_s, if_pos, if_neg, gd_t, ld_t, ldr_t, sto_t, jadd_e, jsub_e, Int.toNat_natCast]
def mayH (C Y : V2) (n l : Int) : Prop := (0 ≤ n ∧ n < C 389 0 ∧ n < 10) ∧ (0 ≤ l ∧ l < C 388 0 ∧ l < 6) ∧ Y 515 n.toNat = -1 ∧ Y 514 l.toNat = 0 ∧ (0 ≤ C 395 n.toNat ∧ C 395 n.toNat < C 387 0 ∧ C 395 n.toNat < 4) ∧ 2 ≤ Y 517 (C 395 n.toNat).toNat ∧ C 396 n.toNat ≤ left C Y l
theorem m48 {y c : Nat} {n l : Int} {s : S2} (hb : ∀ n, n < 10 → -100 ≤ s 396 c n ∧ s 396 c n ≤ 100) (hl : ∀ n, n < 6 → -100 ≤ s 393 c n ∧ s 393 c n ≤ 100) [Decidable (mayH (cv s c) (cv s y) n l)] : f48 y c n l s = some (if mayH (cv s c) (cv s y) n l then 1 else 0) := by
  unfold f48 mayH
  simp only [m49, m50, m51, m52 hb hl, cP_s]
  by_cases h1 : 0 ≤ n ∧ n < s 389 c 0 ∧ n < 10
  · by_cases h2 : 0 ≤ l ∧ l < s 388 c 0 ∧ l < 6
    · simp (disch := omega) only [cv, and_self, and_true, true_and, not_true_eq_false, not_false_eq_true, reduceIte, bnd, jn, se, cP_s, cR_s, if_pos, if_neg, gd_t, ld_t, ldr_t, sto_t, jadd_e, jsub_e, Int.toNat_natCast]
      grind
    · simp (disch := omega) only [cv, and_self, and_true, true_and, not_true_eq_false, not_false_eq_true, reduceIte, bnd, jn, se, cP_s, cR_s, if_pos, if_neg, gd_t, ld_t, ldr_t, sto_t, jadd_e, jsub_e, Int.toNat_natCast]
      grind
  · simp (disch := omega) only [cv, and_self, and_true, true_and, not_true_eq_false, not_false_eq_true, reduceIte, bnd, jn, se, cP_s, cR_s, if_pos, if_neg, gd_t, ld_t, ldr_t, sto_t, jadd_e, jsub_e, Int.toNat_natCast]
    grind
