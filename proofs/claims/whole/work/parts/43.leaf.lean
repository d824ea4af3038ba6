/-! sets as bits, small questions -/
def setB : Nat → (Nat → Bool) → Int
  | 0, _ => 0
  | n + 1, p => if p n = true then jor (setB n p) (jshl 1 n) else setB n p
theorem setB_s {p : Nat → Bool} {n : Nat} : setB (n + 1) p = if p n = true then jor (setB n p) (jshl 1 n) else setB n p := rfl
theorem setB_congr {p q : Nat → Bool} : ∀ {n : Nat}, (∀ i, i < n → p i = q i) → setB n p = setB n q
  | 0, _ => rfl
  | n + 1, h => by unfold setB; rw [setB_congr (n := n) (fun i hi => h i (by omega)), h n (by omega)]
theorem setB_cut {p : Nat → Bool} {m : Nat} : ∀ {n : Nat}, m ≤ n → (∀ i, m ≤ i → i < n → p i = false) → setB n p = setB m p
  | 0, h, _ => by
    have : m = 0 := by omega
    subst this; rfl
  | n + 1, h, h0 => by
    by_cases e : m = n + 1
    · subst e; rfl
    · show (if p n = true then jor (setB n p) (jshl 1 n) else setB n p) = setB m p
      rw [h0 n (by omega) (by omega), if_neg (by decide)]
      exact setB_cut (n := n) (by omega) (fun i h1 h2 => h0 i h1 (by omega))
theorem m89 {y : Nat} {l : Int} {s : S2} : f89 y l s = some (setB 10 (fun n => decide (yv s y 515 n = l))) := by
  unfold f89
  refine seq_cP (fun i => (setB i (fun n => decide (yv s y 515 n = l)), (i : Int))) 10 _ rfl (by decide) ?_ rfl rfl
  intro i hi
  show f89_a y l _ _ s = _
  unfold f89_a
  rw [if_neg (by omega), ld_t (by omega) (by omega), Int.toNat_natCast, bnd, bnd, jadd_e (by omega) (by omega)]
  rw [setB_s]
  rw [yv515 hi]
  by_cases h : s 515 y i = l <;> simp [h, bnd]
theorem m124 {y : Nat} {s : S2} : f124 y s = some (setB 10 (fun n => !decide (yv s y 515 n = -1))) := by
  unfold f124
  refine seq_cP (fun i => (setB i (fun n => !decide (yv s y 515 n = -1)), (i : Int))) 10 _ rfl (by decide) ?_ rfl rfl
  intro i hi
  show f124_a y _ _ s = _
  unfold f124_a
  rw [if_neg (by omega), ld_t (by omega) (by omega), Int.toNat_natCast, bnd, bnd, jadd_e (by omega) (by omega)]
  rw [setB_s]
  rw [yv515 hi]
  by_cases h : s 515 y i = -1 <;> simp [h, bnd]
theorem m87 {c : Nat} {f : Int} {s : S2} : f87 c f s = some (setB 10 (fun n => decide ((n : Int) < cw s c 389 0 ∧ cw s c 395 n = f))) := by
  unfold f87
  refine seq_cP (fun i => (setB i (fun n => decide ((n : Int) < cw s c 389 0 ∧ cw s c 395 n = f)), (i : Int))) 10 _ rfl (by decide) ?_ rfl rfl
  intro i hi
  show f87_a c f _ _ s = _
  unfold f87_a
  rw [if_neg (by omega), bnd, bnd, ld_t (by omega) (by omega), Int.toNat_natCast, bnd, bnd, jadd_e (by omega) (by omega)]
  rw [setB_s]
  rw [cw10 (by omega) (by omega) hi, cw0 (by omega) (by omega)]
  by_cases h : s 389 c 0 ≤ i
  · have : ¬ ((i : Int) < s 389 c 0) := by omega
    simp [h, bnd, this]
  · have : (i : Int) < s 389 c 0 := by omega
    by_cases h2 : s 395 c i = f <;> simp [h, h2, bnd, this]
def dryB (Y : V2) (n : Nat) : Bool := decide (¬ Y 515 n = -1 ∧ Y 516 n = 0)
theorem m109 {y n : Nat} {s : S2} (hn : n < 10) : f109 y n s = some (if dryB (yv s y) n = true then 1 else 0) := by
  unfold f109 dryB
  rw [if_neg (by omega), if_neg (by omega), ld_t (by omega) (by omega), Int.toNat_natCast, ld_t (by omega) (by omega), Int.toNat_natCast, yv515 hn, yv516 hn]
  by_cases h : s 515 y n = -1
  · simp [h]
  · by_cases h2 : s 516 y n = 0 <;> simp [h, h2]
theorem m115 {y f : Nat} {s : S2} (hf : f < 4) : f115 y f s = some (yv s y 518 f) := by
  unfold f115
  rw [if_neg (by omega), if_neg (by omega), ld_t (by omega) (by omega), Int.toNat_natCast, yv518 hf]
def cntB : Nat → (Nat → Bool) → Int
  | 0, _ => 0
  | n + 1, p => if p n = true then cntB n p + 1 else cntB n p
theorem cntB_bd {p : Nat → Bool} : ∀ {n : Nat}, 0 ≤ cntB n p ∧ cntB n p ≤ n
  | 0 => by simp [cntB]
  | n + 1 => by
    have := cntB_bd (p := p) (n := n)
    unfold cntB
    split <;> omega
theorem cntB_congr {p q : Nat → Bool} : ∀ {n : Nat}, (∀ i, i < n → p i = q i) → cntB n p = cntB n q
  | 0, _ => rfl
  | n + 1, h => by unfold cntB; rw [cntB_congr (n := n) (fun i hi => h i (by omega)), h n (by omega)]
theorem cntB_cut {p : Nat → Bool} {m : Nat} : ∀ {n : Nat}, m ≤ n → (∀ i, m ≤ i → i < n → p i = false) → cntB n p = cntB m p
  | 0, h, _ => by
    have : m = 0 := by omega
    subst this; rfl
  | n + 1, h, h0 => by
    by_cases e : m = n + 1
    · subst e; rfl
    · show (if p n = true then cntB n p + 1 else cntB n p) = cntB m p
      rw [h0 n (by omega) (by omega), if_neg (by decide)]
      exact cntB_cut (n := n) (by omega) (fun i h1 h2 => h0 i h1 (by omega))
theorem m149 {s : S2} : f149 s = some (cntB 10 (dryB (yv s 160))) := by
  unfold f149
  refine seq_cP (fun i => (cntB i (dryB (yv s 160)), (i : Int))) 10 _ rfl (by decide) ?_ rfl rfl
  intro i hi
  have hb := cntB_bd (p := dryB (yv s 160)) (n := i)
  show f149_a _ _ s = _
  unfold f149_a
  rw [if_neg (by omega), m109 hi, cP_s]
  have e1 : cntB (i + 1) (dryB (yv s 160)) = if dryB (yv s 160) i = true then cntB i (dryB (yv s 160)) + 1 else cntB i (dryB (yv s 160)) := rfl
  cases h : dryB (yv s 160) i
  · rw [h] at e1
    simp only [bnd]
    rw [jadd_e (x := (i : Int)) (by omega) (by omega), e1]
    simp
  · rw [h] at e1
    simp only [bnd]
    rw [jadd_e (x := (i : Int)) (by omega) (by omega), jadd_e (x := cntB _ _) (by omega) (by omega), e1]
    simp
/-- LOAD of a line -/
def loadS (C Y : V2) (l f : Int) : Int := cells C Y l * f + sumI 10 (fun n => if Y 515 n = l then Y 516 n else 0)
theorem m53n {y c : Nat} {l : Int} {s : S2} (hC : CB (cw s c)) : f53 y c l s = some (cells (cw s c) (yv s y) l) := by
  rw [← cells_n]
  exact m53 (fun n hn => by have := hC.2.1 n hn; rw [cw10 (by omega) (by omega) hn, cw10 (by omega) (by omega) hn] at this; omega)
theorem cells_b {C Y : V2} {l : Int} (hC : CB C) : -10 ≤ cells C Y l ∧ cells C Y l ≤ 40 := by
  have := sumI_bd (f := fun n => if Y 515 n = l then C 396 n else 0) (a := -1) (b := 4) (n := 10) (fun j hj => by have := hC.2.1 j hj; grind)
  unfold cells
  omega
theorem m134 {y c : Nat} {l f : Int} {s : S2} (hC : CB (cw s c)) (hY : ∀ n, n < 10 → 0 ≤ yv s y 516 n ∧ yv s y 516 n ≤ 20) (hf : 0 ≤ f ∧ f ≤ 99) (hl : 0 ≤ l ∧ l < cw s c 388 0 ∧ l < 6) : f134 y c l f s = some (if loadS (cw s c) (yv s y) l f ≤ cw s c 394 l.toNat then 1 else 0) := by
  have hb := cells_b (Y := yv s y) (l := l) hC
  have hm : -990 ≤ cells (cw s c) (yv s y) l * f ∧ cells (cw s c) (yv s y) l * f ≤ 3960 := by
    constructor
    · have h1 : -10 * f ≤ cells (cw s c) (yv s y) l * f := Int.mul_le_mul_of_nonneg_right hb.1 hf.1
      omega
    · have h1 : cells (cw s c) (yv s y) l * f ≤ 40 * f := Int.mul_le_mul_of_nonneg_right hb.2 hf.1
      omega
  have hB : ∀ i, i ≤ 10 → 0 ≤ sumI i (fun n => if yv s y 515 n = l then yv s y 516 n else 0) ∧ sumI i (fun n => if yv s y 515 n = l then yv s y 516 n else 0) ≤ 200 := by
    intro i hi
    have := sumI_bd (f := fun n => if yv s y 515 n = l then yv s y 516 n else 0) (a := 0) (b := 20) (n := i) (fun j hj => by have := hY j (by omega); grind)
    omega
  unfold f134
  rw [m53n hC, cP_s, bnd, jmul_e (by omega) (by omega)]
  refine seq_cP (fun i => (cells (cw s c) (yv s y) l * f + sumI i (fun n => if yv s y 515 n = l then yv s y 516 n else 0), (i : Int))) 10 _ (by simp [sumI]) (by decide) ?_ rfl ?_
  · intro i hi
    have h1 := hB i (by omega)
    have h2 := hY i hi
    show f134_a y l _ _ s = _
    unfold f134_a
    rw [if_neg (by omega), ld_t (by omega) (by omega), Int.toNat_natCast, ← yv515 (s := s) (y := y) hi, ld_t (by omega) (by omega), Int.toNat_natCast, ← yv516 (s := s) (y := y) hi]
    simp only [bnd]
    rw [jadd_e (x := (i : Int)) (by omega) (by omega), jadd_e (by omega) (by omega), sumI_s]
    by_cases h : yv s y 515 i = l
    · simp [h]; omega
    · simp [h]
  · have e1 := hl
    rw [cw0 (by omega) (by omega)] at e1
    show cP (f50 c l s) _ = _
    rw [m50t e1, cP_s, if_neg ne10, ld_t (by omega) (by omega), ← cw6 (s := s) (c := c) (f := 394) (by omega) (by omega) (by omega)]
    unfold loadS
    by_cases h : cw s c 394 l.toNat < cells (cw s c) (yv s y) l * f + sumI 10 (fun n => if yv s y 515 n = l then yv s y 516 n else 0)
    · rw [if_pos h, if_neg (by omega)]
    · rw [if_neg h, if_pos (by omega)]
