/-! COURTS AND YARDS as the class has them -/
abbrev V2 : Type := Nat → Nat → Int
def isF (C : V2) (n : Int) : Prop := 0 ≤ n ∧ n < C 387 0 ∧ n < 4
def isL (C : V2) (n : Int) : Prop := 0 ≤ n ∧ n < C 388 0 ∧ n < 6
def isN (C : V2) (n : Int) : Prop := 0 ≤ n ∧ n < C 389 0 ∧ n < 10
abbrev cv (s : S2) (c : Nat) : V2 := fun f k => s f c k
theorem m49 {c : Nat} {n : Int} {s : S2} : f49 c n s = some (if 0 ≤ n ∧ n < s 389 c 0 ∧ n < 10 then 1 else 0) := by
  unfold f49 bnd
  grind
theorem m50 {c : Nat} {n : Int} {s : S2} : f50 c n s = some (if 0 ≤ n ∧ n < s 388 c 0 ∧ n < 6 then 1 else 0) := by
  unfold f50 bnd
  grind
theorem m51 {c : Nat} {n : Int} {s : S2} : f51 c n s = some (if 0 ≤ n ∧ n < s 387 c 0 ∧ n < 4 then 1 else 0) := by
  unfold f51 bnd
  grind
theorem m53 {y c : Nat} {l : Int} {s : S2} (hb : ∀ n, n < 10 → -100 ≤ s 396 c n ∧ s 396 c n ≤ 100) : f53 y c l s = some (sumI 10 (fun n => if s 515 y n = l then s 396 c n else 0)) := by
  have hB : ∀ i, i ≤ 10 → -1000 ≤ sumI i (fun n => if s 515 y n = l then s 396 c n else 0) ∧ sumI i (fun n => if s 515 y n = l then s 396 c n else 0) ≤ 1000 := by
    intro i hi
    have := sumI_bd (f := fun n => if s 515 y n = l then s 396 c n else 0) (a := -100) (b := 100) (n := i) (fun j hj => by grind)
    omega
  unfold f53
  refine seq_cP (fun i => (sumI i (fun n => if s 515 y n = l then s 396 c n else 0), (i : Int))) 10 _ rfl (by decide) ?_ rfl rfl
  intro i hi
  have h1 := hB i (by omega)
  have h2 := hb i hi
  show f53_a y c l _ _ s = _
  simp (disch := omega) only [f53_a, sumI_s, and_self, and_true, true_and, not_true_eq_false, not_false_eq_true, reduceIte, bnd, jn, se, cP_s, cR_s, if_pos, if_neg, gd_t, ld_t, ldr_t, sto_t, jadd_e, jsub_e, Int.toNat_natCast]
  split <;> simp_all
/-- LENGTH on a line, left on it -/
def cells (C Y : V2) (l : Int) : Int := sumI 10 (fun n => if Y 515 n = l then C 396 n else 0)
def left (C Y : V2) (l : Int) : Int := if 0 ≤ l ∧ l < C 388 0 ∧ l < 6 then C 393 l.toNat - cells C Y l else 0
/-- all numbers of a court and a yard are small -/
def small (C : V2) : Prop := ∀ f k, -1 ≤ C f k ∧ C f k ≤ 100
theorem cells_bd {C Y : V2} {l : Int} (hb : ∀ n, n < 10 → -100 ≤ C 396 n ∧ C 396 n ≤ 100) : -1000 ≤ cells C Y l ∧ cells C Y l ≤ 1000 := by
  have := sumI_bd (f := fun n => if Y 515 n = l then C 396 n else 0) (a := -100) (b := 100) (n := 10) (fun j hj => by have := hb j hj; grind)
  unfold cells
  omega
theorem m52 {y c : Nat} {l : Int} {s : S2} (hb : ∀ n, n < 10 → -100 ≤ s 396 c n ∧ s 396 c n ≤ 100) (hl : ∀ n, n < 6 → -100 ≤ s 393 c n ∧ s 393 c n ≤ 100) : f52 y c l s = some (left (cv s c) (cv s y) l) := by
  unfold f52 left
  rw [m50, m53 hb]
  by_cases h : 0 ≤ l ∧ l < s 388 c 0 ∧ l < 6
  · have h1 := hl l.toNat (by omega)
    have h2 := cells_bd (C := cv s c) (Y := cv s y) (l := l) hb
    unfold cells cv at h2
    simp (disch := omega) only [cv, cells, h, and_self, and_true, true_and, not_true_eq_false, not_false_eq_true, reduceIte, bnd, jn, se, cP_s, cR_s, if_pos, if_neg, gd_t, ld_t, ldr_t, sto_t, jadd_e, jsub_e, Int.toNat_natCast]
  · simp (disch := omega) only [cv, h, and_self, and_true, true_and, not_true_eq_false, not_false_eq_true, reduceIte, bnd, jn, se, cP_s, cR_s, if_pos, if_neg, gd_t, ld_t, ldr_t, sto_t, jadd_e, jsub_e, Int.toNat_natCast]
def mayH (C Y : V2) (n l : Int) : Prop := (0 ≤ n ∧ n < C 389 0 ∧ n < 10) ∧ (0 ≤ l ∧ l < C 388 0 ∧ l < 6) ∧ Y 515 n.toNat = -1 ∧ Y 514 l.toNat = 0 ∧ (0 ≤ C 395 n.toNat ∧ C 395 n.toNat < C 387 0 ∧ C 395 n.toNat < 4) ∧ 2 ≤ Y 517 (C 395 n.toNat).toNat ∧ C 396 n.toNat ≤ left C Y l
theorem m48 {y c : Nat} {n l : Int} {s : S2} (hb : ∀ n, n < 10 → -100 ≤ s 396 c n ∧ s 396 c n ≤ 100) (hl : ∀ n, n < 6 → -100 ≤ s 393 c n ∧ s 393 c n ≤ 100) [Decidable (mayH (cv s c) (cv s y) n l)] : f48 y c n l s = some (if mayH (cv s c) (cv s y) n l then 1 else 0) := by
  unfold f48 mayH
  simp only [m49, m50, m51, m52 hb hl, cP_s]
  by_cases h1 : 0 ≤ n ∧ n < s 389 c 0 ∧ n < 10
  · by_cases h2 : 0 ≤ l ∧ l < s 388 c 0 ∧ l < 6
    · simp (disch := omega) only [cv, and_self, and_true, true_and, not_true_eq_false, not_false_eq_true, reduceIte, bnd, jn, se, cP_s, cR_s, if_pos, if_neg, gd_t, ld_t, ldr_t, sto_t, jadd_e, jsub_e, Int.toNat_natCast]
      grind
    · simp (disch := omega) only [cv, and_self, and_true, true_and, not_true_eq_false, not_false_eq_true, reduceIte, bnd, jn, se, cP_s, cR_s, if_pos, if_neg, gd_t, ld_t, ldr_t, sto_t, jadd_e, jsub_e, Int.toNat_natCast]
      grind
  · simp (disch := omega) only [cv, and_self, and_true, true_and, not_true_eq_false, not_false_eq_true, reduceIte, bnd, jn, se, cP_s, cR_s, if_pos, if_neg, gd_t, ld_t, ldr_t, sto_t, jadd_e, jsub_e, Int.toNat_natCast]
    grind
/-! normal views -/
def yr (f k : Nat) : Prop := (f = 512 ∧ k = 0) ∨ (f = 513 ∧ k < 6) ∨ (f = 514 ∧ k < 6) ∨ (f = 515 ∧ k < 10) ∨ (f = 516 ∧ k < 10) ∨ (f = 517 ∧ k < 4) ∨ (f = 518 ∧ k < 4)
def cr (f k : Nat) : Prop := (384 ≤ f ∧ f ≤ 390 ∧ k = 0) ∨ (391 ≤ f ∧ f ≤ 394 ∧ k < 6) ∨ (395 ≤ f ∧ f ≤ 397 ∧ k < 10) ∨ (398 ≤ f ∧ f ≤ 399 ∧ k < 3)
def yrD (f k : Nat) : Decidable (yr f k) := by unfold yr; exact inferInstance
def crD (f k : Nat) : Decidable (cr f k) := by unfold cr; exact inferInstance
def nY (Y : V2) : V2 := fun f k => @ite _ (yr f k) (yrD f k) (Y f k) 0
def nC (C : V2) : V2 := fun f k => @ite _ (cr f k) (crD f k) (C f k) 0
def yv (s : S2) (y : Nat) : V2 := nY (cv s y)
def cw (s : S2) (c : Nat) : V2 := nC (cv s c)
theorem nY_t {Y : V2} {f k : Nat} (h : yr f k) : nY Y f k = Y f k := if_pos h
theorem nC_t {C : V2} {f k : Nat} (h : cr f k) : nC C f k = C f k := if_pos h
theorem yv_t {s : S2} {y f k : Nat} (h : yr f k) : yv s y f k = s f y k := if_pos h
theorem cw_t {s : S2} {c f k : Nat} (h : cr f k) : cw s c f k = s f c k := if_pos h
theorem nY_ext {Y Z : V2} (h : ∀ f k, yr f k → Y f k = Z f k) : nY Y = nY Z := by
  funext f k
  unfold nY
  by_cases hr : yr f k
  · rw [if_pos hr, if_pos hr, h f k hr]
  · rw [if_neg hr, if_neg hr]
theorem nC_ext {Y Z : V2} (h : ∀ f k, cr f k → Y f k = Z f k) : nC Y = nC Z := by
  funext f k
  unfold nC
  by_cases hr : cr f k
  · rw [if_pos hr, if_pos hr, h f k hr]
  · rw [if_neg hr, if_neg hr]
theorem yv512 {s : S2} {y : Nat} : yv s y 512 0 = s 512 y 0 := yv_t (Or.inl ⟨rfl, rfl⟩)
theorem yv513 {s : S2} {y k : Nat} (h : k < 6) : yv s y 513 k = s 513 y k := yv_t (Or.inr (Or.inl ⟨rfl, h⟩))
theorem yv514 {s : S2} {y k : Nat} (h : k < 6) : yv s y 514 k = s 514 y k := yv_t (Or.inr (Or.inr (Or.inl ⟨rfl, h⟩)))
theorem yv515 {s : S2} {y k : Nat} (h : k < 10) : yv s y 515 k = s 515 y k := yv_t (Or.inr (Or.inr (Or.inr (Or.inl ⟨rfl, h⟩))))
theorem yv516 {s : S2} {y k : Nat} (h : k < 10) : yv s y 516 k = s 516 y k := yv_t (Or.inr (Or.inr (Or.inr (Or.inr (Or.inl ⟨rfl, h⟩)))))
theorem yv517 {s : S2} {y k : Nat} (h : k < 4) : yv s y 517 k = s 517 y k := yv_t (Or.inr (Or.inr (Or.inr (Or.inr (Or.inr (Or.inl ⟨rfl, h⟩))))))
theorem yv518 {s : S2} {y k : Nat} (h : k < 4) : yv s y 518 k = s 518 y k := yv_t (Or.inr (Or.inr (Or.inr (Or.inr (Or.inr (Or.inr ⟨rfl, h⟩))))))
theorem cw0 {s : S2} {c f : Nat} (h1 : 384 ≤ f) (h2 : f ≤ 390) : cw s c f 0 = s f c 0 := cw_t (Or.inl ⟨h1, h2, rfl⟩)
theorem cw6 {s : S2} {c f k : Nat} (h1 : 391 ≤ f) (h2 : f ≤ 394) (h : k < 6) : cw s c f k = s f c k := cw_t (Or.inr (Or.inl ⟨h1, h2, h⟩))
theorem cw10 {s : S2} {c f k : Nat} (h1 : 395 ≤ f) (h2 : f ≤ 397) (h : k < 10) : cw s c f k = s f c k := cw_t (Or.inr (Or.inr (Or.inl ⟨h1, h2, h⟩)))
theorem cw3 {s : S2} {c f k : Nat} (h1 : 398 ≤ f) (h2 : f ≤ 399) (h : k < 3) : cw s c f k = s f c k := cw_t (Or.inr (Or.inr (Or.inr ⟨h1, h2, h⟩)))
/-- what a court's numbers are -/
def CB (C : V2) : Prop := (0 ≤ C 387 0 ∧ C 387 0 ≤ 4 ∧ 0 ≤ C 388 0 ∧ C 388 0 ≤ 6 ∧ 0 ≤ C 389 0 ∧ C 389 0 ≤ 10 ∧ 0 ≤ C 390 0 ∧ C 390 0 ≤ 3) ∧
  (∀ n, n < 10 → -1 ≤ C 395 n ∧ C 395 n ≤ 3 ∧ -1 ≤ C 396 n ∧ C 396 n ≤ 4 ∧ -1 ≤ C 397 n ∧ C 397 n ≤ 20) ∧
  (∀ n : Nat, n < 10 → (n : Int) < C 389 0 → 0 ≤ C 395 n ∧ C 395 n < C 387 0 ∧ 1 ≤ C 396 n ∧ 0 ≤ C 397 n) ∧
  (∀ l, l < 6 → -1 ≤ C 391 l ∧ C 391 l ≤ 7 ∧ -1 ≤ C 392 l ∧ C 392 l ≤ 7 ∧ -1 ≤ C 393 l ∧ C 393 l ≤ 9 ∧ -1 ≤ C 394 l ∧ C 394 l ≤ 99) ∧
  (∀ l : Nat, l < 6 → (l : Int) < C 388 0 → 0 ≤ C 391 l ∧ 0 ≤ C 392 l ∧ C 391 l ≠ C 392 l ∧ 1 ≤ C 393 l ∧ 1 ≤ C 394 l) ∧
  (∀ r, r < 3 → -1 ≤ C 398 r ∧ C 398 r ≤ 99 ∧ -1 ≤ C 399 r ∧ C 399 r ≤ 99) ∧
  (∀ r : Nat, r < 3 → (r : Int) < C 390 0 → 0 ≤ C 398 r ∧ C 398 r ≤ C 399 r) ∧
  (C 384 0 = 0 ∨ C 384 0 = 1) ∧ 0 ≤ C 385 0 ∧ C 385 0 ≤ 5 ∧ 0 ≤ C 386 0 ∧ C 386 0 ≤ 20 ∧ (C 384 0 = 1 → 1 ≤ C 385 0 ∧ 1 ≤ C 386 0) ∧ (C 384 0 = 0 → C 385 0 = 0 ∧ C 387 0 = 0 ∧ C 388 0 = 0 ∧ C 389 0 = 0 ∧ C 390 0 = 0)
/-- what a yard's numbers are -/
def YB (C Y : V2) : Prop := (∀ n : Nat, n < 10 → Y 515 n = -1 ∨ (0 ≤ Y 515 n ∧ Y 515 n < C 388 0 ∧ (n : Int) < C 389 0)) ∧
  (∀ n, n < 10 → 0 ≤ Y 516 n ∧ Y 516 n ≤ 20) ∧ (∀ l, l < 6 → Y 514 l = 0 ∨ Y 514 l = 1) ∧
  (∀ l, l < 6 → Y 513 l = -1 ∨ (0 ≤ Y 513 l ∧ Y 513 l < C 387 0)) ∧
  (0 ≤ Y 512 0 ∧ Y 512 0 ≤ 5000) ∧ (∀ f, f < 4 → 0 ≤ Y 518 f ∧ Y 518 f ≤ 60 * Y 512 0)
/-! what may change: P of field and object -/
def Fr (P : Nat → Nat → Bool) (s s' : S2) : Prop := ∀ f i, P f i = false → s' f i = s f i
theorem Fr.rf {P : Nat → Nat → Bool} {s : S2} : Fr P s s := fun _ _ _ => rfl
theorem Fr.tr {P : Nat → Nat → Bool} {s s' s'' : S2} (h : Fr P s s') (h' : Fr P s' s'') : Fr P s s'' := fun f i hp => (h' f i hp).trans (h f i hp)
theorem Fr.mo {P Q : Nat → Nat → Bool} {s s' : S2} (h : Fr P s s') (hq : ∀ f i, Q f i = false → P f i = false) : Fr Q s s' := fun f i hp => h f i (hq f i hp)
theorem Fr.st {P : Nat → Nat → Bool} {s s' : S2} {f i k : Nat} {v : Int} (h : Fr P s s') (hp : P f i = true) : Fr P s (st2 s' f i k v) := by
  intro g j hg
  rw [← h g j hg]
  funext q
  unfold st2
  rw [if_neg]
  rintro ⟨rfl, rfl, -⟩
  rw [hp] at hg; cases hg
theorem Fr.cp {P : Nat → Nat → Bool} {s s' : S2} {f i sp g j dp n : Nat} (h : Fr P s s') (hp : P g j = true) : Fr P s (cp2 s' f i sp g j dp n) := by
  intro g' j' hg
  rw [← h g' j' hg]
  funext q
  unfold cp2
  rw [if_neg]
  rintro ⟨rfl, rfl, -⟩
  rw [hp] at hg; cases hg
theorem st2_eq {s : S2} {f i k : Nat} {v : Int} : st2 s f i k v f i k = v := if_pos ⟨rfl, rfl, rfl⟩
theorem st2_ne {s : S2} {f i k f' i' k' : Nat} {v : Int} (h : f' ≠ f ∨ i' ≠ i ∨ k' ≠ k) : st2 s f i k v f' i' k' = s f' i' k' := if_neg (by rintro ⟨rfl, rfl, rfl⟩; simp at h)
theorem st2_row {s : S2} {f i k f' i' : Nat} {v : Int} (h : f' ≠ f ∨ i' ≠ i) : st2 s f i k v f' i' = s f' i' := by
  funext q
  exact if_neg (by rintro ⟨rfl, rfl, -⟩; simp at h)
