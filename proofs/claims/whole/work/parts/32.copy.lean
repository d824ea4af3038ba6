/-! copies of yards, courts, laws -/
def pY (a : Nat) (f i : Nat) : Bool := Nat.ble 512 f && Nat.ble f 518 && Nat.beq i a
def pC (a : Nat) (f i : Nat) : Bool := (Nat.ble 384 f && Nat.ble f 399 && Nat.beq i a) || pY (32 * a + 1) f i
theorem pY_t {a f : Nat} (h1 : 512 ≤ f) (h2 : f ≤ 518) : pY a f a = true := by
  unfold pY
  rw [Nat.ble_eq_true_of_le h1, Nat.ble_eq_true_of_le h2, Nat.beq_refl]; rfl
theorem pY_f {a f i : Nat} : pY a f i = false ↔ ¬ (512 ≤ f ∧ f ≤ 518 ∧ i = a) := by
  unfold pY
  rw [← Bool.not_eq_true, Bool.and_eq_true, Bool.and_eq_true, Nat.ble_eq, Nat.ble_eq, Nat.beq_eq]
  grind
theorem pC_f {a f i : Nat} : pC a f i = false ↔ ¬ (384 ≤ f ∧ f ≤ 399 ∧ i = a) ∧ pY (32 * a + 1) f i = false := by
  unfold pC
  rw [Bool.or_eq_false_iff, ← Bool.not_eq_true (Nat.ble 384 f && Nat.ble f 399 && Nat.beq i a), Bool.and_eq_true, Bool.and_eq_true, Nat.ble_eq, Nat.ble_eq, Nat.beq_eq]
  grind
theorem Fr.yv {P : Nat → Nat → Bool} {s s' : S2} {y : Nat} (h : Fr P s s') (hp : ∀ f, 512 ≤ f → f ≤ 518 → P f y = false) : yv s' y = yv s y := nY_ext fun f k hr => by
  show s' f y k = s f y k
  rw [h f y (hp f (by unfold yr at hr; omega) (by unfold yr at hr; omega))]
theorem Fr.cw {P : Nat → Nat → Bool} {s s' : S2} {c : Nat} (h : Fr P s s') (hp : ∀ f, 384 ≤ f → f ≤ 399 → P f c = false) : cw s' c = cw s c := nC_ext fun f k hr => by
  show s' f c k = s f c k
  rw [h f c (hp f (by unfold cr at hr; omega) (by unfold cr at hr; omega))]
theorem cp2_in {s : S2} {f i g j n k : Nat} (h : k < n) : cp2 s f i 0 g j 0 n g j k = s f i k := by
  unfold cp2
  rw [if_pos ⟨rfl, rfl, by omega, by omega⟩]
  congr 1
  omega
theorem cp2_ne {s : S2} {f i sp g j dp n f' i' : Nat} (h : f' ≠ g ∨ i' ≠ j) : cp2 s f i sp g j dp n f' i' = s f' i' := by
  funext q
  exact if_neg (by rintro ⟨rfl, rfl, -⟩; simp at h)
theorem cp2_self {s : S2} {f i n f' i' k : Nat} : cp2 s f i 0 f i 0 n f' i' k = s f' i' k := by
  unfold cp2
  split
  · rename_i h
    obtain ⟨rfl, rfl, h1, h2⟩ := h
    congr 1
    omega
  · rfl
theorem m58 {a b : Nat} {s : S2} : ∃ s', f58 a b s = some s' ∧ yv s' a = yv s b ∧ Fr (pY a) s s' := by
  unfold f58
  simp (disch := omega) only [bnd, cpy_t]
  refine ⟨_, rfl, ?_, ?_⟩
  · refine nY_ext fun f k hr => ?_
    by_cases hab : a = b
    · subst hab
      rcases hr with ⟨rfl, rfl⟩ | ⟨rfl, h⟩ | ⟨rfl, h⟩ | ⟨rfl, h⟩ | ⟨rfl, h⟩ | ⟨rfl, h⟩ | ⟨rfl, h⟩ <;> simp [cp2_self, st2]
    · rcases hr with ⟨rfl, rfl⟩ | ⟨rfl, h⟩ | ⟨rfl, h⟩ | ⟨rfl, h⟩ | ⟨rfl, h⟩ | ⟨rfl, h⟩ | ⟨rfl, h⟩ <;> simp_all [cp2, st2, Ne.symm hab]
  · refine ((((((Fr.rf.st (pY_t ?_ ?_)).cp (pY_t ?_ ?_)).cp (pY_t ?_ ?_)).cp (pY_t ?_ ?_)).cp (pY_t ?_ ?_)).cp (pY_t ?_ ?_)).cp (pY_t ?_ ?_) <;> omega
def pC0 (a : Nat) (f i : Nat) : Bool := Nat.ble 384 f && Nat.ble f 399 && Nat.beq i a
theorem pC0_t {a f : Nat} (h1 : 384 ≤ f) (h2 : f ≤ 399) : pC0 a f a = true := by
  unfold pC0
  rw [Nat.ble_eq_true_of_le h1, Nat.ble_eq_true_of_le h2, Nat.beq_refl]; rfl
theorem pC0_f {a f i : Nat} : pC0 a f i = false ↔ ¬ (384 ≤ f ∧ f ≤ 399 ∧ i = a) := by
  unfold pC0
  rw [← Bool.not_eq_true, Bool.and_eq_true, Bool.and_eq_true, Nat.ble_eq, Nat.ble_eq, Nat.beq_eq]
  grind
theorem m57 {a b : Nat} {s : S2} (hab : a ≠ b) (ht : s 384 b 0 = 0 ∨ s 384 b 0 = 1) : ∃ s', f57 a b s = some s' ∧ cw s' a = cw s b ∧ yv s' (32 * a + 1) = yv s (32 * b + 1) ∧ Fr (pC a) s s' := by
  unfold f57
  have H : ∀ S : S2, (∀ f k, cr f k → S f a k = s f b k) → Fr (pC0 a) s S → ∃ s', cP (f58 (32 * a + 1) (32 * b + 1) S) (fun s24 => some s24) = some s' ∧ cw s' a = cw s b ∧ yv s' (32 * a + 1) = yv s (32 * b + 1) ∧ Fr (pC a) s s' := by
    intro S hS hF
    obtain ⟨s', e, h1, h2⟩ := m58 (a := 32 * a + 1) (b := 32 * b + 1) (s := S)
    refine ⟨s', by rw [e]; rfl, ?_, ?_, ?_⟩
    · refine nC_ext fun f k hr => ?_
      show s' f a k = s f b k
      rw [h2 f a (pY_f.mpr (by unfold cr at hr; omega)), hS f k hr]
    · rw [h1]
      exact hF.yv fun f hf1 hf2 => pC0_f.mpr (by omega)
    · refine Fr.tr (hF.mo fun f i h => ?_) (h2.mo fun f i h => ?_)
      · exact pC0_f.mpr (pC_f.mp h).1
      · exact (pC_f.mp h).2
  simp (disch := omega) only [bnd, cpy_t, gd_t, ht]
  refine H _ (fun f k hr => ?_) ?_
  · · rcases hr with ⟨h1, h2, rfl⟩ | ⟨h1, h2, h⟩ | ⟨h1, h2, h⟩ | ⟨h1, h2, h⟩
      · have : f = 384 ∨ f = 385 ∨ f = 386 ∨ f = 387 ∨ f = 388 ∨ f = 389 ∨ f = 390 := by omega
        rcases this with rfl | rfl | rfl | rfl | rfl | rfl | rfl <;> simp_all [cp2, st2, Ne.symm hab]
      · have : f = 391 ∨ f = 392 ∨ f = 393 ∨ f = 394 := by omega
        rcases this with rfl | rfl | rfl | rfl <;> simp_all [cp2, st2, Ne.symm hab]
      · have : f = 395 ∨ f = 396 ∨ f = 397 := by omega
        rcases this with rfl | rfl | rfl <;> simp_all [cp2, st2, Ne.symm hab]
      · have : f = 398 ∨ f = 399 := by omega
        rcases this with rfl | rfl <;> simp_all [cp2, st2, Ne.symm hab]
  · refine ((((((((((((((((Fr.rf.st (pC0_t ?_ ?_)).st (pC0_t ?_ ?_)).st (pC0_t ?_ ?_)).st (pC0_t ?_ ?_)).st (pC0_t ?_ ?_)).st (pC0_t ?_ ?_)).st (pC0_t ?_ ?_)).cp (pC0_t ?_ ?_)).cp (pC0_t ?_ ?_)).cp (pC0_t ?_ ?_)).cp (pC0_t ?_ ?_)).cp (pC0_t ?_ ?_)).cp (pC0_t ?_ ?_)).cp (pC0_t ?_ ?_)).cp (pC0_t ?_ ?_)).cp (pC0_t ?_ ?_)) <;> omega
/-! laws -/
def lr (f k : Nat) : Prop := (f = 768 ∧ k < 400) ∨ (f = 769 ∧ k = 0)
def lrD (f k : Nat) : Decidable (lr f k) := by unfold lr; exact inferInstance
def lw (s : S2) (r : Nat) : V2 := fun f k => @ite _ (lr f k) (lrD f k) (s f r k) 0
theorem lw768 {s : S2} {r k : Nat} (h : k < 400) : lw s r 768 k = s 768 r k := if_pos (Or.inl ⟨rfl, h⟩)
theorem lw769 {s : S2} {r : Nat} : lw s r 769 0 = s 769 r 0 := if_pos (Or.inr ⟨rfl, rfl⟩)
def pL (a : Nat) (f i : Nat) : Bool := (Nat.beq f 768 || Nat.beq f 769) && Nat.beq i a
theorem pL_f {a f i : Nat} : pL a f i = false ↔ ¬ ((f = 768 ∨ f = 769) ∧ i = a) := by
  unfold pL
  rw [← Bool.not_eq_true, Bool.and_eq_true, Bool.or_eq_true, Nat.beq_eq, Nat.beq_eq, Nat.beq_eq]
theorem lw_ext {s s' : S2} {a b : Nat} (h : ∀ f k, lr f k → s' f a k = s f b k) : lw s' a = lw s b := by
  funext f k
  unfold lw
  by_cases hr : lr f k
  · rw [if_pos hr, if_pos hr, h f k hr]
  · rw [if_neg hr, if_neg hr]
theorem Fr.lw {P : Nat → Nat → Bool} {s s' : S2} {r : Nat} (h : Fr P s s') (h1 : P 768 r = false) (h2 : P 769 r = false) : lw s' r = lw s r := lw_ext fun f k hr => by
  rcases hr with ⟨rfl, -⟩ | ⟨rfl, -⟩
  · rw [h _ _ h1]
  · rw [h _ _ h2]
theorem m70 {a b : Nat} {s : S2} (hab : a ≠ b) : ∃ s', f70 a b s = some s' ∧ lw s' a = lw s b ∧ Fr (pL a) s s' := by
  unfold f70
  simp (disch := omega) only [bnd, cpy_t]
  refine ⟨_, rfl, lw_ext fun f k hr => ?_, ?_⟩
  · rcases hr with ⟨rfl, h⟩ | ⟨rfl, rfl⟩ <;> simp_all [cp2, st2, Ne.symm hab]
  · exact (Fr.rf.st (by simp [pL])).cp (by simp [pL])
/-! clear -/
def Y0 : V2 := nY (fun f _ => if f = 513 ∨ f = 515 then -1 else 0)
theorem m5 {a : Nat} {s : S2} : ∃ s', f5 a s = some s' ∧ yv s' a = Y0 ∧ Fr (pY a) s s' := by
  unfold f5
  simp only [bnd]
  rw [fill_cP 6 (fun i s => st2 (st2 s 513 a i (-1)) 514 a i 0) _ (by decide) (by intro i s hi; show f5_a a _ _ = _; simp (disch := omega) only [f5_a, and_self, and_true, true_and, not_true_eq_false, not_false_eq_true, reduceIte, bnd, jn, se, cP_s, cR_s, if_pos, if_neg, gd_t, ld_t, ldr_t, sto_t, jadd_e, jsub_e, Int.toNat_natCast]; rfl) (fun s => rfl)]
  rw [fill_cP 10 (fun i s => st2 (st2 s 515 a i (-1)) 516 a i 0) _ (by decide) (by intro i s hi; show f5_b a _ _ = _; simp (disch := omega) only [f5_b, and_self, and_true, true_and, not_true_eq_false, not_false_eq_true, reduceIte, bnd, jn, se, cP_s, cR_s, if_pos, if_neg, gd_t, ld_t, ldr_t, sto_t, jadd_e, jsub_e, Int.toNat_natCast]; rfl) (fun s => rfl)]
  rw [fill_cP 4 (fun i s => st2 (st2 s 517 a i 0) 518 a i 0) _ (by decide) (by intro i s hi; show f5_c a _ _ = _; simp (disch := omega) only [f5_c, and_self, and_true, true_and, not_true_eq_false, not_false_eq_true, reduceIte, bnd, jn, se, cP_s, cR_s, if_pos, if_neg, gd_t, ld_t, ldr_t, sto_t, jadd_e, jsub_e, Int.toNat_natCast]; rfl) (fun s => rfl)]
  refine ⟨_, rfl, nY_ext fun f k hr => ?_, fun f i hf => ?_⟩
  · simp only [fill2 (f := 513) (g := 514) (by decide), fill2 (f := 515) (g := 516) (by decide), fill2 (f := 517) (g := 518) (by decide), st2_d]
    unfold yr at hr
    grind
  · have hf := pY_f.mp hf
    funext k
    simp only [fill2 (f := 513) (g := 514) (by decide), fill2 (f := 515) (g := 516) (by decide), fill2 (f := 517) (g := 518) (by decide), st2_d]
    grind
