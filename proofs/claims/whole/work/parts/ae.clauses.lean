/-! THE CLASS' CLAUSES of a court -/
def bN {R : Type} (x : Int ⊕ (Int × Nat)) (k : Int → Nat → Int ⊕ R) : Int ⊕ R := match x with
  | .inl e => .inl e
  | .inr (v, q) => k v q
theorem bN_l {R : Type} {e : Int} {k : Int → Nat → Int ⊕ R} : bN (.inl e) k = .inl e := rfl
theorem bN_r {R : Type} {v : Int} {q : Nat} {k : Int → Nat → Int ⊕ R} : bN (.inr (v, q)) k = k v q := rfl
def pDr (f i : Nat) : Bool := (Nat.ble 130 f && Nat.ble f 135 && Nat.beq i 0) || (Nat.ble 384 f && Nat.ble f 399 && Nat.beq i 5) || (Nat.ble 512 f && Nat.ble f 518 && Nat.beq i 161)
theorem pDr_f {f i : Nat} : pDr f i = false ↔ ¬ ((130 ≤ f ∧ f ≤ 135 ∧ i = 0) ∨ (384 ≤ f ∧ f ≤ 399 ∧ i = 5) ∨ (512 ≤ f ∧ f ≤ 518 ∧ i = 161)) := by
  rw [← Bool.not_eq_true]
  unfold pDr
  simp only [Bool.or_eq_true, Bool.and_eq_true, Nat.beq_eq, Nat.ble_eq, or_assoc, and_assoc]
theorem pDr_t {f i : Nat} (h : (130 ≤ f ∧ f ≤ 135 ∧ i = 0) ∨ (384 ≤ f ∧ f ≤ 399 ∧ i = 5) ∨ (512 ≤ f ∧ f ≤ 518 ∧ i = 161)) : pDr f i = true := by
  by_cases e : pDr f i = true
  · exact e
  · exact absurd h (pDr_f.mp (Bool.eq_false_iff.mpr e))
theorem Fr.p13 {s s' : S2} (h : Fr p13 s s') : Fr pDr s s' := h.mo fun f i w => p13_f.mpr (by have := pDr_f.mp w; omega)
theorem fr_one {s : S2} {g o j : Nat} {v : Int} : Fr (fun f i => Nat.beq f g && Nat.beq i o) s (st2 s g o j v) := Fr.rf.st (by simp)
theorem one_f {f i g o : Nat} (h : ¬ (f = g ∧ i = o)) : (Nat.beq f g && Nat.beq i o) = false := by
  rw [← Bool.not_eq_true]
  simp only [Bool.and_eq_true, Nat.beq_eq]
  exact h
theorem CAt.st {s : S2} {n m q g o j : Nat} {v : Int} {bs : Nat → Nat} (h : CAt s n bs m q) (hg : 136 ≤ g) : CAt (st2 s g o j v) n bs m q := h.fr fr_one fun f g1 g2 => one_f (by omega)
theorem CEr.st {s : S2} {n m g o j : Nat} {v e : Int} {bs : Nat → Nat} (h : CEr s n bs m e) (hg : 136 ≤ g) : CEr (st2 s g o j v) n bs m e := h.fr fr_one fun f g1 g2 => one_f (by omega)
theorem CS.set {C : V2} {g j : Nat} {v : Int} (h : CS C) (hv : g ≤ 390 ∨ ((391 ≤ g ∧ g ≤ 392) ∧ -1 ≤ v ∧ v ≤ 7) ∨ (g = 393 ∧ -1 ≤ v ∧ v ≤ 9) ∨ (g = 394 ∧ -1 ≤ v ∧ v ≤ 99) ∨ (g = 395 ∧ -1 ≤ v ∧ v ≤ 3) ∨ (g = 396 ∧ -1 ≤ v ∧ v ≤ 4) ∨ (g = 397 ∧ -1 ≤ v ∧ v ≤ 20) ∨ ((398 ≤ g ∧ g ≤ 399) ∧ -1 ≤ v ∧ v ≤ 99)) : CS (setC C g j v) := by
  obtain ⟨a1, a2, a3⟩ := h
  have key : ∀ f k, cr f k → ∀ b : Int, -1 ≤ C f k ∧ C f k ≤ b → (f = g → -1 ≤ v ∧ v ≤ b) → -1 ≤ setC C g j v f k ∧ setC C g j v f k ≤ b := fun f k hr b w1 w2 => by
    rw [setC_e hr]
    by_cases e : f = g ∧ k = j
    · rw [if_pos e]; exact w2 e.1
    · rw [if_neg e]; exact w1
  refine ⟨fun n hn => ?_, fun n hn => ?_, fun n hn => ?_⟩
  · obtain ⟨b1, b2, b3, b4, b5, b6⟩ := a1 n hn
    have c1 := key 395 n (by unfold cr; omega) 3 ⟨b1, b2⟩ (by omega)
    have c2 := key 396 n (by unfold cr; omega) 4 ⟨b3, b4⟩ (by omega)
    have c3 := key 397 n (by unfold cr; omega) 20 ⟨b5, b6⟩ (by omega)
    exact ⟨c1.1, c1.2, c2.1, c2.2, c3.1, c3.2⟩
  · obtain ⟨b1, b2, b3, b4, b5, b6, b7, b8⟩ := a2 n hn
    have c1 := key 391 n (by unfold cr; omega) 7 ⟨b1, b2⟩ (by omega)
    have c2 := key 392 n (by unfold cr; omega) 7 ⟨b3, b4⟩ (by omega)
    have c3 := key 393 n (by unfold cr; omega) 9 ⟨b5, b6⟩ (by omega)
    have c4 := key 394 n (by unfold cr; omega) 99 ⟨b7, b8⟩ (by omega)
    exact ⟨c1.1, c1.2, c2.1, c2.2, c3.1, c3.2, c4.1, c4.2⟩
  · obtain ⟨b1, b2, b3, b4⟩ := a3 n hn
    have c1 := key 398 n (by unfold cr; omega) 99 ⟨b1, b2⟩ (by omega)
    have c2 := key 399 n (by unfold cr; omega) 99 ⟨b3, b4⟩ (by omega)
    exact ⟨c1.1, c1.2, c2.1, c2.2⟩
/-- how a clause of the class ends -/
def CRes (s s' : S2) (n : Nat) (bs : Nat → Nat) (m : Nat) (r : Int ⊕ (Nat × V2 × V2)) : Prop := Fr pDr s s' ∧ match r with
  | .inl e => CEr s' n bs m e ∧ CS (cw s' 5)
  | .inr (q, C, B) => CAt s' n bs m q ∧ cw s' 5 = C ∧ yv s' 161 = B
theorem cw13 {s s' : S2} (h : Fr p13 s s') : cw s' 5 = cw s 5 := h.cw fun f g1 g2 => p13_f.mpr (by omega)
theorem yv13 {s s' : S2} (h : Fr p13 s s') : yv s' 161 = yv s 161 := h.yv fun f g1 g2 => p13_f.mpr (by omega)
theorem yvC {s : S2} {g j : Nat} {v : Int} (hg : g ≤ 511) : yv (st2 s g 5 j v) 161 = yv s 161 := fr_one.yv fun f g1 g2 => one_f (by omega)
theorem cwY {s : S2} {g j : Nat} {v : Int} (hg : 512 ≤ g) : cw (st2 s g 161 j v) 5 = cw s 5 := fr_one.cw fun f g1 g2 => one_f (by omega)
def clCourt (n : Nat) (bs : Nat → Nat) (q : Nat) (C B : V2) : Int ⊕ (Nat × V2 × V2) := bN (numA n bs 1 5 q) fun v1 q1 => bN (numA n bs 1 20 q1) fun v2 q2 => .inr (q2, setC (setC (setC C 385 0 v1) 386 0 v2) 384 0 1, B)
theorem m38 {s : S2} {n m q : Nat} {bs : Nat → Nat} (h : CAt s n bs m q) (hS : CS (cw s 5)) : ∃ s', f38 s = some s' ∧ CRes s s' n bs m (clCourt n bs q (cw s 5) (yv s 161)) := by
  unfold f38 clCourt
  rcases h.num (lo := 1) (hi := 5) with ⟨v1, q1, s1, a1, a2, a3, a4, a5, a6⟩ | ⟨e, s1, a1, a4, a5, a6⟩
  · rw [a1, bN_r, a4, cR_s, bnd]
    rcases (a5.st (g := 385) (o := 5) (j := 0) (v := v1) (by omega)).num (lo := 1) (hi := 20) with ⟨v2, q2, s3, b1, b2, b3, b4, b5, b6⟩ | ⟨e, s3, b1, b4, b5, b6⟩
    · rw [b1, bN_r, b4, cR_s, bnd, bnd]
      refine ⟨_, rfl, ((((a6.p13).st (pDr_t (by omega))).tr b6.p13).st (pDr_t (by omega))).st (pDr_t (by omega)), (b5.st (by omega)).st (by omega), ?_, ?_⟩
      · rw [cw_st, cw_st, cw13 b6, cw_st, cw13 a6]
      · rw [yvC (by omega), yvC (by omega), yv13 b6, yvC (by omega), yv13 a6]
    · rw [b1, bN_l, b4, cR_s, bnd, bnd]
      refine ⟨_, rfl, ((((a6.p13).st (pDr_t (by omega))).tr b6.p13).st (pDr_t (by omega))).st (pDr_t (by omega)), (b5.st (by omega)).st (by omega), ?_⟩
      rw [cw_st, cw_st, cw13 b6, cw_st, cw13 a6]
      exact ((hS.set (by omega)).set (by omega)).set (by omega)
  · rw [a1, bN_l, a4, cR_s, bnd, (a5.st (by omega)).num, cR_s, bnd, bnd]
    refine ⟨_, rfl, (((a6.p13).st (pDr_t (by omega))).st (pDr_t (by omega))).st (pDr_t (by omega)), ((a5.st (by omega)).st (by omega)).st (by omega), ?_⟩
    rw [cw_st, cw_st, cw_st, cw13 a6]
    exact ((hS.set (by omega)).set (by omega)).set (by omega)
def clFamily (n : Nat) (bs : Nat → Nat) (q : Nat) (C B : V2) : Int ⊕ (Nat × V2 × V2) := bN (numA n bs 0 20 q) fun v1 q1 => .inr (q1, setC C 387 0 (C 387 0 + 1), setF B 517 (C 387 0).toNat v1)
theorem m41 {s : S2} {n m q k : Nat} {bs : Nat → Nat} (h : CAt s n bs m q) (hS : CS (cw s 5)) (hk : cw s 5 387 0 = k) (hk4 : k < 4) : ∃ s', f41 s = some s' ∧ CRes s s' n bs m (clFamily n bs q (cw s 5) (yv s 161)) := by
  have e0 : s 387 5 0 = k := by rw [← hk, cw0 (by omega) (by omega)]
  unfold f41 clFamily
  simp only [bnd]
  rcases h.num (lo := 0) (hi := 20) with ⟨v1, q1, s1, a1, a2, a3, a4, a5, a6⟩ | ⟨e, s1, a1, a4, a5, a6⟩
  all_goals
    have e1 : s1 387 5 0 = k := by rw [a6 _ _ (p13_f.mpr (by omega))]; exact e0
  · rw [a1, bN_r, a4, cR_s, e1, if_neg (by omega), if_neg (by omega), sto_t (by omega) (by omega), st2_ne (f' := 387) (by omega), e1, jadd_e (by omega) (by omega)]
    refine ⟨_, rfl, ((a6.p13).st (pDr_t (by omega))).st (pDr_t (by omega)), (a5.st (by omega)).st (by omega), ?_, ?_⟩
    · rw [cw_st, cwY (by omega), cw13 a6, hk]
    · rw [yvC (by omega), yv_st, yv13 a6, hk]
  · rw [a1, bN_l, a4, cR_s, e1, if_neg (by omega), if_neg (by omega), sto_t (by omega) (by omega), st2_ne (f' := 387) (by omega), e1, jadd_e (by omega) (by omega)]
    refine ⟨_, rfl, ((a6.p13).st (pDr_t (by omega))).st (pDr_t (by omega)), (a5.st (by omega)).st (by omega), ?_⟩
    rw [cw_st, cwY (by omega), cw13 a6]
    exact hS.set (by omega)
