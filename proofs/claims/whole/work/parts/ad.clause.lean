/-! A CLAUSE of a court: numbers read one after another -/
/-- a number, or the fault -/
def numA (n : Nat) (bs : Nat → Nat) (lo hi : Int) (q : Nat) : Int ⊕ (Int × Nat) := if numB n bs lo hi q = true then .inr (tV n bs q, nq n bs q) else .inl (1 + 8 * (q : Int) + numE n bs q)
theorem numE_b {n q : Nat} {bs : Nat → Nat} : 0 ≤ numE n bs q ∧ numE n bs q ≤ 1 := by
  unfold numE
  split <;> omega
def p13 (f i : Nat) : Bool := Nat.ble 134 f && Nat.ble f 135 && Nat.beq i 0
theorem p13_f {f i : Nat} : p13 f i = false ↔ ¬ (134 ≤ f ∧ f ≤ 135 ∧ i = 0) := by
  rw [← Bool.not_eq_true]
  unfold p13
  simp only [Bool.and_eq_true, Nat.beq_eq, Nat.ble_eq, and_assoc]
/-- the class at a token: place q, no fault yet -/
def CAt (s : S2) (n : Nat) (bs : Nat → Nat) (m q : Nat) : Prop := (∃ c, CRd s n bs m c ∧ tq n bs c = q) ∧ s 135 0 0 = 0 ∧ (∀ k, k < n → bs k < 256) ∧ n ≤ 400
/-- the class after a fault -/
def CEr (s : S2) (n : Nat) (bs : Nat → Nat) (m : Nat) (e : Int) : Prop := (∃ c, CRd s n bs m c) ∧ s 135 0 0 = e ∧ 0 < e ∧ n ≤ 400
theorem b135_f2 {f i : Nat} (h : ¬ (f = 135 ∧ i = 0)) : (Nat.beq f 135 && Nat.beq i 0) = false := by
  rw [← Bool.not_eq_true]
  simp only [Bool.and_eq_true, Nat.beq_eq]
  exact h
theorem CAt.fr {s s' : S2} {n m q : Nat} {bs : Nat → Nat} (h : CAt s n bs m q) {P : Nat → Nat → Bool} (e : Fr P s s') (hp : ∀ f, 130 ≤ f → f ≤ 135 → P f 0 = false) : CAt s' n bs m q := by
  obtain ⟨⟨c, h1, h2⟩, h3, h4, h5⟩ := h
  exact ⟨⟨c, h1.fr e (fun f g1 g2 => hp f g1 (by omega)), h2⟩, by rw [e _ _ (hp 135 (by omega) (by omega))]; exact h3, h4, h5⟩
theorem CEr.fr {s s' : S2} {n m : Nat} {e0 : Int} {bs : Nat → Nat} (h : CEr s n bs m e0) {P : Nat → Nat → Bool} (e : Fr P s s') (hp : ∀ f, 130 ≤ f → f ≤ 135 → P f 0 = false) : CEr s' n bs m e0 := by
  obtain ⟨⟨c, h1⟩, h3, h4, h5⟩ := h
  exact ⟨⟨c, h1.fr e (fun f g1 g2 => hp f g1 (by omega))⟩, by rw [e _ _ (hp 135 (by omega) (by omega))]; exact h3, h4, h5⟩
theorem CAt.num {s : S2} {n m q : Nat} {bs : Nat → Nat} {lo hi : Int} (h : CAt s n bs m q) : (∃ v q' s', numA n bs lo hi q = .inr (v, q') ∧ lo ≤ v ∧ v ≤ hi ∧ f39 lo hi s = some (v, s') ∧ CAt s' n bs m q' ∧ Fr p13 s s') ∨ (∃ e s', numA n bs lo hi q = .inl e ∧ f39 lo hi s = some (-1, s') ∧ CEr s' n bs m e ∧ Fr p13 s s') := by
  obtain ⟨⟨c, h1, h2⟩, h3, h4, h5⟩ := h
  have hm := m39 (lo := lo) (hi := hi) h1 h4 h5 h3
  have hle := h1.le.1
  have hn := tq_n h1
  rw [h2] at hm hle hn
  unfold numA
  by_cases b : numB n bs lo hi q = true
  · rw [if_pos b] at hm
    obtain ⟨d, l, u⟩ := of_decide_eq_true b
    refine Or.inl ⟨tV n bs q, nq n bs q, _, if_pos b, l, u, hm, ⟨⟨_, h1.go, hn⟩, by rw [st2_ne (by omega)]; exact h3, h4, h5⟩, Fr.rf.st rfl⟩
  · rw [if_neg b] at hm
    have he := numE_b (n := n) (bs := bs) (q := q)
    refine Or.inr ⟨_, _, if_neg b, hm, ⟨⟨c, h1.rfS⟩, ?_, by omega, h5⟩, rfS_fr.mo fun f i w => b135_f2 (by have := p13_f.mp w; omega)⟩
    unfold rfS
    rw [if_neg (fun w => w h3), st2_eq]
theorem CEr.num {s : S2} {n m : Nat} {e : Int} {bs : Nat → Nat} {lo hi : Int} (h : CEr s n bs m e) : f39 lo hi s = some (-1, s) := by
  obtain ⟨⟨c, h1⟩, h3, h4, h5⟩ := h
  exact m39e h1 h5 (by omega)
theorem CEr.place {s : S2} {n m : Nat} {e : Int} {bs : Nat → Nat} (h : CEr s n bs m e) : ∃ p : Nat, p ≤ 400 ∧ f43 s = some (p : Int) := by
  obtain ⟨⟨c, h1⟩, h3, h4, h5⟩ := h
  have := h1.le.1
  exact ⟨_, by omega, m43 h1⟩
theorem CAt.place {s : S2} {n m q : Nat} {bs : Nat → Nat} (h : CAt s n bs m q) : q ≤ n ∧ f43 s = some (q : Int) := by
  obtain ⟨⟨c, h1, h2⟩, h3, h4, h5⟩ := h
  have := h1.le.1
  rw [h2] at this
  exact ⟨this, by rw [m43 h1, h2]⟩
theorem CAt.ref {s : S2} {n m q p : Nat} {k : Int} {bs : Nat → Nat} (h : CAt s n bs m q) (hp : p ≤ 400) (hk : 0 ≤ k ∧ k ≤ 7) : ∃ s', f44 p k s = some s' ∧ CEr s' n bs m (1 + 8 * (p : Int) + k) ∧ Fr p13 s s' := by
  obtain ⟨⟨c, h1, h2⟩, h3, h4, h5⟩ := h
  refine ⟨_, m44 hp hk, ⟨⟨c, h1.rfS⟩, ?_, by omega, h5⟩, rfS_fr.mo fun f i w => b135_f2 (by have := p13_f.mp w; omega)⟩
  unfold rfS
  rw [if_neg (fun w => w h3), st2_eq]
theorem CEr.ref {s : S2} {n m p : Nat} {k e : Int} {bs : Nat → Nat} (h : CEr s n bs m e) (hp : p ≤ 400) (hk : 0 ≤ k ∧ k ≤ 7) : f44 p k s = some s := by
  obtain ⟨⟨c, h1⟩, h3, h4, h5⟩ := h
  rw [m44 hp hk]
  unfold rfS
  rw [if_pos (by omega)]
