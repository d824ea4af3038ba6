/-! THE MODEL'S CLAUSES of a court: numbers -/
def p70 (f _i : Nat) : Bool := Nat.beq f 1570 || Nat.beq f 1571
theorem p70_f {f i : Nat} : p70 f i = false ↔ ¬ (f = 1570 ∨ f = 1571) := by
  rw [← Bool.not_eq_true]
  unfold p70
  simp only [Bool.or_eq_true, Nat.beq_eq]
def pMd (f i : Nat) : Bool := (Nat.ble 1557 f && Nat.ble f 1568 && Nat.beq i 0) || Nat.beq f 1570 || Nat.beq f 1571
theorem pMd_f {f i : Nat} : pMd f i = false ↔ ¬ ((1557 ≤ f ∧ f ≤ 1568 ∧ i = 0) ∨ f = 1570 ∨ f = 1571) := by
  rw [← Bool.not_eq_true]
  unfold pMd
  simp only [Bool.or_eq_true, Bool.and_eq_true, Nat.beq_eq, Nat.ble_eq, or_assoc, and_assoc]
theorem pMd_t {f : Nat} (h : (1557 ≤ f ∧ f ≤ 1568) ∨ f = 1570 ∨ f = 1571) : pMd f 0 = true := by
  by_cases e : pMd f 0 = true
  · exact e
  · exact absurd (by omega) (pMd_f.mp (Bool.eq_false_iff.mpr e))
theorem Fr.p70 {s s' : S2} (h : Fr p70 s s') : Fr pMd s s' := h.mo fun f i w => p70_f.mpr (by have := pMd_f.mp w; omega)
/-- the model at a place, no fault; after a fault -/
def MAt (t : S2) (n : Nat) (bs : Nat → Nat) (q : Nat) : Prop := (∃ p, MRd t n bs p ∧ sk n bs p = q) ∧ t 1571 0 0 = 0
def MEr (t : S2) (n : Nat) (bs : Nat → Nat) (e : Int) : Prop := (∃ p, MRd t n bs p) ∧ t 1571 0 0 = e ∧ 0 < e
theorem MRd.fr {s s' : S2} {n p : Nat} {bs : Nat → Nat} (h : MRd s n bs p) {P : Nat → Nat → Bool} (e : Fr P s s') (h1 : P 1569 0 = false) (h2 : P 1570 0 = false) (h3 : P 1579 0 = false) : MRd s' n bs p := by
  obtain ⟨⟨a1, a2⟩, a3, a4, a5, a6⟩ := h
  exact ⟨⟨by rw [e _ _ h1]; exact a1, fun k hk => by rw [e _ _ h3]; exact a2 k hk⟩, a3, a4, by rw [e _ _ h2]; exact a5, a6⟩
theorem MAt.fr {s s' : S2} {n q : Nat} {bs : Nat → Nat} (h : MAt s n bs q) {P : Nat → Nat → Bool} (e : Fr P s s') (h1 : P 1569 0 = false) (h2 : P 1570 0 = false) (h3 : P 1579 0 = false) (h4 : P 1571 0 = false) : MAt s' n bs q := by
  obtain ⟨⟨p, a1, a2⟩, a3⟩ := h
  exact ⟨⟨p, a1.fr e h1 h2 h3, a2⟩, by rw [e _ _ h4]; exact a3⟩
theorem MEr.fr {s s' : S2} {n : Nat} {bs : Nat → Nat} {x : Int} (h : MEr s n bs x) {P : Nat → Nat → Bool} (e : Fr P s s') (h1 : P 1569 0 = false) (h2 : P 1570 0 = false) (h3 : P 1579 0 = false) (h4 : P 1571 0 = false) : MEr s' n bs x := by
  obtain ⟨⟨p, a1⟩, a3, a4⟩ := h
  exact ⟨⟨p, a1.fr e h1 h2 h3⟩, by rw [e _ _ h4]; exact a3, a4⟩
theorem MAt.st {s : S2} {n q g j : Nat} {v : Int} {bs : Nat → Nat} (h : MAt s n bs q) (hg : g ≠ 1569 ∧ g ≠ 1570 ∧ g ≠ 1571 ∧ g ≠ 1579) : MAt (st2 s g 0 j v) n bs q := h.fr fr_one (one_f (by omega)) (one_f (by omega)) (one_f (by omega)) (one_f (by omega))
theorem MEr.st {s : S2} {n g j : Nat} {v x : Int} {bs : Nat → Nat} (h : MEr s n bs x) (hg : g ≠ 1569 ∧ g ≠ 1570 ∧ g ≠ 1571 ∧ g ≠ 1579) : MEr (st2 s g 0 j v) n bs x := h.fr fr_one (one_f (by omega)) (one_f (by omega)) (one_f (by omega)) (one_f (by omega))
theorem MAt.le {s : S2} {n q : Nat} {bs : Nat → Nat} (h : MAt s n bs q) : q ≤ n ∧ n ≤ 400 := by
  obtain ⟨⟨p, a1, a2⟩, a3⟩ := h
  have := sk_bd (bs := bs) a1.2.2.2.2
  exact ⟨by omega, a1.2.2.1⟩
theorem atP_fr {s : S2} {q : Nat} : Fr p70 s (atP s q) := Fr.rf.st rfl
theorem flS_fr {s : S2} {k : Int} {p : Nat} : Fr p70 s (flS s k p) := by
  unfold flS
  split
  · exact Fr.rf
  · exact Fr.rf.st rfl
theorem bt_n1 {n q : Nat} {bs : Nat → Nat} (h : isD (bt n bs q) = true) : q < n := bt_lt (bs := bs) (by have := isD_t h; omega)
theorem MAt.num {t : S2} {n q : Nat} {bs : Nat → Nat} {lo hi : Int} (h : MAt t n bs q) (hlo : 0 ≤ lo ∧ lo ≤ 1000) (hhi : -1000 ≤ hi ∧ hi ≤ 1000) : (∃ v q' t', numA n bs lo hi q = .inr (v, q') ∧ lo ≤ v ∧ v ≤ hi ∧ f170 lo hi t = some (v, t') ∧ MAt t' n bs q' ∧ Fr p70 t t') ∨ (∃ e x t', numA n bs lo hi q = .inl e ∧ f170 lo hi t = some (x, t') ∧ i32 x ∧ MEr t' n bs e ∧ Fr p70 t t') := by
  obtain ⟨⟨p, a1, a2⟩, a3⟩ := h
  have hm := m170 a1 a3 hlo hhi
  have hs := sk_bd (bs := bs) a1.2.2.2.2
  rw [a2] at hm hs
  unfold numA
  by_cases b : numB n bs lo hi q = true
  · rw [if_pos b] at hm
    obtain ⟨d, l, u⟩ := of_decide_eq_true b
    have hq := bt_n1 d
    have ht := tL_bd (bs := bs) hq
    refine Or.inl ⟨tV n bs q, nq n bs q, _, if_pos b, l, u, hm, ⟨⟨_, a1.go ht.2, ?_⟩, by rw [atP_o (by omega)]; exact a3⟩, atP_fr⟩
    unfold nq
    rw [if_neg (by omega)]
  · rw [if_neg b] at hm
    obtain ⟨x, s', b1, b2, p', b3, b4, b5⟩ := hm
    have he := numE_b (n := n) (bs := bs) (q := q)
    exact Or.inr ⟨_, x, s', if_neg b, b1, b2, ⟨⟨p', b3⟩, b4, by omega⟩, fun f i w => b5 f i (by have := p70_f.mp w; omega) (by have := p70_f.mp w; omega)⟩
theorem MEr.num {t : S2} {n : Nat} {e : Int} {bs : Nat → Nat} {lo hi : Int} (h : MEr t n bs e) : ∃ t', f170 lo hi t = some (0, t') ∧ MEr t' n bs e ∧ Fr p70 t t' := by
  obtain ⟨⟨p, a1⟩, a2, a3⟩ := h
  have hb := sk_bd (bs := bs) a1.2.2.2.2
  exact ⟨_, m170e a1 (by omega), ⟨⟨_, a1.go hb.2⟩, by rw [atP_o (by omega)]; exact a2, a3⟩, atP_fr⟩
