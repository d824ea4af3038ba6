/-! THE CLASS' READER over the tokens -/
def CRd (s : S2) (n : Nat) (bs : Nat → Nat) (m c : Nat) : Prop := TK s n bs m ∧ s 134 0 0 = c ∧ c ≤ m
theorem CRd.le {s : S2} {n m c : Nat} {bs : Nat → Nat} (h : CRd s n bs m c) : tq n bs c ≤ n ∧ n ≤ n := by
  obtain ⟨⟨h1, h2, h3, h4, h5⟩, h6, h7⟩ := h
  by_cases e : c = m
  · subst e; omega
  · have := h4 c (by omega); omega
theorem m32 {s : S2} {n m c : Nat} {bs : Nat → Nat} (h : CRd s n bs m c) : f32 s = some (if ¬ s 135 0 0 = 0 then 0 else tK n bs (tq n bs c)) := by
  obtain ⟨⟨h1, h2, h3, h4, h5⟩, h6, h7⟩ := h
  unfold f32
  simp only [bnd]
  by_cases e : s 135 0 0 = 0
  · rw [if_neg (show ¬ ¬ s 135 0 0 = 0 from fun w => w e), if_neg (show ¬ ¬ s 135 0 0 = 0 from fun w => w e), h6, if_neg (by omega), if_neg (by omega), ld_t (by omega) (by omega), Int.toNat_natCast, (h5 c h7).1]
  · rw [if_pos e, if_pos e]
theorem m32z {s : S2} {n m c : Nat} {bs : Nat → Nat} (h : CRd s n bs m c) (e : s 135 0 0 = 0) : f32 s = some (tK n bs (tq n bs c)) := by rw [m32 h, if_neg (fun w => w e)]
theorem m32e {s : S2} {n m c : Nat} {bs : Nat → Nat} (h : CRd s n bs m c) (e : ¬ s 135 0 0 = 0) : f32 s = some 0 := by rw [m32 h, if_pos e]
theorem m40 {s : S2} {n m c : Nat} {bs : Nat → Nat} (h : CRd s n bs m c) : f40 s = some (tV n bs (tq n bs c)) := by
  obtain ⟨⟨h1, h2, h3, h4, h5⟩, h6, h7⟩ := h
  unfold f40
  simp only [bnd]
  rw [h6, if_neg (by omega), if_neg (by omega), ld_t (by omega) (by omega), Int.toNat_natCast, (h5 c h7).2.2]
theorem m43 {s : S2} {n m c : Nat} {bs : Nat → Nat} (h : CRd s n bs m c) : f43 s = some (tq n bs c : Int) := by
  obtain ⟨⟨h1, h2, h3, h4, h5⟩, h6, h7⟩ := h
  unfold f43
  simp only [bnd]
  rw [h6, if_neg (by omega), if_neg (by omega), ld_t (by omega) (by omega), Int.toNat_natCast, (h5 c h7).2.1]
theorem m36 {s : S2} {n m c : Nat} {bs : Nat → Nat} (h : CRd s n bs m c) : f36 s = some (st2 s 134 0 0 ((min m (c + 1) : Nat) : Int)) := by
  obtain ⟨⟨h1, h2, h3, h4, h5⟩, h6, h7⟩ := h
  unfold f36
  simp only [bnd]
  rw [h6, h2, jsub_e (by omega) (by omega)]
  by_cases e : c = m
  · rw [if_pos (by omega), st2_id (by rw [h6]; omega)]
  · rw [if_neg (by omega), jadd_e (by omega) (by omega), show (c : Int) + 1 = ((min m (c + 1) : Nat) : Int) by omega]
/-- the class refuses, at its first fault -/
def rfS (s : S2) (k : Int) (p : Nat) : S2 := if ¬ s 135 0 0 = 0 then s else st2 s 135 0 0 (1 + 8 * p + k)
theorem m34 {s : S2} {n m c : Nat} {bs : Nat → Nat} {k : Int} (h : CRd s n bs m c) (hn : n ≤ 400) (hk : 0 ≤ k ∧ k ≤ 7) : f34 k s = some (rfS s k (tq n bs c)) := by
  have hq := h.le.1
  obtain ⟨⟨h1, h2, h3, h4, h5⟩, h6, h7⟩ := h
  unfold f34 rfS
  simp only [bnd]
  by_cases e : s 135 0 0 = 0
  · rw [if_neg (show ¬ ¬ s 135 0 0 = 0 from fun w => w e), if_neg (show ¬ ¬ s 135 0 0 = 0 from fun w => w e), h6, if_neg (by omega), if_neg (by omega), ld_t (by omega) (by omega), Int.toNat_natCast, (h5 c h7).2.1, jmul_e (by omega) (by omega), jadd_e (x := 1) (by omega) (by omega), jadd_e (by omega) (by omega)]
  · rw [if_pos e, if_pos e]
theorem m44 {s : S2} {p : Nat} {k : Int} (hp : p ≤ 400) (hk : 0 ≤ k ∧ k ≤ 7) : f44 p k s = some (rfS s k p) := by
  unfold f44 rfS
  simp only [bnd]
  by_cases e : s 135 0 0 = 0
  · rw [if_neg (fun w => w e), if_neg (fun w => w e), jmul_e (by omega) (by omega), jadd_e (x := 1) (by omega) (by omega), jadd_e (by omega) (by omega)]
  · rw [if_pos e, if_pos e]
theorem CRd.fr {s s' : S2} {n m c : Nat} {bs : Nat → Nat} (h : CRd s n bs m c) {P : Nat → Nat → Bool} (e : Fr P s s') (hp : ∀ f, 130 ≤ f → f ≤ 134 → P f 0 = false) : CRd s' n bs m c := by
  obtain ⟨⟨h1, h2, h3, h4, h5⟩, h6, h7⟩ := h
  unfold CRd TK
  rw [e 130 0 (hp _ (by omega) (by omega)), e 131 0 (hp _ (by omega) (by omega)), e 132 0 (hp _ (by omega) (by omega)), e 133 0 (hp _ (by omega) (by omega)), e 134 0 (hp _ (by omega) (by omega))]
  exact ⟨⟨h1, h2, h3, h4, h5⟩, h6, h7⟩
theorem CRd.go {s : S2} {n m c : Nat} {bs : Nat → Nat} (h : CRd s n bs m c) : CRd (st2 s 134 0 0 ((min m (c + 1) : Nat) : Int)) n bs m (min m (c + 1)) := by
  obtain ⟨⟨h1, h2, h3, h4, h5⟩, h6, h7⟩ := h
  refine ⟨⟨h1, by rw [st2_ne (by omega)]; exact h2, h3, h4, fun j hj => ?_⟩, st2_eq, by omega⟩
  rw [st2_ne (by omega), st2_ne (by omega), st2_ne (by omega)]
  exact h5 j hj
theorem rfS_fr {s : S2} {k : Int} {p : Nat} : Fr (fun f i => Nat.beq f 135 && Nat.beq i 0) s (rfS s k p) := by
  unfold rfS
  split
  · exact Fr.rf
  · exact Fr.rf.st rfl
theorem b135_f {f i : Nat} (h : f ≠ 135) : (Nat.beq f 135 && Nat.beq i 0) = false := by
  rw [← Bool.not_eq_true]
  simp only [Bool.and_eq_true, Nat.beq_eq]
  omega
theorem CRd.rfS {s : S2} {n m c : Nat} {bs : Nat → Nat} {k : Int} {p : Nat} (h : CRd s n bs m c) : CRd (rfS s k p) n bs m c := h.fr rfS_fr (fun f g1 g2 => b135_f (by omega))
/-- the place of the next token -/
def nq (n : Nat) (bs : Nat → Nat) (q : Nat) : Nat := if n ≤ q then q else sk n bs (q + tL n bs q)
theorem tq_n {n m c : Nat} {bs : Nat → Nat} {s : S2} (h : CRd s n bs m c) : tq n bs (min m (c + 1)) = nq n bs (tq n bs c) := by
  obtain ⟨⟨h1, h2, h3, h4, h5⟩, h6, h7⟩ := h
  unfold nq
  by_cases e : c = m
  · subst e
    rw [if_pos (by omega), show min c (c + 1) = c by omega]
  · have := h4 c (by omega)
    rw [if_neg (by omega), show min m (c + 1) = c + 1 by omega]
    show (if n ≤ tq n bs c then _ else _) = _
    rw [if_neg (by omega)]
/-- a number within lo and hi stands at q -/
def numB (n : Nat) (bs : Nat → Nat) (lo hi : Int) (q : Nat) : Bool := decide (isD (bt n bs q) = true ∧ lo ≤ tV n bs q ∧ tV n bs q ≤ hi)
/-- the fault where it does not -/
def numE (n : Nat) (bs : Nat → Nat) (q : Nat) : Int := if isD (bt n bs q) = true then 1 else 0
theorem wk_ne {n p : Nat} {bs : Nat → Nat} : wk n bs p ≠ 2 ∧ wk n bs p ≠ 0 := by
  unfold wk
  split <;> omega
theorem sg_ne : ∀ b : Fin 256, sg b.val = true → b.val ≠ 2 ∧ b.val ≠ 0 := by decide +kernel
theorem tK_2 {n q : Nat} {bs : Nat → Nat} (hb : ∀ k, k < n → bs k < 256) : tK n bs q = 2 ↔ isD (bt n bs q) = true := by
  unfold tK
  by_cases e : n ≤ q
  · rw [if_pos e, bt_o e]
    constructor
    · intro w; omega
    · intro w; cases w
  · rw [if_neg e]
    by_cases d : isD (bt n bs q) = true
    · rw [if_pos d]
      exact ⟨fun _ => d, fun _ => rfl⟩
    · rw [if_neg d]
      refine ⟨fun w => ?_, fun w => absurd w d⟩
      exfalso
      split at w
      · exact wk_ne.1 w
      · split at w
        · split at w <;> omega
        · split at w
          · rename_i g
            have := (sg_ne ⟨bs q, hb q (by omega)⟩ g).1
            dsimp only at this
            omega
          · omega
theorem m39 {s : S2} {n m c : Nat} {bs : Nat → Nat} {lo hi : Int} (h : CRd s n bs m c) (hb : ∀ k, k < n → bs k < 256) (hn : n ≤ 400) (e : s 135 0 0 = 0) : f39 lo hi s = if numB n bs lo hi (tq n bs c) = true then some (tV n bs (tq n bs c), st2 s 134 0 0 ((min m (c + 1) : Nat) : Int)) else some (-1, rfS s (numE n bs (tq n bs c)) (tq n bs c)) := by
  unfold f39
  simp only [jn]
  rw [m32z h e, cP_s]
  unfold numB numE
  by_cases d : isD (bt n bs (tq n bs c)) = true
  · rw [if_pos ((tK_2 hb).mpr d), m40 h, cP_s]
    by_cases l : lo ≤ tV n bs (tq n bs c)
    · rw [if_neg (by omega)]
      by_cases u : tV n bs (tq n bs c) ≤ hi
      · rw [if_pos u, m36 h, cP_s, if_pos (decide_eq_true ⟨d, l, u⟩)]
      · rw [if_neg u, if_pos d, m34 h hn (by omega), cP_s, if_neg (by rw [decide_eq_false (fun w => u w.2.2)]; decide)]
    · rw [if_pos (by omega), if_pos d, m34 h hn (by omega), cP_s, if_neg (by rw [decide_eq_false (fun w => l w.2.1)]; decide)]
  · rw [if_neg (fun w => d ((tK_2 hb).mp w)), if_neg d, m34 h hn (by omega), cP_s, if_neg (by rw [decide_eq_false (fun w => d w.1)]; decide)]
theorem m39e {s : S2} {n m c : Nat} {bs : Nat → Nat} {lo hi : Int} (h : CRd s n bs m c) (hn : n ≤ 400) (e : ¬ s 135 0 0 = 0) : f39 lo hi s = some (-1, s) := by
  unfold f39
  rw [m32e h e, cP_s, if_neg (by decide), m34 h hn (by omega), cP_s]
  unfold rfS
  rw [if_pos e]
theorem m55 {s : S2} {n m c : Nat} {bs : Nat → Nat} {k : Int} (h : CRd s n bs m c) (hn : n ≤ 400) (e : s 135 0 0 = 0) : f55 k s = if tK n bs (tq n bs c) = k then some (st2 s 134 0 0 ((min m (c + 1) : Nat) : Int)) else some (rfS s 0 (tq n bs c)) := by
  unfold f55
  rw [m32z h e, cP_s]
  by_cases q : tK n bs (tq n bs c) = k
  · rw [if_neg (fun w => w q), if_pos q, m36 h, cP_s]
  · rw [if_pos q, if_neg q, m34 h hn (by omega), cP_s]
