/-! TOKENS: the class' split text -/
def sgL : List Nat := [59, 43, 45, 42, 47, 37, 60, 61, 62, 91, 93]
def sg (x : Nat) : Bool := decide (x ∈ sgL)
theorem tb1 : m2_tb 1 = sgL := by decide +kernel
theorem ji2c_k : ∀ b : Fin 256, ji2c (b.val : Int) = (b.val : Int) := by decide +kernel
theorem b2b_g : ∀ b : Fin 256, ∀ i : Fin 11, (((sgL.getD i.val 0 : Nat) : Int) = ji2b (b.val : Int)) ↔ sgL.getD i.val 0 = b.val := by decide +kernel
theorem sg_k : ∀ b : Fin 256, sg b.val = true ↔ ∃ i : Fin 11, sgL.getD i.val 0 = b.val := by decide +kernel
theorem m278 {b : Nat} (hb : b < 256) : ∃ r, f278 1 (ji2c (b : Int)) = some r ∧ (r < 0 ↔ sg b = false) := by
  have e274 : f274 1 = some 11 := m274 (j := 1) (by omega)
  have hl : (m2_tb 1).length = 11 := by rw [tb1]; rfl
  have key : ∃ r, f284 1 (b : Int) 0 11 = some r ∧ (r < 0 ↔ sg b = false) := by
    unfold f284
    rw [bnd]
    refine inv_cP (a := (0 : Int)) (P := fun e => ∃ r, e = some r ∧ (r < 0 ↔ sg b = false)) (fun (i : Nat) (z : Int) => z = i ∧ ∀ k : Nat, k < i → sgL.getD k 0 ≠ b) (fun (r : Int ⊕ Unit) => (∃ i : Nat, i < 11 ∧ r = .inl (i : Int) ∧ sgL.getD i 0 = b) ∨ (r = .inr () ∧ ∀ k : Nat, k < 11 → sgL.getD k 0 ≠ b)) 11 (by decide) ⟨rfl, fun k hk => absurd hk (by omega)⟩ ?_ ?_
    · rintro i x hi ⟨g1, g2⟩
      subst g1
      by_cases e : i = 11
      · subst e
        refine Or.inr ⟨.inr (), ?_, Or.inr ⟨rfl, g2⟩⟩
        unfold f284_a
        rw [if_pos (by omega)]
      · have hld : ∀ {α : Type} (k : Int → Option α), ldt 1 (i : Int) k = k ((sgL.getD i 0 : Nat) : Int) := fun k => by
          unfold ldt
          rw [if_pos (by omega), Int.toNat_natCast, tb1]
          rfl
        have hg := b2b_g ⟨b, hb⟩ ⟨i, by omega⟩
        dsimp only at hg
        by_cases q : sgL.getD i 0 = b
        · refine Or.inr ⟨.inl (i : Int), ?_, Or.inl ⟨i, by omega, rfl, q⟩⟩
          unfold f284_a
          rw [if_neg (by omega), hld, if_neg (fun w => w (hg.mpr q))]
        · refine Or.inl ⟨by omega, ((i + 1 : Nat) : Int), ?_, rfl, fun k hk => ?_⟩
          · unfold f284_a
            rw [if_neg (by omega), hld, if_pos (fun w => q (hg.mp w)), bnd, jadd_e (by omega) (by omega)]
            rfl
          · by_cases e2 : k = i
            · rw [e2]; exact q
            · exact g2 k (by omega)
    · rintro r (⟨i, g1, rfl, g3⟩ | ⟨rfl, g2⟩)
      · refine ⟨(i : Int), rfl, ?_⟩
        have : sg b = true := (sg_k ⟨b, hb⟩).mpr ⟨⟨i, g1⟩, g3⟩
        rw [this]
        constructor
        · intro w; omega
        · intro w; cases w
      · refine ⟨-1, rfl, ?_⟩
        have : sg b = false := Bool.eq_false_iff.mpr fun w => by
          obtain ⟨i, hi⟩ := (sg_k ⟨b, hb⟩).mp w
          exact g2 i.val i.isLt hi
        rw [this]
        exact ⟨fun _ => rfl, fun _ => by decide⟩
  obtain ⟨r, k1, k2⟩ := key
  refine ⟨r, ?_, k2⟩
  have ec : ji2c (b : Int) = b := ji2c_k ⟨b, hb⟩
  rw [ec]
  have e277 : f277 1 = some 1 := by
    unfold f277
    rfl
  have e283 : f283 (b : Int) = some 1 := by
    unfold f283
    rw [if_neg (by omega), if_neg (by omega)]
  unfold f278 f279 f282
  rw [e277, cP_s, if_neg ne10, e274, cP_s, e283, cP_s, if_pos ne10, hl]
  show cP (cP (bnd (jmax 0 0) fun v2 => bnd (jmin 11 11) fun v3 => if v2 < v3 then cP (f284 1 b v2 v3) fun r4 => some r4 else some (-1)) fun r4 => some r4) (fun r1 => some r1) = _
  rw [show jmax 0 0 = 0 from rfl, show jmin 11 11 = 11 from rfl, bnd, bnd, if_pos (by decide), k1]
  rfl
/-- at p begins a sign of two bytes -/
def dbl (n : Nat) (bs : Nat → Nat) (p : Nat) : Bool := decide ((bt n bs p = 60 ∨ bt n bs p = 62) ∧ bt n bs (p + 1) = 61)
def tL (n : Nat) (bs : Nat → Nat) (p : Nat) : Nat := if isD (bt n bs p) = true then run isD n bs p else if isLt (bt n bs p) = true then run isLt n bs p else if dbl n bs p = true then 2 else 1
def tK (n : Nat) (bs : Nat → Nat) (p : Nat) : Int := if n ≤ p then 0 else if isD (bt n bs p) = true then 2 else if isLt (bt n bs p) = true then wk n bs p else if dbl n bs p = true then (if bt n bs p = 60 then 3 else 4) else if sg (bs p) = true then (bs p : Int) else 1
def tV (n : Nat) (bs : Nat → Nat) (p : Nat) : Int := if isD (bt n bs p) = true then nV n bs p else 0
/-- a token written -/
def tkS (s : S2) (j : Nat) (k p v : Int) : S2 := st2 (st2 (st2 (st2 s 130 0 j k) 131 0 j p) 132 0 j v) 133 0 0 ((j : Int) + 1)
theorem m26 {s : S2} {j : Nat} {k p v : Int} (hj : s 133 0 0 = j) (h : j ≤ 400) : f26 k p v s = some (tkS s j k p v) := by
  unfold f26 tkS
  simp only [bnd]
  rw [hj, if_neg (by omega), if_neg (by omega), sto_t (by omega) (by omega), Int.toNat_natCast, st2_ne (f' := 133) (by omega), hj, sto_t (by omega) (by omega), Int.toNat_natCast, st2_ne (f' := 133) (by omega), st2_ne (f' := 133) (by omega), hj, sto_t (by omega) (by omega), Int.toNat_natCast, st2_ne (f' := 133) (by omega), st2_ne (f' := 133) (by omega), st2_ne (f' := 133) (by omega), hj, jadd_e (by omega) (by omega)]
theorem m28a {s : S2} {n : Nat} {bs : Nat → Nat} {p : Nat} (h : HC s bs n) (hn : n ≤ 400) (hp : p ≤ n) : itr (fun (x2, x3) => f28_a x2 x3 s) am_fu (0, (p : Int)) = some (run isLt n bs p : Int) := by
  have hbd := run_bd (q := isLt) (bs := bs) hp
  refine itr_seq (fun i => ((i : Int), ((p + i : Nat) : Int))) (run isLt n bs p) (run isLt n bs p : Int) ?_ ?_ am_fu (fu_lt (by omega))
  · intro i hi
    have hin := run_in hi
    have hd := isLt_t hin
    have hlt : p + i < n := bt_lt (bs := bs) (by omega)
    show f28_a _ _ s = _
    unfold f28_a
    simp only [bnd]
    rw [h.1, if_neg (by omega), m23 h hn, if_pos hlt, cP_s, m27t (by rw [← bt_t (n := n) (bs := bs) hlt]; exact hin), cP_s, if_neg ne10, jadd_e (by omega) (by omega), jadd_e (by omega) (by omega)]
    rfl
  · have hend := run_end (q := isLt) (n := n) (bs := bs) (p := p) rfl
    show f28_a _ _ s = _
    unfold f28_a
    simp only [bnd]
    rw [h.1]
    by_cases e : n ≤ p + run isLt n bs p
    · rw [if_pos (by omega)]
    · rw [if_neg (by omega), m23 h hn, if_pos (by omega), cP_s, m27f (by rw [← bt_t (n := n) (bs := bs) (by omega)]; exact hend), cP_s, if_pos rfl]
theorem m31 {s : S2} {n j : Nat} {bs : Nat → Nat} {p : Nat} (h : HC s bs n) (hn : n ≤ 400) (hp : p < n) (hj : s 133 0 0 = j) (hj4 : j ≤ 400) : f31 p s = some (if dbl n bs p = true then (2, tkS s j (if bt n bs p = 60 then 3 else 4) p 0) else (1, tkS s j (if sg (bs p) = true then (bs p : Int) else 1) p 0)) := by
  have h256 := (h.2 p hp).1
  obtain ⟨r, k1, k2⟩ := m278 h256
  have e2 : f23 (jadd (p : Int) 1) s = some (if p + 1 < n then (bs (p + 1) : Int) else 0) := by
    rw [jadd_e (by omega) (by omega), show (p : Int) + 1 = ((p + 1 : Nat) : Int) by omega, m23 h hn]
  have e3 : (if p + 1 < n then ((bs (p + 1) : Nat) : Int) else 0) = 61 ↔ bt n bs (p + 1) = 61 := by
    unfold bt
    split
    · exact Iff.rfl
    · constructor <;> intro w <;> omega
  have hsg : (jn (fun (_ : Unit) => cP (f278 1 (ji2c (bs p : Int))) fun r3 => jn (fun (x4 : Int) => cP (f26 x4 p 0 s) fun s5 => some ((1 : Int), s5)) fun j65 => if r3 < 0 then (j65 1) else j65 (bs p : Int)) fun j49 => j49 ()) = some (1, tkS s j (if sg (bs p) = true then (bs p : Int) else 1) p 0) := by
    simp only [jn]
    rw [k1, cP_s]
    by_cases q : sg (bs p) = true
    · rw [if_neg (fun w => by have := k2.mp w; rw [q] at this; cases this), if_pos q, m26 hj hj4, cP_s]
    · rw [if_pos (k2.mpr (Bool.eq_false_iff.mpr q)), if_neg q, m26 hj hj4, cP_s]
  unfold f31
  rw [m23 h hn, if_pos hp, cP_s, e2, cP_s]
  have hb : bt n bs p = (bs p : Int) := bt_t hp
  unfold dbl
  rw [hb]
  simp only [jn] at hsg ⊢
  generalize (if sg (bs p) = true then ((bs p : Nat) : Int) else 1) = zz at hsg ⊢
  by_cases q : bt n bs (p + 1) = 61
  · rw [if_neg (show ¬ ¬ (if p + 1 < n then ((bs (p + 1) : Nat) : Int) else 0) = 61 from fun w => w (e3.mpr q))]
    by_cases q1 : ((bs p : Nat) : Int) = 60
    · rw [if_pos q1, if_neg (show ¬ ¬ ((bs p : Nat) : Int) = 60 from fun w => w q1), m26 hj hj4, cP_s, if_pos (decide_eq_true ⟨Or.inl q1, q⟩), if_pos q1]
    · rw [if_neg q1]
      by_cases q2 : ((bs p : Nat) : Int) = 62
      · rw [if_neg (show ¬ ¬ ((bs p : Nat) : Int) = 62 from fun w => w q2), if_pos q1, m26 hj hj4, cP_s, if_pos (decide_eq_true ⟨Or.inr q2, q⟩), if_neg q1]
      · rw [if_pos q2, hsg, if_neg (by rw [decide_eq_false (show ¬ ((((bs p : Nat) : Int) = 60 ∨ ((bs p : Nat) : Int) = 62) ∧ bt n bs (p + 1) = 61) by omega)]; decide)]
  · rw [if_pos (show ¬ (if p + 1 < n then ((bs (p + 1) : Nat) : Int) else 0) = 61 from fun w => q (e3.mp w)), hsg, if_neg (by rw [decide_eq_false (fun w => q w.2)]; decide)]
