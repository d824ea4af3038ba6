/-! THE TEXT, as both sides read it -/
def bt (n : Nat) (bs : Nat → Nat) (p : Nat) : Int := if p < n then (bs p : Int) else -1
theorem bt_t {n p : Nat} {bs : Nat → Nat} (h : p < n) : bt n bs p = bs p := if_pos h
theorem bt_o {n p : Nat} {bs : Nat → Nat} (h : n ≤ p) : bt n bs p = -1 := if_neg (by omega)
def rn (q : Int → Bool) (b : Nat → Int) : Nat → Nat → Nat
  | 0, _ => 0
  | f + 1, p => if q (b p) = true then rn q b f (p + 1) + 1 else 0
/-- how many signs of a kind stand from p on -/
def run (q : Int → Bool) (n : Nat) (bs : Nat → Nat) (p : Nat) : Nat := rn q (bt n bs) (n - p) p
theorem run_z {q : Int → Bool} {n p : Nat} {bs : Nat → Nat} (h : q (bt n bs p) = false) : run q n bs p = 0 := by
  unfold run
  cases n - p with
  | zero => rfl
  | succ f =>
    unfold rn
    rw [h, if_neg (by decide)]
theorem run_s {q : Int → Bool} {n p : Nat} {bs : Nat → Nat} (hq : q (-1) = false) (h : q (bt n bs p) = true) : run q n bs p = run q n bs (p + 1) + 1 := by
  have hp : p < n := by
    by_cases e : p < n
    · exact e
    · rw [bt_o (by omega), hq] at h
      cases h
  unfold run
  rw [show n - p = (n - (p + 1)) + 1 by omega]
  show (if q (bt n bs p) = true then _ else _) = _
  rw [if_pos h]
theorem rn_bd {q : Int → Bool} {b : Nat → Int} : ∀ {f p : Nat}, rn q b f p ≤ f
  | 0, _ => Nat.le_refl 0
  | f + 1, p => by
    have := rn_bd (q := q) (b := b) (f := f) (p := p + 1)
    unfold rn
    split <;> omega
theorem run_bd {q : Int → Bool} {n p : Nat} {bs : Nat → Nat} (hp : p ≤ n) : p + run q n bs p ≤ n := by
  have := rn_bd (q := q) (b := bt n bs) (f := n - p) (p := p)
  unfold run
  omega
theorem rn_in {q : Int → Bool} {b : Nat → Int} : ∀ {f p k : Nat}, k < rn q b f p → q (b (p + k)) = true
  | 0, _, _, h => absurd h (by unfold rn; omega)
  | f + 1, p, k, h => by
    unfold rn at h
    by_cases e : q (b p) = true
    · rw [if_pos e] at h
      cases k with
      | zero => exact e
      | succ k =>
        have := rn_in (q := q) (b := b) (f := f) (p := p + 1) (k := k) (by omega)
        rw [show p + (k + 1) = p + 1 + k by omega]
        exact this
    · rw [if_neg e] at h
      omega
theorem run_in {q : Int → Bool} {n p k : Nat} {bs : Nat → Nat} (h : k < run q n bs p) : q (bt n bs (p + k)) = true := rn_in h
theorem rn_end {q : Int → Bool} {b : Nat → Int} : ∀ {f p : Nat}, q (b (p + f)) = false → q (b (p + rn q b f p)) = false
  | 0, _, h => h
  | f + 1, p, h => by
    unfold rn
    by_cases e : q (b p) = true
    · rw [if_pos e]
      have := rn_end (q := q) (b := b) (f := f) (p := p + 1) (by rw [show p + 1 + f = p + (f + 1) by omega]; exact h)
      rw [show p + (rn q b f (p + 1) + 1) = p + 1 + rn q b f (p + 1) by omega]
      exact this
    · rw [if_neg e]
      exact Bool.eq_false_iff.mpr e
theorem run_end {q : Int → Bool} {n p : Nat} {bs : Nat → Nat} (hq : q (-1) = false) : q (bt n bs (p + run q n bs p)) = false := by
  unfold run
  refine rn_end ?_
  rw [bt_o (by omega)]
  exact hq
def isB (x : Int) : Bool := decide (x = 32)
def isD (x : Int) : Bool := decide (48 ≤ x ∧ x ≤ 57)
def isLt (x : Int) : Bool := decide (97 ≤ x ∧ x ≤ 122)
def sk (n : Nat) (bs : Nat → Nat) (p : Nat) : Nat := p + run isB n bs p
theorem sk_bd {n p : Nat} {bs : Nat → Nat} (h : p ≤ n) : p ≤ sk n bs p ∧ sk n bs p ≤ n := ⟨Nat.le_add_right _ _, run_bd h⟩
theorem sk_end {n p : Nat} {bs : Nat → Nat} : bt n bs (sk n bs p) ≠ 32 := by
  have := run_end (q := isB) (n := n) (bs := bs) (p := p) rfl
  unfold isB at this
  exact of_decide_eq_false this
theorem sk_sk {n p : Nat} {bs : Nat → Nat} : sk n bs (sk n bs p) = sk n bs p := by
  have : run isB n bs (sk n bs p) = 0 := run_z (decide_eq_false sk_end)
  show sk n bs p + run isB n bs (sk n bs p) = _
  rw [this]
  rfl
/-! the class' bytes -/
theorem m23 {s : S2} {n : Nat} {bs : Nat → Nat} {p : Nat} (h : HC s bs n) (hn : n ≤ 400) : f23 p s = some (if p < n then (bs p : Int) else 0) := by
  unfold f23
  rw [if_neg (by omega), bnd, h.1]
  by_cases e : p < n
  · rw [if_neg (by omega), if_neg (by omega), ld_t (by omega) (by omega), Int.toNat_natCast, (h.2 p e).2, if_pos e]
  · rw [if_pos (by omega), if_neg e]
theorem m24 {x : Int} : f24 x = some (if isD x = true then 1 else 0) := by
  unfold f24 isD
  by_cases h : 48 ≤ x ∧ x ≤ 57
  · rw [if_neg (by omega), if_neg (by omega), if_pos (decide_eq_true h)]
  · rw [if_neg (show ¬ decide (48 ≤ x ∧ x ≤ 57) = true by rw [decide_eq_false h]; decide)]
    by_cases q : x < 48
    · rw [if_pos q]
    · rw [if_neg q, if_pos (by omega)]
theorem m27 {x : Int} : f27 x = some (if isLt x = true then 1 else 0) := by
  unfold f27 isLt
  by_cases h : 97 ≤ x ∧ x ≤ 122
  · rw [if_neg (by omega), if_neg (by omega), if_pos (decide_eq_true h)]
  · rw [if_neg (show ¬ decide (97 ≤ x ∧ x ≤ 122) = true by rw [decide_eq_false h]; decide)]
    by_cases q : x < 97
    · rw [if_pos q]
    · rw [if_neg q, if_pos (by omega)]
/-! the model's bytes -/
theorem b2b_k : ∀ b : Fin 256, jand (ji2b (b.val : Int)) 255 = (b.val : Int) := by decide +kernel
theorem b2b_l : ∀ b : Fin 256, isLt (ji2b (b.val : Int)) = isLt (b.val : Int) := by decide +kernel
theorem m164 {s : S2} {n : Nat} {bs : Nat → Nat} {p : Nat} (h : HMt s bs n) (hb : ∀ k, k < n → bs k < 256) (hn : n ≤ 400) (hp : s 1570 0 0 = p) : f164 s = some (bt n bs p) := by
  unfold f164
  simp only [bnd]
  rw [hp, h.1]
  by_cases e : p < n
  · rw [if_neg (by omega), ld_t (by omega) (by omega), Int.toNat_natCast, h.2 p e, bt_t e, b2b_k ⟨bs p, hb p e⟩]
  · rw [if_pos (by omega), bt_o (by omega)]
theorem HMt.at {s : S2} {n : Nat} {bs : Nat → Nat} {f k : Nat} {v : Int} (h : HMt s bs n) (hf : f ≠ 1569) (hf2 : f ≠ 1579) : HMt (st2 s f 0 k v) bs n := by
  obtain ⟨h1, h2⟩ := h
  refine ⟨by rw [st2_ne (by omega)]; exact h1, fun q hq => by rw [st2_ne (by omega)]; exact h2 q hq⟩
theorem m163 {s : S2} {n : Nat} {bs : Nat → Nat} {p : Nat} (h : HMt s bs n) (hb : ∀ k, k < n → bs k < 256) (hn : n ≤ 400) (hp : s 1570 0 0 = p) (hpn : p ≤ n) : f163 s = some (st2 s 1570 0 0 (sk n bs p)) := by
  have hbd := run_bd (q := isB) (bs := bs) hpn
  unfold f163
  refine seq_cP (fun i => st2 s 1570 0 0 ((p + i : Nat) : Int)) (run isB n bs p) (st2 s 1570 0 0 (sk n bs p)) (st2_id hp) (by omega) ?_ ?_ rfl
  · intro i hi
    have hin := run_in hi
    show f163_a (st2 s 1570 0 0 ((p + i : Nat) : Int)) = _
    unfold f163_a
    rw [m164 (p := p + i) (h.at (by omega) (by omega)) hb hn st2_eq, cP_s, if_neg (fun w => w (of_decide_eq_true hin)), bnd, bnd, st2_eq, jadd_e (by omega) (by omega)]
    congr 2
    funext f o k
    simp only [st2_d]
    split
    · omega
    · rfl
  · have hend := run_end (q := isB) (n := n) (bs := bs) (p := p) rfl
    show f163_a (st2 s 1570 0 0 ((p + run isB n bs p : Nat) : Int)) = _
    unfold f163_a
    rw [m164 (p := p + run isB n bs p) (h.at (by omega) (by omega)) hb hn st2_eq, cP_s, if_pos (of_decide_eq_false hend)]
    rfl
