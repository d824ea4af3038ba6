/-! NUMBERS on both sides -/
def dv (n : Nat) (bs : Nat → Nat) (p : Nat) : Nat → Int
  | 0 => 0
  | k + 1 => dv n bs p k * 10 + bt n bs (p + k) - 48
theorem dv_s {n p k : Nat} {bs : Nat → Nat} : dv n bs p (k + 1) = dv n bs p k * 10 + bt n bs (p + k) - 48 := rfl
theorem isD_t {x : Int} (h : isD x = true) : 48 ≤ x ∧ x ≤ 57 := of_decide_eq_true h
theorem isD_m1 : isD (-1) = false := rfl
theorem dv_bd {n p : Nat} {bs : Nat → Nat} {k : Nat} (h : k ≤ run isD n bs p) : 0 ≤ dv n bs p k ∧ dv n bs p k < 10 ^ k := by
  induction k with
  | zero =>
    refine ⟨Int.le_refl 0, ?_⟩
    show (0 : Int) < 10 ^ 0
    decide
  | succ k ih =>
    have ih := ih (by omega)
    have hd := isD_t (run_in (q := isD) (show k < run isD n bs p by omega))
    rw [dv_s, show (10 : Int) ^ (k + 1) = 10 ^ k * 10 from Int.pow_succ 10 k]
    omega
theorem dv_5 {n p : Nat} {bs : Nat → Nat} {k : Nat} (h : k ≤ run isD n bs p) (h5 : k ≤ 5) : 0 ≤ dv n bs p k ∧ dv n bs p k ≤ 99999 := by
  have := dv_bd h
  have : k = 0 ∨ k = 1 ∨ k = 2 ∨ k = 3 ∨ k = 4 ∨ k = 5 := by omega
  rcases this with rfl | rfl | rfl | rfl | rfl | rfl <;> omega
/-- a number's worth in a token -/
def nV (n : Nat) (bs : Nat → Nat) (p : Nat) : Int := if run isD n bs p ≤ 5 then dv n bs p (run isD n bs p) else -1
def nS (n : Nat) (bs : Nat → Nat) (p i : Nat) : Int := if i ≤ 5 then dv n bs p i else -1
theorem bt_lt {n p : Nat} {bs : Nat → Nat} (h : bt n bs p ≠ -1) : p < n := by
  by_cases e : p < n
  · exact e
  · exact absurd (bt_o (by omega)) h
theorem m24t {x : Int} (h : isD x = true) : f24 x = some 1 := by rw [m24, if_pos h]
theorem m24f {x : Int} (h : isD x = false) : f24 x = some 0 := by rw [m24, h, if_neg (by decide)]
theorem m27t {x : Int} (h : isLt x = true) : f27 x = some 1 := by rw [m27, if_pos h]
theorem m27f {x : Int} (h : isLt x = false) : f27 x = some 0 := by rw [m27, h, if_neg (by decide)]
theorem m25a {s : S2} {n : Nat} {bs : Nat → Nat} {p : Nat} (h : HC s bs n) (hn : n ≤ 400) (hp : p ≤ n) : itr (fun (x2, x3, x4) => f25_a x2 x3 x4 s) am_fu (0, 0, (p : Int)) = some (nV n bs p, (run isD n bs p : Int)) := by
  have hbd := run_bd (q := isD) (bs := bs) hp
  refine itr_seq (fun i => (nS n bs p i, (i : Int), ((p + i : Nat) : Int))) (run isD n bs p) (nV n bs p, (run isD n bs p : Int)) ?_ ?_ am_fu (fu_lt (by omega))
  · intro i hi
    have hin := run_in hi
    have hd := isD_t hin
    have hlt : p + i < n := bt_lt (bs := bs) (by omega)
    have hb : bt n bs (p + i) = bs (p + i) := bt_t hlt
    show f25_a _ _ _ s = _
    unfold f25_a
    simp only [bnd]
    rw [h.1, if_neg (by omega), m23 h hn, if_pos hlt, cP_s, m24t (by rw [← hb]; exact hin), cP_s, if_neg ne10, jadd_e (by omega) (by omega), jadd_e (by omega) (by omega)]
    by_cases c : i + 1 ≤ 5
    · have hv := dv_5 (n := n) (p := p) (bs := bs) (k := i) (by omega) (by omega)
      have e1 : nS n bs p i = dv n bs p i := if_pos (by omega)
      have e2 : nS n bs p (i + 1) = dv n bs p (i + 1) := if_pos c
      rw [if_pos (by omega), cP_s, e1, e2, dv_s, jmul_e (by omega) (by omega), jadd_e (by omega) (by omega), jsub_e (by omega) (by omega), hb]
      rfl
    · have e2 : nS n bs p (i + 1) = -1 := if_neg c
      rw [if_neg (by omega), e2]
      rfl
  · have hend := run_end (q := isD) (n := n) (bs := bs) (p := p) rfl
    show f25_a _ _ _ s = _
    unfold f25_a
    simp only [bnd]
    rw [h.1]
    by_cases e : n ≤ p + run isD n bs p
    · rw [if_pos (by omega)]
      rfl
    · rw [if_neg (by omega), m23 h hn, if_pos (by omega), cP_s, m24f (by rw [← bt_t (n := n) (bs := bs) (by omega)]; exact hend), cP_s, if_pos rfl]
      rfl
/-- the model fails, at its first fault -/
def flS (s : S2) (k : Int) (p : Nat) : S2 := if ¬ s 1571 0 0 = 0 then s else st2 s 1571 0 0 (1 + 8 * p + k)
theorem m167 {s : S2} {k : Int} {p : Nat} (hk : 0 ≤ k ∧ k ≤ 7) (hp : p ≤ 400) : f167 k p s = some (flS s k p) := by
  unfold f167 flS
  simp only [bnd, jn]
  by_cases e : s 1571 0 0 = 0
  · rw [if_neg (fun w => w e), if_neg (fun w => w e), jmul_e (by omega) (by omega), jadd_e (x := 1) (by omega) (by omega), jadd_e (by omega) (by omega)]
  · rw [if_pos e, if_pos e, st2_id rfl]
theorem m172 {s : S2} {n : Nat} {bs : Nat → Nat} {p : Nat} (h : HMt s bs n) (hb : ∀ k, k < n → bs k < 256) (hn : n ≤ 400) (hp : s 1570 0 0 = p) : f172 s = some (if isD (bt n bs p) = true then 1 else 0) := by
  unfold f172
  have hx : -1 ≤ bt n bs p ∧ bt n bs p < 256 := by
    unfold bt
    split
    · rename_i q
      have := hb p q
      omega
    · omega
  rw [m164 h hb hn hp, cP_s, ji2l_e (by omega) (by omega)]
  unfold isD
  by_cases q : 48 ≤ bt n bs p ∧ bt n bs p ≤ 57
  · rw [m173t q, cP_s, gd_t (Or.inr rfl), if_pos (decide_eq_true q)]
  · rw [m173f q, cP_s, gd_t (Or.inl rfl), if_neg (by rw [decide_eq_false q]; decide)]
theorem m172t {s : S2} {n : Nat} {bs : Nat → Nat} {p : Nat} (h : HMt s bs n) (hb : ∀ k, k < n → bs k < 256) (hn : n ≤ 400) (hp : s 1570 0 0 = p) (h2 : isD (bt n bs p) = true) : f172 s = some 1 := by rw [m172 h hb hn hp, if_pos h2]
theorem m172f {s : S2} {n : Nat} {bs : Nat → Nat} {p : Nat} (h : HMt s bs n) (hb : ∀ k, k < n → bs k < 256) (hn : n ≤ 400) (hp : s 1570 0 0 = p) (h2 : isD (bt n bs p) = false) : f172 s = some 0 := by rw [m172 h hb hn hp, h2, if_neg (by decide)]
def atP (s : S2) (p : Nat) : S2 := st2 s 1570 0 0 p
theorem atP_at {s : S2} {p q : Nat} : atP (atP s p) q = atP s q := by
  funext f o k
  unfold atP
  simp only [st2_d]
  split <;> rfl
theorem m171a {s : S2} {n : Nat} {bs : Nat → Nat} {p : Nat} (h : HMt s bs n) (hb : ∀ k, k < n → bs k < 256) (hn : n ≤ 400) (hp : s 1570 0 0 = p) (hpn : p ≤ n) : itr (fun (x5, s6) => f171_a p x5 s6) am_fu (0, s) = some (dv n bs p (min (run isD n bs p) 5), atP s (p + run isD n bs p)) := by
  have hbd := run_bd (q := isD) (bs := bs) hpn
  have e0 : ((0 : Int), s) = (dv n bs p (min 0 5), atP s (p + 0)) := by
    unfold atP
    rw [Nat.add_zero, st2_id hp]
    rfl
  rw [e0]
  refine itr_seq (fun i => (dv n bs p (min i 5), atP s (p + i))) (run isD n bs p) _ ?_ ?_ am_fu (fu_lt (by omega))
  · intro i hi
    have hin := run_in hi
    have hd := isD_t hin
    have h1 : HMt (atP s (p + i)) bs n := h.at (by omega) (by omega)
    have h2 : atP s (p + i) 1570 0 0 = ((p + i : Nat) : Int) := st2_eq
    show f171_a p _ _ = _
    unfold f171_a
    simp only [bnd, jn]
    have ea : st2 (atP s (p + i)) 1570 0 0 ((p + i : Nat) + 1 : Int) = atP s (p + (i + 1)) := atP_at (q := p + (i + 1))
    rw [m172t h1 hb hn h2 hin, cP_s, if_neg ne10, h2, jsub_e (by omega) (by omega), jadd_e (by omega) (by omega), ea]
    by_cases c : 5 ≤ i
    · rw [if_pos (by omega), show min i 5 = 5 by omega, show min (i + 1) 5 = 5 by omega]
    · have hv := dv_5 (n := n) (p := p) (bs := bs) (k := i) (by omega) (by omega)
      rw [if_neg (by omega), m164 h1 hb hn h2, cP_s, show min i 5 = i by omega, show min (i + 1) 5 = i + 1 by omega, dv_s, jmul_e (by omega) (by omega), jadd_e (by omega) (by omega), jsub_e (by omega) (by omega), Int.mul_comm]
  · have hend := run_end (q := isD) (n := n) (bs := bs) (p := p) rfl
    have h1 : HMt (atP s (p + run isD n bs p)) bs n := h.at (by omega) (by omega)
    have h2 : atP s (p + run isD n bs p) 1570 0 0 = ((p + run isD n bs p : Nat) : Int) := st2_eq
    show f171_a p _ _ = _
    unfold f171_a
    rw [m172f h1 hb hn h2 hend, cP_s, if_pos rfl]
theorem m171 {s : S2} {n : Nat} {bs : Nat → Nat} {p : Nat} (h : HMt s bs n) (hb : ∀ k, k < n → bs k < 256) (hn : n ≤ 400) (hp : s 1570 0 0 = p) (hpn : p ≤ n) : f171 99999 s = if isD (bt n bs p) = true then (if run isD n bs p ≤ 5 then some (nV n bs p, atP s (p + run isD n bs p)) else some (dv n bs p 5, flS (atP s (p + run isD n bs p)) 1 p)) else some (0, flS s 0 p) := by
  have hbd := run_bd (q := isD) (bs := bs) hpn
  unfold f171
  by_cases hd : isD (bt n bs p) = true
  · rw [m172t h hb hn hp hd, cP_s, if_pos hd, if_pos ne10, hp, bnd, m171a h hb hn hp hpn, cP_s]
    simp only [bnd, jn]
    have h2 : atP s (p + run isD n bs p) 1570 0 0 = ((p + run isD n bs p : Nat) : Int) := st2_eq
    rw [h2, jsub_e (by omega) (by omega)]
    by_cases c : run isD n bs p ≤ 5
    · have hv := dv_5 (n := n) (p := p) (bs := bs) (k := run isD n bs p) (by omega) c
      rw [if_neg (by omega), show min (run isD n bs p) 5 = run isD n bs p by omega, if_pos (by omega), if_pos c]
      unfold nV
      rw [if_pos c]
    · rw [if_pos (by omega), if_neg c, m167 (by omega) (by omega), cP_s, show min (run isD n bs p) 5 = 5 by omega]
  · rw [m172f h hb hn hp (Bool.eq_false_iff.mpr hd), cP_s, if_neg hd, if_neg (by decide), hp, bnd, m167 (by omega) (by omega), cP_s]
