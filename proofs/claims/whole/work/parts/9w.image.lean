/-! AN IMAGE written and laid back, in the model -/
def gJ (q : Nat) : Nat := if q < 11 then 1537 else if q < 15 then 1538 else if q < 19 then 1539 else if q < 25 then 1544 else if q < 35 then 1547 else if q < 45 then 1548 else if q < 46 then 1593 else if q < 52 then 1540 else if q < 58 then 1541 else if q < 64 then 1542 else if q < 70 then 1543 else if q < 80 then 1545 else if q < 90 then 1546 else if q < 93 then 1549 else if q < 96 then 1550 else if q < 106 then 1551 else if q < 116 then 1552 else if q < 126 then 1553 else if q < 130 then 1554 else if q < 140 then 1555 else if q < 150 then 1556 else 1591
theorem gJ_bd {q : Nat} : (1537 ≤ gJ q ∧ gJ q ≤ 1556) ∨ gJ q = 1593 ∨ gJ q = 1591 := by
  unfold gJ
  grind (splits := 50)
theorem gJ_jr {f k : Nat} (h : jr f k) : gJ (offJ f + k) = f := by
  unfold jr at h
  unfold gJ offJ
  grind (splits := 80)
def imV (s : S2) (q : Nat) : Int := s (gJ q) 0 (q - offJ (gJ q))
def SVs (s0 : S2) (k n : Nat) : S2 := fun f i q => if f = 1608 ∧ i = 0 ∧ q = 0 then ((1100 * k + n : Nat) : Int) else if f = 1609 ∧ i = 0 ∧ q = 0 then 0 else if f = 1606 ∧ i = 0 ∧ 1100 * k ≤ q ∧ q < 1100 * k + n then imV s0 (q - 1100 * k) else s0 f i q
theorem SVs_o {s0 : S2} {k n f i q : Nat} (h : f ≠ 1606) (h2 : f ≠ 1608) (h3 : f ≠ 1609) : SVs s0 k n f i q = s0 f i q := by
  unfold SVs
  rw [if_neg (by omega), if_neg (by omega), if_neg (by omega)]
theorem SVs_8 {s0 : S2} {k n : Nat} : SVs s0 k n 1608 0 0 = ((1100 * k + n : Nat) : Int) := by
  unfold SVs
  rw [if_pos ⟨rfl, rfl, rfl⟩]
theorem SVs_9 {s0 : S2} {k n : Nat} : SVs s0 k n 1609 0 0 = 0 := by
  unfold SVs
  rw [if_neg (by omega), if_pos ⟨rfl, rfl, rfl⟩]
theorem SVs_s {s0 : S2} {k n0 len g : Nat} (hg : g < 1606) (hr : ∀ i, i < len → imV s0 (n0 + i) = s0 g 0 i) : svR (SVs s0 k n0) g len (1100 * k + n0) = SVs s0 k (n0 + len) := by
  funext f i q
  rw [svR_d, SVs_o (f := g) (by omega) (by omega) (by omega)]
  unfold SVs
  by_cases h1 : f = 1608 ∧ i = 0 ∧ q = 0
  · rw [if_pos h1, if_pos h1, Nat.add_assoc]
  · rw [if_neg h1, if_neg h1, if_neg h1]
    by_cases h2 : f = 1606 ∧ i = 0 ∧ 1100 * k + n0 ≤ q ∧ q < 1100 * k + n0 + len
    · rw [if_pos h2, if_neg (by omega), if_pos (by omega), ← hr (q - (1100 * k + n0)) (by omega), show n0 + (q - (1100 * k + n0)) = q - 1100 * k by omega]
    · rw [if_neg h2]
      by_cases h3 : f = 1609 ∧ i = 0 ∧ q = 0
      · rw [if_pos h3, if_pos h3]
      · rw [if_neg h3, if_neg h3]
        by_cases h4 : f = 1606 ∧ i = 0 ∧ 1100 * k ≤ q ∧ q < 1100 * k + n0
        · rw [if_pos h4, if_pos (by omega)]
        · rw [if_neg h4, if_neg (show ¬ (f = 1606 ∧ i = 0 ∧ 1100 * k ≤ q ∧ q < 1100 * k + (n0 + len)) by omega)]
theorem m235v {s0 : S2} {k n0 len g : Nat} (hk : k < 4) (hl : am_ln g = len) (hlen : len ≤ 720) (hn : n0 + len ≤ 870) (hg : g < 1606) (hr : ∀ i, i < len → imV s0 (n0 + i) = s0 g 0 i) : f235 g (SVs s0 k n0) = some (SVs s0 k (n0 + len)) := by
  rw [m235s (p := 1100 * k + n0) hl (by omega) hg (by omega) SVs_9 SVs_8, SVs_s hg hr]
theorem imV_e {s : S2} {q f i : Nat} (h : gJ q = f) (h2 : q = offJ f + i) : imV s q = s f 0 i := by
  unfold imV
  rw [h]
  congr 1
  omega
theorem imV_k {s : S2} {g n0 len : Nat} (ho : offJ g = n0) (hj : ∀ i, i < len → jr g i) : ∀ i, i < len → imV s (n0 + i) = s g 0 i := fun i hi => imV_e (by rw [← ho]; exact gJ_jr (hj i hi)) (by rw [ho])
theorem m234s {s : S2} {k : Nat} (hk : k < 4) : ∃ s', f234 k 0 s = some s' ∧ im s' k = live s ∧ (∀ q, (q < 1100 * k ∨ 1100 * k + 870 ≤ q) → s' 1606 0 q = s 1606 0 q) ∧ ∀ f i, ¬ (f = 1592 ∨ f = 1606 ∨ f = 1608 ∨ f = 1609) → s' f i = s f i := by
  have e0 : st2 (st2 s 1608 0 0 ((1100 * k : Nat) : Int)) 1609 0 0 0 = SVs s k 0 := by
    funext f i q
    simp only [st2_d]
    unfold SVs
    rw [if_neg (show ¬ (f = 1606 ∧ i = 0 ∧ 1100 * k ≤ q ∧ q < 1100 * k + 0) by omega)]
    by_cases h1 : f = 1609 ∧ i = 0 ∧ q = 0
    · rw [if_pos h1, if_neg (by omega), if_pos h1]
    · rw [if_neg h1, if_neg h1]
      rfl
  have e1 : ∀ v : Int, st2 (SVs s k 45) 1592 0 0 v = SVs (st2 s 1592 0 0 v) k 45 := fun v => by
    funext f i q
    simp only [st2_d]
    unfold SVs
    have hi : imV (st2 s 1592 0 0 v) (q - 1100 * k) = imV s (q - 1100 * k) := by
      unfold imV
      rw [st2_ne (by have := gJ_bd (q := q - 1100 * k); omega)]
    rw [hi, st2_d]
    by_cases h1 : f = 1592 ∧ i = 0 ∧ q = 0
    · rw [if_pos h1, if_neg (by omega), if_neg (by omega), if_neg (by omega), if_pos h1]
    · rw [if_neg h1, if_neg h1]
  have e2 : SVs s k 45 1593 0 0 = s 1593 0 0 := SVs_o (by omega) (by omega) (by omega)
  generalize hz : st2 s 1592 0 0 (s 1593 0 0) = z at *
  have z3 : z 1593 0 0 = s 1593 0 0 := by rw [← hz, st2_ne (by omega)]
  have z2 : z 1592 0 0 = s 1593 0 0 := by rw [← hz, st2_eq]
  have zo : ∀ f i, f ≠ 1592 → z f i = s f i := fun f i h => by
    rw [← hz]
    funext q
    exact st2_ne (by omega)
  have jk : ∀ g n, (∀ i, i < n → jr g i) → ∀ i, i < n → jr g i := fun g n h => h
  refine ⟨SVs z k 870, ?_, nJ_ext fun f i hr => ?_, fun q hq => ?_, fun f i hf => ?_⟩
  · unfold f234
    rw [jmul_e (by omega) (by omega), show (1100 * (k : Int)) = ((1100 * k : Nat) : Int) by omega, bnd, gd_t (Or.inl rfl), bnd, e0]
    rw [m235v (n0 := 0) (len := 11) hk rfl (by omega) (by omega) (by omega) (imV_k rfl fun i hi => by unfold jr; omega), cP_s]
    rw [m235v (n0 := 0 + 11) (len := 4) hk rfl (by omega) (by omega) (by omega) (imV_k rfl fun i hi => by unfold jr; omega), cP_s]
    rw [m235v (n0 := 0 + 11 + 4) (len := 4) hk rfl (by omega) (by omega) (by omega) (imV_k rfl fun i hi => by unfold jr; omega), cP_s]
    rw [m235v (n0 := 0 + 11 + 4 + 4) (len := 6) hk rfl (by omega) (by omega) (by omega) (imV_k rfl fun i hi => by unfold jr; omega), cP_s]
    rw [m235v (n0 := 0 + 11 + 4 + 4 + 6) (len := 10) hk rfl (by omega) (by omega) (by omega) (imV_k rfl fun i hi => by unfold jr; omega), cP_s]
    rw [m235v (n0 := 0 + 11 + 4 + 4 + 6 + 10) (len := 10) hk rfl (by omega) (by omega) (by omega) (imV_k rfl fun i hi => by unfold jr; omega), cP_s]
    rw [if_pos (by omega), show (0 + 11 + 4 + 4 + 6 + 10 + 10) = 45 from rfl, bnd, e2, sto_t (by omega) (by omega), show Int.toNat 0 = 0 from rfl, e1, hz]
    rw [m235v (n0 := 45) (len := 1) hk rfl (by omega) (by omega) (by omega) (fun i hi => by
      have : i = 0 := by omega
      subst this
      rw [z2, ← z3]
      exact imV_e (f := 1593) (i := 0) rfl rfl), cP_s]
    rw [ld_t (by omega) (by omega), bnd, st2_id (by rw [SVs_o (by omega) (by omega) (by omega), SVs_o (by omega) (by omega) (by omega), show Int.toNat 0 = 0 from rfl, z2, z3])]
    rw [m235v (n0 := 45 + 1) (len := 6) hk rfl (by omega) (by omega) (by omega) (imV_k rfl fun i hi => by unfold jr; omega), cP_s]
    rw [m235v (n0 := 45 + 1 + 6) (len := 6) hk rfl (by omega) (by omega) (by omega) (imV_k rfl fun i hi => by unfold jr; omega), cP_s]
    rw [m235v (n0 := 45 + 1 + 6 + 6) (len := 6) hk rfl (by omega) (by omega) (by omega) (imV_k rfl fun i hi => by unfold jr; omega), cP_s]
    rw [m235v (n0 := 45 + 1 + 6 + 6 + 6) (len := 6) hk rfl (by omega) (by omega) (by omega) (imV_k rfl fun i hi => by unfold jr; omega), cP_s]
    rw [m235v (n0 := 45 + 1 + 6 + 6 + 6 + 6) (len := 10) hk rfl (by omega) (by omega) (by omega) (imV_k rfl fun i hi => by unfold jr; omega), cP_s]
    rw [m235v (n0 := 45 + 1 + 6 + 6 + 6 + 6 + 10) (len := 10) hk rfl (by omega) (by omega) (by omega) (imV_k rfl fun i hi => by unfold jr; omega), cP_s]
    rw [m235v (n0 := 45 + 1 + 6 + 6 + 6 + 6 + 10 + 10) (len := 3) hk rfl (by omega) (by omega) (by omega) (imV_k rfl fun i hi => by unfold jr; omega), cP_s]
    rw [m235v (n0 := 45 + 1 + 6 + 6 + 6 + 6 + 10 + 10 + 3) (len := 3) hk rfl (by omega) (by omega) (by omega) (imV_k rfl fun i hi => by unfold jr; omega), cP_s]
    rw [m235v (n0 := 45 + 1 + 6 + 6 + 6 + 6 + 10 + 10 + 3 + 3) (len := 10) hk rfl (by omega) (by omega) (by omega) (imV_k rfl fun i hi => by unfold jr; omega), cP_s]
    rw [m235v (n0 := 45 + 1 + 6 + 6 + 6 + 6 + 10 + 10 + 3 + 3 + 10) (len := 10) hk rfl (by omega) (by omega) (by omega) (imV_k rfl fun i hi => by unfold jr; omega), cP_s]
    rw [m235v (n0 := 45 + 1 + 6 + 6 + 6 + 6 + 10 + 10 + 3 + 3 + 10 + 10) (len := 10) hk rfl (by omega) (by omega) (by omega) (imV_k rfl fun i hi => by unfold jr; omega), cP_s]
    rw [m235v (n0 := 45 + 1 + 6 + 6 + 6 + 6 + 10 + 10 + 3 + 3 + 10 + 10 + 10) (len := 4) hk rfl (by omega) (by omega) (by omega) (imV_k rfl fun i hi => by unfold jr; omega), cP_s]
    rw [m235v (n0 := 45 + 1 + 6 + 6 + 6 + 6 + 10 + 10 + 3 + 3 + 10 + 10 + 10 + 4) (len := 10) hk rfl (by omega) (by omega) (by omega) (imV_k rfl fun i hi => by unfold jr; omega), cP_s]
    rw [m235v (n0 := 45 + 1 + 6 + 6 + 6 + 6 + 10 + 10 + 3 + 3 + 10 + 10 + 10 + 4 + 10) (len := 10) hk rfl (by omega) (by omega) (by omega) (imV_k rfl fun i hi => by unfold jr; omega), cP_s]
    rw [m235v (n0 := 45 + 1 + 6 + 6 + 6 + 6 + 10 + 10 + 3 + 3 + 10 + 10 + 10 + 4 + 10 + 10) (len := 720) hk rfl (by omega) (by omega) (by omega) (imV_k rfl fun i hi => by unfold jr; omega), cP_s]
  · have hb := offJ_bd hr
    show SVs z k 870 1606 0 (1100 * k + offJ f + i) = s f 0 i
    unfold SVs
    rw [if_neg (by omega), if_neg (by omega), if_pos (by omega), imV_e (f := f) (i := i) (by rw [show 1100 * k + offJ f + i - 1100 * k = offJ f + i by omega]; exact gJ_jr hr) (by omega), zo _ _ (by unfold jr at hr; omega)]
  · unfold SVs
    rw [if_neg (by omega), if_neg (by omega), if_neg (by omega), zo _ _ (by omega)]
  · funext q
    rw [SVs_o (by omega) (by omega) (by omega), zo _ _ (by omega)]
