/-- row m laid back into the live yard, n numbers of it -/
def RBs (s0 : S2) (m n : Nat) : S2 := fun f i k => if i = 0 ∧ cellN f k < n then s0 1591 0 (36 * m + cellN f k) else if f = 1594 ∧ i = 0 ∧ k = 0 then ((36 * m + n : Nat) : Int) else if f = 1595 ∧ i = 0 ∧ k = 0 then 1 else s0 f i k
theorem cellN_o {f k : Nat} (h : ¬ (f = 1537 ∨ f = 1538 ∨ f = 1539 ∨ f = 1544 ∨ f = 1547 ∨ f = 1548)) : cellN f k = 36 := by
  unfold cellN
  iterate 6 rw [if_neg (by omega)]
theorem RBs_a {s0 : S2} {m n : Nat} (hn : n ≤ 36) : RBs s0 m n 1594 0 0 = ((36 * m + n : Nat) : Int) := by
  unfold RBs
  rw [cellN_o (by omega), if_neg (by omega), if_pos ⟨rfl, rfl, rfl⟩]
theorem RBs_b {s0 : S2} {m n : Nat} (hn : n ≤ 36) : RBs s0 m n 1595 0 0 = 1 := by
  unfold RBs
  rw [cellN_o (by omega), if_neg (by omega), if_neg (by omega), if_pos ⟨rfl, rfl, rfl⟩]
theorem RBs_c {s0 : S2} {m n i k : Nat} (hn : n ≤ 36) : RBs s0 m n 1591 i k = s0 1591 i k := by
  unfold RBs
  rw [cellN_o (by omega), if_neg (by omega), if_neg (by omega), if_neg (by omega)]
theorem RBs_s {s0 : S2} {m n : Nat} (hn : n < 36) : st2 (st2 (RBs s0 m n) 1594 0 0 ((36 * m + (n + 1) : Nat) : Int)) (cellF n) 0 (cellK n) (s0 1591 0 (36 * m + n)) = RBs s0 m (n + 1) := by
  funext f i k
  simp only [st2_d]
  unfold RBs
  have hc := cellN_e (f := f) (k := k) hn
  by_cases h1 : f = cellF n ∧ i = 0 ∧ k = cellK n
  · have h2 := hc.mpr ⟨h1.1, h1.2.2⟩
    rw [if_pos h1, if_pos ⟨h1.2.1, by omega⟩, h2]
  · rw [if_neg h1]
    have h3 : ¬ (i = 0 ∧ cellN f k = n) := fun w => h1 ⟨(hc.mp w.2).1, w.1, (hc.mp w.2).2⟩
    by_cases h4 : f = 1594 ∧ i = 0 ∧ k = 0
    · have := cellN_o (f := f) (k := k) (by omega)
      rw [if_pos h4, if_neg (by omega), if_pos h4]
    · rw [if_neg h4, if_neg h4]
      by_cases h5 : i = 0 ∧ cellN f k < n
      · rw [if_pos h5, if_pos ⟨h5.1, by omega⟩]
      · rw [if_neg h5, if_neg h4, if_neg (show ¬ (i = 0 ∧ cellN f k < n + 1) by omega)]
theorem m217b {s0 : S2} {m n : Nat} {a : Int} (h : 36 * m + n < 720) (hn : n < 36) : f217 a (RBs s0 m n) = some (s0 1591 0 (36 * m + n), st2 (RBs s0 m n) 1594 0 0 ((36 * m + (n + 1) : Nat) : Int)) := by
  unfold f217
  simp only [jn, bnd]
  rw [RBs_b (by omega), if_neg (by decide), RBs_a (by omega), ld_t (by omega) (by omega), Int.toNat_natCast, RBs_c (by omega), sto_t (by omega) (by omega), Int.toNat_natCast, st2_id (RBs_c (by omega)), RBs_a (by omega), jadd_e (by omega) (by omega), show ((36 * m + n : Nat) : Int) + 1 = ((36 * m + (n + 1) : Nat) : Int) by omega]
theorem m218b {s0 : S2} {y m n0 len : Nat} (hl : am_ln y = len) (hlen : len ≤ 10) (h : 36 * m + n0 + len ≤ 720) (hn : n0 + len ≤ 36) (hr : ∀ i, i < len → cellF (n0 + i) = y ∧ cellK (n0 + i) = i) : f218 y (RBs s0 m n0) = some (RBs s0 m (n0 + len)) := by
  unfold f218
  refine seq_cP (fun i => ((i : Int), RBs s0 m (n0 + i))) len _ rfl (by omega) ?_ ?_ rfl
  · intro i hi
    show f218_a y _ _ = _
    unfold f218_a
    have hs := RBs_s (s0 := s0) (m := m) (n := n0 + i) (by omega)
    rw [(hr i hi).1, (hr i hi).2] at hs
    rw [hl, if_neg (by omega), ld_t (by omega) (by omega), m217b (by omega) (by omega), cR_s, sto_t (by omega) (by omega), Int.toNat_natCast, hs, bnd, jadd_e (by omega) (by omega)]
    rfl
  · show f218_a y _ _ = _
    unfold f218_a
    rw [hl, if_pos (by omega)]
theorem cF_2 {k : Nat} (h : k < 4) : cellF (2 + k) = 1538 ∧ cellK (2 + k) = k := by unfold cellF cellK; grind (splits := 30)
theorem cF_3 {k : Nat} (h : k < 4) : cellF (6 + k) = 1539 ∧ cellK (6 + k) = k := by unfold cellF cellK; grind (splits := 30)
theorem cF_4 {k : Nat} (h : k < 6) : cellF (10 + k) = 1544 ∧ cellK (10 + k) = k := by unfold cellF cellK; grind (splits := 30)
theorem cF_5 {k : Nat} (h : k < 10) : cellF (16 + k) = 1547 ∧ cellK (16 + k) = k := by unfold cellF cellK; grind (splits := 30)
theorem cF_6 {k : Nat} (h : k < 10) : cellF (26 + k) = 1548 ∧ cellK (26 + k) = k := by unfold cellF cellK; grind (splits := 30)
theorem m216b {s : S2} {m : Nat} (h : m < 20) : f216 m 1 s = some (RBs s m 36) := by
  have e0 : st2 (st2 s 1594 0 0 ((36 * m : Nat) : Int)) 1595 0 0 1 = RBs s m 0 := by
    funext f i k
    simp only [st2_d]
    unfold RBs
    rw [if_neg (show ¬ (i = 0 ∧ cellN f k < 0) by omega)]
    by_cases h1 : f = 1595 ∧ i = 0 ∧ k = 0
    · rw [if_pos h1, if_neg (by omega), if_pos h1]
    · rw [if_neg h1, if_neg h1]
      rfl
  have s0 := RBs_s (s0 := s) (m := m) (n := 0) (by omega)
  have s1 := RBs_s (s0 := s) (m := m) (n := 0 + 1) (by omega)
  unfold f216
  rw [jmul_e (by omega) (by omega), show (36 * (m : Int)) = ((36 * m : Nat) : Int) by omega, bnd, gd_t (Or.inr rfl), bnd, e0, ld_t (by omega) (by omega), m217b (by omega) (by omega), cR_s, sto_t (by omega) (by omega)]
  rw [show st2 (st2 (RBs s m 0) 1594 0 0 ((36 * m + (0 + 1) : Nat) : Int)) 1537 0 (Int.toNat 6) (s 1591 0 (36 * m + 0)) = RBs s m (0 + 1) from s0, ld_t (by omega) (by omega), m217b (by omega) (by omega), cR_s, sto_t (by omega) (by omega)]
  rw [show st2 (st2 (RBs s m (0 + 1)) 1594 0 0 ((36 * m + (0 + 1 + 1) : Nat) : Int)) 1537 0 (Int.toNat 7) (s 1591 0 (36 * m + (0 + 1))) = RBs s m (0 + 1 + 1) from s1]
  rw [m218b (n0 := 0 + 1 + 1) ln_1538 (by omega) (by omega) (by omega) (fun i hi => cF_2 hi), cP_s, m218b (n0 := 0 + 1 + 1 + 4) ln_1539 (by omega) (by omega) (by omega) (fun i hi => cF_3 hi), cP_s, m218b (n0 := 0 + 1 + 1 + 4 + 4) ln_1544 (by omega) (by omega) (by omega) (fun i hi => cF_4 hi), cP_s, m218b (n0 := 0 + 1 + 1 + 4 + 4 + 6) ln_1547 (by omega) (by omega) (by omega) (fun i hi => cF_5 hi), cP_s, m218b (n0 := 0 + 1 + 1 + 4 + 4 + 6 + 10) ln_1548 (by omega) (by omega) (by omega) (fun i hi => cF_6 hi), cP_s]
theorem rowB {s : S2} {m i : Nat} (h : i < 36) : rowA (RBs s m 36) i = s 1591 0 (36 * m + i) := by
  have := (cellN_e (f := cellF i) (k := cellK i) h).mpr ⟨rfl, rfl⟩
  unfold rowA RBs
  rw [if_pos ⟨rfl, by omega⟩, this]
/-- the model keeps a past -/
def pRm (f i : Nat) : Bool := Nat.ble 1591 f && Nat.ble f 1595 && Nat.beq i 0
theorem pRm_f {f i : Nat} : pRm f i = false ↔ ¬ (1591 ≤ f ∧ f ≤ 1595 ∧ i = 0) := by
  rw [← Bool.not_eq_true]
  unfold pRm
  simp only [Bool.and_eq_true, Nat.beq_eq, Nat.ble_eq]
  omega
def KM (s s' : S2) : Prop := ∃ m : Nat, m ≤ 20 ∧ s 1593 0 0 = m ∧ s' 1593 0 0 = ((min 20 (m + 1) : Nat) : Int) ∧ ∀ j, j < min 20 (m + 1) → ∀ i, i < 36 → s' 1591 0 (36 * j + i) = if j + 1 = min 20 (m + 1) then rowA s i else if m = 20 then s 1591 0 (36 * (j + 1) + i) else s 1591 0 (36 * j + i)
def shS (s : S2) (n : Nat) : S2 := fun f i k => if f = 1591 ∧ i = 0 ∧ k < n then s 1591 0 (k + 36) else s f i k
theorem shS_s {s : S2} {n : Nat} : st2 (shS s n) 1591 0 n (s 1591 0 (n + 36)) = shS s (n + 1) := by
  funext f i k
  simp only [st2_d]
  unfold shS
  by_cases h1 : f = 1591 ∧ i = 0 ∧ k = n
  · rw [if_pos h1, if_pos (by omega), h1.2.2]
  · rw [if_neg h1]
    by_cases h2 : f = 1591 ∧ i = 0 ∧ k < n
    · rw [if_pos h2, if_pos (by omega)]
    · rw [if_neg h2, if_neg (by omega)]
theorem m221s {β : Type} {s : S2} {k : S2 → Option β} : cP (itr (fun (x7, s8) => f221_a x7 s8) am_fu (36, s)) k = k (shS s 684) := by
  refine seq_cP (fun i => ((36 + i : Nat), shS s i)) 684 (shS s 684) (show ((36 : Int), shS s 0) = _ from ?_) (by omega) ?_ ?_ rfl
  · have : shS s 0 = s := by
      funext f i k
      unfold shS
      rw [if_neg (by omega)]
    rw [this]
  · intro i hi
    show f221_a _ _ = _
    unfold f221_a
    rw [if_neg (by omega), ld_t (by omega) (by omega), Int.toNat_natCast, show shS s i 1591 0 (36 + i) = s 1591 0 (i + 36) by unfold shS; rw [if_neg (by omega), Nat.add_comm], jsub_e (by omega) (by omega), sto_t (by omega) (by omega), show (((36 + i : Nat) : Int) - 36).toNat = i by omega, shS_s, bnd, jadd_e (by omega) (by omega)]
    rfl
  · show f221_a _ _ = _
    unfold f221_a
    rw [if_pos (by omega)]
theorem m221 {s : S2} {m : Nat} (hm : s 1593 0 0 = m) (m20 : m ≤ 20) : ∃ s', f221 s = some s' ∧ KM s s' ∧ Fr pRm s s' := by
  unfold f221
  simp only [jn, bnd]
  have fA : ∀ (z : S2) (q : Nat), Fr pRm s z → Fr pRm s (RAs z q 36) := fun z q h f i w => by
    have hw := pRm_f.mp w
    rw [← h f i w]
    funext k
    unfold RAs
    rw [if_neg (by omega), if_neg (by omega), if_neg (by omega)]
  by_cases e : m = 20
  · subst e
    rw [if_neg (show ¬ ¬ s 1593 0 0 = 20 from fun w => w hm), m221s]
    have h1 : shS s 684 1593 0 0 = ((20 : Nat) : Int) := by
      unfold shS
      rw [if_neg (by omega)]
      exact hm
    have h2 : jsub (shS s 684 1593 0 0) 1 = ((19 : Nat) : Int) := by rw [h1]; exact jsub_e (by omega) (by omega)
    rw [h2, st2_eq, m216a (by omega), cP_s]
    generalize hz : st2 (shS s 684) 1593 0 0 ((19 : Nat) : Int) = z
    have z1 : z 1593 0 0 = ((19 : Nat) : Int) := by rw [← hz, st2_eq]
    have fz : Fr pRm s z := by
      intro f i w
      have hw := pRm_f.mp w
      rw [← hz]
      funext k
      rw [st2_ne (by omega)]
      unfold shS
      rw [if_neg (by omega)]
    have zk : ∀ k, k < 684 → z 1591 0 k = s 1591 0 (k + 36) := fun k hk => by
      rw [← hz, st2_ne (by omega)]
      unfold shS
      rw [if_pos ⟨rfl, rfl, hk⟩]
    have zr : ∀ i, rowA z i = rowA s i := fun i => by
      unfold rowA
      rw [fz _ _ (pRm_f.mpr (by unfold cellF; grind (splits := 20)))]
    have e1 : jadd (RAs z 19 36 1593 0 0) 1 = ((20 : Nat) : Int) := by
      rw [RAs_o (by omega) (by omega) (by omega), z1]
      exact jadd_e (by omega) (by omega)
    rw [e1]
    refine ⟨_, rfl, ⟨20, by omega, hm, by rw [st2_eq]; rfl, fun j hj i hi => ?_⟩, (fA z 19 fz).st rfl⟩
    rw [st2_ne (by omega)]
    have hj : j < 20 := by omega
    unfold RAs
    by_cases q : j = 19
    · subst q
      rw [if_pos (by omega), if_pos (by omega), show 36 * 19 + i - 36 * 19 = i by omega, zr]
    · rw [if_neg (by omega), if_neg (by omega), if_neg (by omega), if_neg (by omega), if_pos rfl, zk _ (by omega), show 36 * j + i + 36 = 36 * (j + 1) + i by omega]
  · rw [if_pos (show ¬ s 1593 0 0 = 20 by omega), hm, m216a (by omega), cP_s]
    have e1 : jadd (RAs s m 36 1593 0 0) 1 = ((m + 1 : Nat) : Int) := by
      rw [RAs_o (by omega) (by omega) (by omega), hm]
      exact jadd_e (by omega) (by omega)
    rw [e1]
    refine ⟨_, rfl, ⟨m, m20, hm, by rw [st2_eq]; omega, fun j hj i hi => ?_⟩, (fA s m Fr.rf).st rfl⟩
    rw [st2_ne (by omega)]
    unfold RAs
    by_cases q : j = m
    · subst q
      rw [if_pos (by omega), if_pos (by omega), show 36 * j + i - 36 * j = i by omega]
    · rw [if_neg (by omega), if_neg (by omega), if_neg (by omega), if_neg (by omega), if_neg e]
theorem KM.fr {s s' s'' : S2} {P : Nat → Nat → Bool} (h : KM s s') (e : Fr P s' s'') (h1 : P 1591 0 = false) (h2 : P 1593 0 = false) : KM s s'' := by
  unfold KM
  rw [e _ _ h1, e _ _ h2]
  exact h
theorem KM.bk {s0 s s' : S2} {P : Nat → Nat → Bool} (h : KM s s') (e : Fr P s0 s) (h1 : P 1591 0 = false) (h2 : P 1593 0 = false) (h3 : ∀ f, 1537 ≤ f → f ≤ 1548 → P f 0 = false) : KM s0 s' := by
  obtain ⟨m, a1, a2, a3, a4⟩ := h
  have er : ∀ i, rowA s i = rowA s0 i := fun i => by
    unfold rowA
    rw [e _ _ (h3 _ (by unfold cellF; grind (splits := 20)) (by unfold cellF; grind (splits := 20)))]
  refine ⟨m, a1, by rw [← e _ _ h2]; exact a2, a3, fun j hj i hi => ?_⟩
  rw [a4 j hj i hi, er, e _ _ h1]
