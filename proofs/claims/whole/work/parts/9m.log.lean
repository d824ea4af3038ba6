def pLg (f i : Nat) : Bool := ((Nat.ble 1029 f && Nat.ble f 1034) || Nat.beq f 1537 || (Nat.ble 1551 f && Nat.ble f 1553)) && Nat.beq i 0
theorem pLg_f {f i : Nat} : pLg f i = false ↔ ¬ (((1029 ≤ f ∧ f ≤ 1034) ∨ f = 1537 ∨ (1551 ≤ f ∧ f ≤ 1553)) ∧ i = 0) := by
  rw [← Bool.not_eq_true]
  unfold pLg
  simp only [Bool.or_eq_true, Bool.and_eq_true, Nat.beq_eq, Nat.ble_eq]
  omega
theorem pLg_k {f i : Nat} (h : pAct f i = false) : pLg f i = false := by
  have := pAct_f.mp h
  exact pLg_f.mpr (by omega)
theorem Inv.off {s s2 : S2} (h : Inv s) (e : Fr pLg s s2) (h4 : ∀ k, k < 8 → s2 1537 0 k = s 1537 0 k) (hl : ∀ R K, BK s R K → IW R s 0 (live s) → IWl (cw s 0) (uw s2 0) (live s2)) (hf : ∀ R K, BK s R K → IW R s 0 (live s) → IWf R (uw s2 0) (live s2)) : Inv s2 := by
  have h9 : s 1589 0 0 = 0 := by obtain ⟨_, _, _, _, _, _, _, q⟩ := h; exact q
  refine h.act (e.mo fun f i w => pLg_k w) (fun i hi => by rw [e _ _ (pLg_f.mpr (by omega))]) (by rw [e _ _ (pLg_f.mpr (by omega))]; exact h9) (fun R K hB hW => ?_)
  exact hW.off e (fun f g1 g2 => pLg_f.mpr (by omega)) (fun f i g1 g2 _ => pLg_f.mpr (by omega)) ⟨pLg_f.mpr (by omega), pLg_f.mpr (by omega)⟩ h4 (fun f g1 g2 => pLg_f.mpr (by omega)) (fun f g1 g2 => pLg_f.mpr (by omega)) ⟨pLg_f.mpr (by omega), pLg_f.mpr (by omega)⟩ (hl R K hB hW) (hf R K hB hW)
theorem call_force {s : S2} {a : Int} (h : Inv s) (ia : i32 a) : ∃ r s1 s2, f71 a s = some (r, s1) ∧ f196 a s1 = some (r, s2) ∧ Inv s2 := by
  obtain ⟨R, K, hB, hW, hR⟩ := h.rel
  obtain ⟨q1, q2, q3, q4, q5, q6⟩ := hW.2.2.2.2
  rw [uw1 (by omega), live_t (by unfold jr; omega)] at q1
  rw [uw1 (by omega)] at q2 q3
  have hR6 := hB.2.2.1
  have n1 := hB.1
  have n2 := hB.2.1
  have ja : ji2l a = a := by unfold i32 at ia; exact ji2l_e (by omega) (by omega)
  have jR : ji2l (jsub (s 1573 0 0) 1) = (R : Int) - 1 := by rw [n2, jsub_e (by omega) (by omega), ji2l_e (by omega) (by omega)]
  by_cases ha : -1 ≤ a ∧ a < R
  · refine ⟨s 1033 0 0, st2 s 1033 0 0 a, st2 (st2 s 1033 0 0 a) 1537 0 10 a, ?_, ?_, ?_⟩
    · unfold f71
      simp only [jn, bnd]
      by_cases e : a = -1
      · rw [if_pos e]
      · rw [if_neg e, m72, cP_s, if_pos (show (if 0 ≤ a ∧ a < s 898 0 0 ∧ a < 6 then (1 : Int) else 0) ≠ 0 by rw [if_pos (by omega)]; decide)]
    · unfold f196
      rw [st2_ne (f' := 1573) (by omega), bnd, ja, jR, m173t (by omega), cP_s, if_pos ne10, ld_t (by omega) (by omega), sto_t (by omega) (by omega)]
      show some (st2 s 1033 0 0 a 1537 0 10, _) = some (s 1033 0 0, _)
      rw [st2_ne (by omega), q1]
      rfl
    · refine h.off ((Fr.rf.st rfl).st rfl) (fun k hk => by rw [st2_ne (by omega), st2_ne (by omega)]) (fun R K hB hW => ?_) (fun R' K' hB' hW' => ?_)
      · exact hW.2.2.2.1.e (fun f g1 g2 => uw_row (by funext k; rw [st2_ne (by omega), st2_ne (by omega)])) (fun f g1 g2 => live_row (by funext k; rw [st2_ne (by omega), st2_ne (by omega)])) (by rw [live_t (by unfold jr; omega), live_t (by unfold jr; omega), st2_ne (by omega), st2_ne (by omega)])
      · have eR : (R' : Int) = R := by rw [← hB'.1, n1]
        obtain ⟨-, -, -, q4, q5, q6⟩ := hW'.2.2.2.2
        rw [uw1 (by omega)] at q4 q5 q6
        rw [live_t (by unfold jr; omega)] at q4
        unfold IWf
        rw [uw1 (by omega), uw1 (by omega), live_t (by unfold jr; omega), live_t (by unfold jr; omega), st2_ne (f' := 1034) (by omega), st2_ne (f' := 1034) (by omega), st2_ne (f' := 1033) (by omega), st2_eq, st2_eq, st2_ne (by omega), st2_ne (by omega)]
        exact ⟨rfl, ha.1, by omega, q4, q5, q6⟩
  · refine ⟨-2, s, s, ?_, ?_, h⟩
    · unfold f71
      simp only [jn, bnd]
      rw [if_neg (by omega), m72, cP_s, if_neg (show ¬ (if 0 ≤ a ∧ a < s 898 0 0 ∧ a < 6 then (1 : Int) else 0) ≠ 0 by rw [if_neg (by omega)]; decide)]
    · unfold f196
      rw [bnd, ja, jR, m173f (by omega), cP_s, if_neg (by decide)]
def logP (C : V2) (n : Nat) (a b c : Int) : Prop := (0 ≤ a ∧ a ≤ 60) ∧ (0 ≤ b ∧ b < C 388 0) ∧ (c = -1 ∨ (0 ≤ c ∧ c < C 387 0)) ∧ n < 10
theorem c137 {s : S2} {C : V2} {n : Nat} {a b c : Int} (hC : CB C) (h1 : cw s 0 = C) (hn : s 1032 0 0 = n) (ha : a ≠ -1) : (logP C n a b c → f137 a b c s = some ((n : Int) + 1, st2 (st2 (st2 (st2 s 1029 0 n a) 1030 0 n b) 1031 0 n c) 1032 0 0 ((n : Int) + 1))) ∧ (¬ logP C n a b c → f137 a b c s = some (-2, s)) := by
  obtain ⟨e1, e2, e3⟩ := cw0f h1
  have hcc := hC.1
  have e50 : f50 0 b s = some (if 0 ≤ b ∧ b < C 388 0 then 1 else 0) := by
    rw [m50, e2]
    by_cases q : 0 ≤ b ∧ b < C 388 0
    · rw [if_pos (by omega), if_pos q]
    · rw [if_neg (by omega), if_neg q]
  have e51 : f51 0 c s = some (if 0 ≤ c ∧ c < C 387 0 then 1 else 0) := by
    rw [m51, e1]
    by_cases q : 0 ≤ c ∧ c < C 387 0
    · rw [if_pos (by omega), if_pos q]
    · rw [if_neg (by omega), if_neg q]
  have e138 : n < 10 → f138 0 a b c s = some (st2 (st2 (st2 (st2 s 1029 0 n a) 1030 0 n b) 1031 0 n c) 1032 0 0 ((n : Int) + 1)) := fun g => by
    unfold f138
    simp only [bnd]
    rw [hn, if_neg (by omega), if_neg (by omega), sto_t (by omega) (by omega), Int.toNat_natCast, st2_ne (f' := 1032) (by omega), hn, sto_t (by omega) (by omega), Int.toNat_natCast, st2_ne (f' := 1032) (by omega), st2_ne (f' := 1032) (by omega), hn, sto_t (by omega) (by omega), Int.toNat_natCast, st2_ne (f' := 1032) (by omega), st2_ne (f' := 1032) (by omega), st2_ne (f' := 1032) (by omega), hn, jadd_e (by omega) (by omega)]
  unfold f137
  rw [if_pos ha]
  simp only [jn, bnd]
  unfold logP
  constructor
  · rintro ⟨g1, g2, g3, g4⟩
    have k : (if a < 0 then some (-2, s) else if 60 < a then some (-2, s) else cP (f50 0 b s) fun r2 => if r2 = 0 then some (-2, s) else if (1 : Int) = 0 then some (-2, s) else if s 1032 0 0 < 10 then cP (f138 0 a b c s) fun s4 => some (s4 1032 0 0, s4) else some (-2, s)) = some ((n : Int) + 1, st2 (st2 (st2 (st2 s 1029 0 n a) 1030 0 n b) 1031 0 n c) 1032 0 0 ((n : Int) + 1)) := by
      rw [if_neg (by omega), if_neg (by omega), e50, cP_s, if_pos g2, if_neg ne10, if_neg ne10, hn, if_pos (by omega), e138 g4, cP_s, st2_eq]
    by_cases q : c = -1
    · rw [if_pos q]
      exact k
    · rw [if_neg q, e51, cP_s, if_pos (show 0 ≤ c ∧ c < C 387 0 by omega), if_neg ne10]
      exact k
  · intro hno
    have k : ∀ x : Int, (x = 0 ∨ ¬ (0 ≤ a ∧ a ≤ 60 ∧ 0 ≤ b ∧ b < C 388 0 ∧ n < 10)) → (if a < 0 then some (-2, s) else if 60 < a then some (-2, s) else cP (f50 0 b s) fun r2 => if r2 = 0 then some (-2, s) else if x = 0 then some (-2, s) else if s 1032 0 0 < 10 then cP (f138 0 a b c s) fun s4 => some (s4 1032 0 0, s4) else some (-2, s)) = some (-2, s) := by
      intro x hx
      by_cases q1 : a < 0
      · rw [if_pos q1]
      · rw [if_neg q1]
        by_cases q2 : 60 < a
        · rw [if_pos q2]
        · rw [if_neg q2, e50, cP_s]
          by_cases q3 : 0 ≤ b ∧ b < C 388 0
          · rw [if_pos q3, if_neg ne10]
            by_cases q4 : x = 0
            · rw [if_pos q4]
            · rw [if_neg q4, hn, if_neg (by omega)]
          · rw [if_neg q3, if_pos rfl]
    by_cases q : c = -1
    · rw [if_pos q]
      exact k 1 (by omega)
    · rw [if_neg q, e51, cP_s]
      by_cases q2 : 0 ≤ c ∧ c < C 387 0
      · rw [if_pos q2, if_neg ne10]
        exact k 1 (by omega)
      · rw [if_neg q2, if_pos rfl]
        exact k 0 (by omega)
theorem c258 {s : S2} {C : V2} {n : Nat} {a b c : Int} (hC : CB C) (hR : CR C s) (hn : s 1537 0 8 = n) (n10 : n ≤ 10) (ia : i32 a) (ib : i32 b) (ic : i32 c) (ha : a ≠ -1) : (logP C n a b c → f258 a b c s = some ((n : Int) + 1, st2 (st2 (st2 (st2 s 1551 0 n a) 1552 0 n b) 1553 0 n c) 1537 0 8 ((n : Int) + 1))) ∧ (¬ logP C n a b c → f258 a b c s = some (-2, s)) := by
  have ja : ji2l a = a := by unfold i32 at ia; exact ji2l_e (by omega) (by omega)
  have h8 : s 1537 0 (Int.toNat 8) = n := hn
  unfold f258
  rw [if_pos ha, ld_t (by omega) (by omega), h8, ja]
  simp only [jn, bnd]
  unfold logP
  constructor
  · rintro ⟨g1, g2, g3, g4⟩
    have k : (if ¬ (n : Int) = 10 then (sto s 1551 0 10 n a fun s4 => sto s4 1552 0 10 n b fun s5 => sto s5 1553 0 10 n c fun s6 => ld s6 1537 0 11 8 fun v7 => sto s6 1537 0 11 8 (jadd v7 1) fun s8 => some (jadd n 1, s8)) else some ((-2), s)) = some ((n : Int) + 1, st2 (st2 (st2 (st2 s 1551 0 n a) 1552 0 n b) 1553 0 n c) 1537 0 8 ((n : Int) + 1)) := by
      rw [if_pos (by omega), sto_t (by omega) (by omega), Int.toNat_natCast, sto_t (by omega) (by omega), Int.toNat_natCast, sto_t (by omega) (by omega), Int.toNat_natCast, ld_t (by omega) (by omega), st2_ne (f' := 1537) (by omega), st2_ne (f' := 1537) (by omega), st2_ne (f' := 1537) (by omega), h8, sto_t (by omega) (by omega), jadd_e (by omega) (by omega)]
      rfl
    rw [m173t g1, cP_s, if_neg ne10, m210 hC hR ib, cP_s, if_pos g2, if_neg ne10]
    by_cases q : c = -1
    · rw [if_pos q]
      exact k
    · rw [if_neg q, m198 hC hR ic, cP_s, if_pos (show 0 ≤ c ∧ c < C 387 0 by omega), if_neg ne10]
      exact k
  · intro hno
    by_cases q1 : 0 ≤ a ∧ a ≤ 60
    · rw [m173t q1, cP_s, if_neg ne10, m210 hC hR ib, cP_s]
      by_cases q2 : 0 ≤ b ∧ b < C 388 0
      · rw [if_pos q2, if_neg ne10]
        by_cases q : c = -1
        · rw [if_pos q, if_neg (by omega)]
        · rw [if_neg q, m198 hC hR ic, cP_s]
          by_cases q3 : 0 ≤ c ∧ c < C 387 0
          · rw [if_pos q3, if_neg ne10, if_neg (by omega)]
          · rw [if_neg q3, if_pos rfl]
      · rw [if_neg q2, if_pos rfl]
    · rw [m173f q1, cP_s, if_pos rfl]
theorem call_log {s : S2} {a b c : Int} (h : Inv s) (ia : i32 a) (ib : i32 b) (ic : i32 c) : ∃ r s1 s2, f137 a b c s = some (r, s1) ∧ f258 a b c s1 = some (r, s2) ∧ Inv s2 := by
  obtain ⟨R, K, hB, hW, hR⟩ := h.rel
  have hC := hR.2.2.1
  have hM := hR.2.2.2.2.2.2.2
  have hcc := hC.1
  obtain ⟨n, l1, l2, l3, l4⟩ := hW.2.2.2.1
  rw [uw1 (by omega)] at l2
  rw [live_t (by unfold jr; omega)] at l3
  by_cases ha : a = -1
  · refine ⟨0, st2 s 1032 0 0 0, st2 (st2 s 1032 0 0 0) 1537 0 8 0, ?_, ?_, ?_⟩
    · unfold f137
      rw [if_neg (fun w => w ha), bnd]
    · unfold f258
      rw [if_neg (fun w => w ha), sto_t (by omega) (by omega)]
      rfl
    · refine h.off ((Fr.rf.st rfl).st rfl) (fun k hk => by rw [st2_ne (by omega), st2_ne (by omega)]) (fun R K hB hW => ?_) (fun R K hB hW => ?_)
      · refine ⟨0, by omega, ?_, ?_, fun i hi => absurd hi (by omega)⟩
        · rw [uw1 (by omega), st2_ne (by omega), st2_eq]; rfl
        · rw [live_t (by unfold jr; omega), st2_eq]; rfl
      · refine hW.2.2.2.2.e (uw_row (by funext k; rw [st2_ne (by omega), st2_ne (by omega)])) (uw_row (by funext k; rw [st2_ne (by omega), st2_ne (by omega)])) ?_ ?_
        · rw [live_t (by unfold jr; omega), live_t (by unfold jr; omega), st2_ne (by omega), st2_ne (by omega)]
        · rw [live_t (by unfold jr; omega), live_t (by unfold jr; omega), st2_ne (by omega), st2_ne (by omega)]
  · by_cases hg : logP (cw s 0) n a b c
    · have hg' := hg
      obtain ⟨g1, g2, g3, g4⟩ := hg'
      refine ⟨_, _, _, (c137 hC rfl l2 ha).1 hg, (c258 (n := n) hC (hM.1.exu (fun k hk => by simp only [st2_d]; rw [if_neg (by omega), if_neg (by omega), if_neg (by omega), if_neg (by omega)]) (fun f w1 w2 w3 w4 => by funext k; simp only [st2_d]; rw [if_neg (by omega), if_neg (by omega), if_neg (by omega), if_neg (by omega)])) (by simp only [st2_d]; rw [if_neg (by omega), if_neg (by omega), if_neg (by omega), if_neg (by omega)]; exact l3) l1 ia ib ic ha).1 hg, ?_⟩
      refine h.off ((((((((Fr.rf.st rfl).st rfl).st rfl).st rfl).st rfl).st rfl).st rfl).st rfl) (fun k hk => ?_) (fun R K hB hW => ?_) (fun R K hB hW => ?_)
      · simp only [st2_d]
        iterate 8 rw [if_neg (by omega)]
      · refine ⟨n + 1, by omega, ?_, ?_, fun i hi => ?_⟩
        · rw [uw1 (by omega)]
          simp only [st2_d]
          iterate 4 rw [if_neg (by omega)]
          rw [if_pos (by simp)]
          omega
        · rw [live_t (by unfold jr; omega)]
          simp only [st2_d]
          rw [if_pos (by simp)]
          omega
        · rw [uw10 (by omega) (by omega) (by omega), uw10 (by omega) (by omega) (by omega), uw10 (by omega) (by omega) (by omega), live_t (by unfold jr; omega), live_t (by unfold jr; omega), live_t (by unfold jr; omega)]
          by_cases e : i = n
          · subst e
            simp only [st2_d]
            simp
            omega
          · have := l4 i (by omega)
            rw [uw10 (by omega) (by omega) (by omega), uw10 (by omega) (by omega) (by omega), uw10 (by omega) (by omega) (by omega), live_t (by unfold jr; omega), live_t (by unfold jr; omega), live_t (by unfold jr; omega)] at this
            simp only [st2_d, e, and_false, if_false]
            simp only [show ∀ p : Prop, (1029 = 1032 ∧ p) = False from fun p => by simp]
            simp
            exact this
      · refine hW.2.2.2.2.e (uw_row (by funext k; simp only [st2_d]; iterate 8 rw [if_neg (by omega)])) (uw_row (by funext k; simp only [st2_d]; iterate 8 rw [if_neg (by omega)])) ?_ ?_
        · rw [live_t (by unfold jr; omega), live_t (by unfold jr; omega)]
          simp only [st2_d]
          iterate 8 rw [if_neg (by omega)]
        · rw [live_t (by unfold jr; omega), live_t (by unfold jr; omega)]
          simp only [st2_d]
          iterate 8 rw [if_neg (by omega)]
    · exact ⟨_, _, _, (c137 hC rfl l2 ha).2 hg, (c258 hC hM.1 l3 l1 ia ib ic ha).2 hg, h⟩
