/-! THE MODEL'S CLAUSE, whichever -/
def jK (K : Int) : Nat := if K = 274 then 0 else if K = 256 then 1 else if K = 275 then 2 else if K = 257 then 3 else if K = 276 then 4 else if K = 268 then 5 else 6
def kJ (j : Nat) : Nat := [18, 0, 19, 1, 20, 12].getD j 0
theorem kJ_k : ∀ j : Fin 6, wT (kJ j.val) = 2 + j.val ∧ kJ j.val < 21 := by decide
theorem m165 : ∀ j : Fin 6, f165 (j.val : Int) = some (2 + j.val) := by decide
theorem jK_j {K : Int} {j : Nat} (hj : j < 6) : jK K = j ↔ K = 256 + (kJ j : Int) := by
  have : j = 0 ∨ j = 1 ∨ j = 2 ∨ j = 3 ∨ j = 4 ∨ j = 5 := by omega
  unfold jK
  rcases this with rfl | rfl | rfl | rfl | rfl | rfl
  all_goals
    have e0 : kJ 0 = 18 := rfl
    have e1 : kJ 1 = 0 := rfl
    have e2 : kJ 2 = 19 := rfl
    have e3 : kJ 3 = 1 := rfl
    have e4 : kJ 4 = 20 := rfl
    have e5 : kJ 5 = 12 := rfl
    repeat' split
    all_goals omega
theorem jK_6 {K : Int} : jK K ≤ 6 ∧ (jK K = 6 ↔ opK K = false) := by
  unfold jK opK
  rw [decide_eq_false_iff_not]
  repeat' split
  all_goals omega
theorem m162a {t : S2} {n q : Nat} {bs : Nat → Nat} (h : MRd t n bs q) : itr (fun x5 => f162_a x5 t) am_fu 0 = some ((jK (tK n bs q) : Nat) : Int) := by
  have h6 := (jK_6 (K := tK n bs q)).1
  obtain ⟨g1, g2, g3, g4, g5⟩ := h
  have hw : ∀ j : Nat, j < 6 → cP (f165 (j : Int)) (fun r7 => gd (r7 < 23) (cP (f166 r7 t) fun r8 => if ¬ r8 = 0 then (some (.inr (j : Int))) else bnd (jadd (j : Int) 1) fun v9 => some (.inl v9))) = if jK (tK n bs q) = j then some (Sum.inr (j : Int)) else some (.inl ((j + 1 : Nat) : Int)) := fun j hj => by
    obtain ⟨w1, w2⟩ := kJ_k ⟨j, hj⟩
    have w3 := m165 ⟨j, hj⟩
    dsimp only at w1 w2 w3
    have w4 := tK_w (n := n) (q := q) (bs := bs) (i := kJ j) g2 w2
    rw [w1] at w4
    rw [w3, cP_s, gd_t (by omega), m166 g1 g2 g3 g4 g5 (by omega) (by omega), cP_s]
    by_cases y : jK (tK n bs q) = j
    · rw [if_pos y, if_pos (w4.mp ((jK_j hj).mp y)), if_pos ne10]
    · rw [if_neg y, if_neg (fun w => y ((jK_j hj).mpr (w4.mpr w))), if_neg (by decide), bnd, jadd_e (by omega) (by omega)]
      rfl
  refine itr_seq (fun i => (i : Int)) (jK (tK n bs q)) _ ?_ ?_ am_fu (fu_lt (by omega))
  · intro i hi
    show f162_a (i : Int) t = _
    unfold f162_a
    rw [if_neg (by omega), hw i (by omega), if_neg (by omega)]
  · show f162_a _ t = _
    unfold f162_a
    by_cases y : jK (tK n bs q) = 6
    · rw [if_pos (by omega)]
    · rw [if_neg (by omega), hw _ (by omega), if_pos rfl]
theorem m168 {t : S2} {C B : V2} {x : Nat} {K : Int} (hM : MC C B t) (hC : CB C) (ht : C 384 0 = 0 ↔ x = 0) (hx : x ≤ 40) (ho : opK K = true) : f168 (jK K) x t = some (if x = 40 ∨ ¬ hsP K C = true then 1 else 0) := by
  have hcc := hC.1
  have e2 : t 1557 0 (Int.toNat 2) = C 387 0 := hM.1.2.2.1
  have e3 : t 1557 0 (Int.toNat 3) = C 388 0 := hM.1.2.2.2.1
  have e4 : t 1557 0 (Int.toNat 4) = C 389 0 := hM.1.2.2.2.2.1
  have e5 : t 1557 0 (Int.toNat 5) = C 390 0 := hM.1.2.2.2.2.2.1
  unfold f168
  by_cases hx4 : x = 40
  · rw [if_pos (by omega), if_pos (Or.inl hx4)]
  · have F1 : hsP K C = false → some (1 : Int) = some (if x = 40 ∨ ¬ hsP K C = true then (1 : Int) else 0) := fun w => by
      rw [if_pos (Or.inr (by rw [w]; decide))]
    have F0 : hsP K C = true → some (0 : Int) = some (if x = 40 ∨ ¬ hsP K C = true then (1 : Int) else 0) := fun w => by
      rw [if_neg (fun y => y.elim (fun z => hx4 z) (fun z => z w))]
    have x0 : C 384 0 ≠ 0 ↔ ¬ x = 0 := not_congr ht
    rw [if_neg (by omega)]
    simp only [jn]
    have ho := of_decide_eq_true ho
    rcases ho with rfl | rfl | rfl | rfl | rfl | rfl
    · have ej : ((jK 274 : Nat) : Int) = 0 := rfl
      have hS : hsP 274 C = decide (C 384 0 = 0) := rfl
      rw [ej, if_neg (show ¬ ¬ (0 : Int) = 0 by decide)]
      by_cases y : x = 0
      · refine Eq.trans ?_ (F0 (by rw [hS]; exact decide_eq_true (ht.mpr y)))
        rw [if_neg (show ¬ ¬ (x : Int) = 0 by omega), if_pos trivial, if_neg (by decide), if_neg (by decide), if_neg (by decide), if_neg (by decide)]
      · refine Eq.trans ?_ (F1 (by rw [hS]; exact decide_eq_false (fun w => y (ht.mp w))))
        rw [if_pos (show ¬ (x : Int) = 0 by omega), if_neg (by decide)]
    · have ej : ((jK 256 : Nat) : Int) = 1 := rfl
      have hS : hsP 256 C = decide (C 384 0 ≠ 0 ∧ C 387 0 < 4) := rfl
      rw [ej, if_pos (show ¬ (1 : Int) = 0 by decide)]
      by_cases y : x = 0
      · refine Eq.trans ?_ (F1 (by rw [hS]; exact decide_eq_false (fun w => x0.mp w.1 y)))
        rw [if_neg (show ¬ ¬ (x : Int) = 0 by omega), if_neg (by decide)]
      · rw [if_pos (show ¬ (x : Int) = 0 by omega), if_pos trivial, if_pos rfl, ld_t (by omega) (by omega), e2]
        by_cases z : C 387 0 < 4
        · rw [if_pos (show ¬ C 387 0 = 4 by omega)]
          exact F0 (by rw [hS]; exact decide_eq_true ⟨x0.mpr y, z⟩)
        · rw [if_neg (show ¬ ¬ C 387 0 = 4 by omega)]
          exact F1 (by rw [hS]; exact decide_eq_false (fun w => z w.2))
    · have ej : ((jK 257 : Nat) : Int) = 3 := rfl
      have hS : hsP 257 C = decide (C 384 0 ≠ 0 ∧ C 388 0 < 6) := rfl
      rw [ej, if_pos (show ¬ (3 : Int) = 0 by decide)]
      by_cases y : x = 0
      · refine Eq.trans ?_ (F1 (by rw [hS]; exact decide_eq_false (fun w => x0.mp w.1 y)))
        rw [if_neg (show ¬ ¬ (x : Int) = 0 by omega), if_neg (by decide)]
      · rw [if_pos (show ¬ (x : Int) = 0 by omega), if_pos trivial, if_neg (by decide), if_neg (by decide), if_pos rfl, ld_t (by omega) (by omega), e3]
        by_cases z : C 388 0 < 6
        · rw [if_pos (show ¬ C 388 0 = 6 by omega)]
          exact F0 (by rw [hS]; exact decide_eq_true ⟨x0.mpr y, z⟩)
        · rw [if_neg (show ¬ ¬ C 388 0 = 6 by omega)]
          exact F1 (by rw [hS]; exact decide_eq_false (fun w => z w.2))
    · have ej : ((jK 275 : Nat) : Int) = 2 := rfl
      have hS : hsP 275 C = decide (C 384 0 ≠ 0 ∧ C 389 0 < 10) := rfl
      rw [ej, if_pos (show ¬ (2 : Int) = 0 by decide)]
      by_cases y : x = 0
      · refine Eq.trans ?_ (F1 (by rw [hS]; exact decide_eq_false (fun w => x0.mp w.1 y)))
        rw [if_neg (show ¬ ¬ (x : Int) = 0 by omega), if_neg (by decide)]
      · rw [if_pos (show ¬ (x : Int) = 0 by omega), if_pos trivial, if_neg (by decide), if_pos rfl, ld_t (by omega) (by omega), e4]
        by_cases z : C 389 0 < 10
        · rw [if_pos (show ¬ C 389 0 = 10 by omega)]
          exact F0 (by rw [hS]; exact decide_eq_true ⟨x0.mpr y, z⟩)
        · rw [if_neg (show ¬ ¬ C 389 0 = 10 by omega)]
          exact F1 (by rw [hS]; exact decide_eq_false (fun w => z w.2))
    · have ej : ((jK 276 : Nat) : Int) = 4 := rfl
      have hS : hsP 276 C = decide (C 384 0 ≠ 0) := rfl
      rw [ej, if_pos (show ¬ (4 : Int) = 0 by decide)]
      by_cases y : x = 0
      · refine Eq.trans ?_ (F1 (by rw [hS]; exact decide_eq_false (fun w => x0.mp w y)))
        rw [if_neg (show ¬ ¬ (x : Int) = 0 by omega), if_neg (by decide)]
      · rw [if_pos (show ¬ (x : Int) = 0 by omega), if_pos trivial, if_neg (by decide), if_neg (by decide), if_neg (by decide), if_neg (by decide)]
        exact F0 (by rw [hS]; exact decide_eq_true (x0.mpr y))
    · have ej : ((jK 268 : Nat) : Int) = 5 := rfl
      have hS : hsP 268 C = decide (C 384 0 ≠ 0 ∧ C 390 0 < 3) := rfl
      rw [ej, if_pos (show ¬ (5 : Int) = 0 by decide)]
      by_cases y : x = 0
      · refine Eq.trans ?_ (F1 (by rw [hS]; exact decide_eq_false (fun w => x0.mp w.1 y)))
        rw [if_neg (show ¬ ¬ (x : Int) = 0 by omega), if_neg (by decide)]
      · rw [if_pos (show ¬ (x : Int) = 0 by omega), if_pos trivial, if_neg (by decide), if_neg (by decide), if_neg (by decide), if_pos rfl, ld_t (by omega) (by omega), e5]
        by_cases z : C 390 0 < 3
        · rw [if_pos (show ¬ C 390 0 = 3 by omega)]
          exact F0 (by rw [hS]; exact decide_eq_true ⟨x0.mpr y, z⟩)
        · rw [if_neg (show ¬ ¬ C 390 0 = 3 by omega)]
          exact F1 (by rw [hS]; exact decide_eq_false (fun w => z w.2))
theorem wAt_L {n q : Nat} {bs : Nat → Nat} {w : List Nat} (h : wAt n bs q w = true) (hw : 0 < w.length) : tL n bs q = w.length ∧ q < n := by
  obtain ⟨a1, a2⟩ := of_decide_eq_true h
  have l1 : isLt (bt n bs q) = true := run_in (q := isLt) (k := 0) (by omega)
  have l2 := isLt_t l1
  have hq : q < n := bt_lt (bs := bs) (by omega)
  have d : ¬ isD (bt n bs q) = true := fun w => by have := isD_t w; omega
  unfold tL
  rw [if_neg d, if_pos l1]
  exact ⟨a1, hq⟩
theorem m162 {t : S2} {n q x : Nat} {bs : Nat → Nat} {C B : V2} (h : MAt t n bs q) (hM : MC C B t) (hC : CB C) (hB : BD C B) (ht : C 384 0 = 0 ↔ x = 0) (hx : x ≤ 40) : ∃ t', f162 x t = some t' ∧ MRes t t' n bs (clX n bs x q C B) := by
  obtain ⟨g1, g2, g3⟩ := h.bl
  have hle := g2.le
  have hM1 := hM.f70 (atP_fr (s := t) (q := q))
  have hp : atP t q 1570 0 0 = q := st2_eq
  have h6 := jK_6 (K := tK n bs q)
  unfold f162 clX
  rw [g1, cP_s, bnd, m162a g3, cP_s]
  by_cases o : opK (tK n bs q) = true
  · have hj : jK (tK n bs q) < 6 := by
      by_cases y : jK (tK n bs q) = 6
      · have := h6.2.mp y
        rw [o] at this
        cases this
      · omega
    rw [if_pos (by omega), m168 hM1 hC ht hx o, cP_s, if_pos o]
    by_cases y : x = 40 ∨ ¬ hsP (tK n bs q) C = true
    · obtain ⟨t', d1, d2, d3⟩ := g2.fail (k := 4) (p := q) (by omega) (by omega)
      rw [if_pos y, if_pos y, if_neg ne10, hp, d1, cP_s]
      exact ⟨t', rfl, atP_fr.p70.tr d3.p70, d2⟩
    · obtain ⟨w1, w2⟩ := kJ_k ⟨_, hj⟩
      have w3 := m165 ⟨_, hj⟩
      dsimp only at w1 w2 w3
      have w4 := (tK_w (n := n) (q := q) (bs := bs) (i := kJ (jK (tK n bs q))) g3.2.1 w2).mp ((jK_j hj).mp rfl)
      rw [w1] at w4
      have w5 := (lenk ⟨2 + jK (tK n bs q), by omega⟩).2 (by show 2 ≤ 2 + _; omega)
      dsimp only at w5
      obtain ⟨w6, w7⟩ := wAt_L w4 w5.1
      have hbd := tL_bd (bs := bs) w7
      have hA : MAt (st2 (atP t q) 1570 0 0 ((q + tL n bs q : Nat) : Int)) n bs (nq n bs q) := by
        refine ⟨⟨_, g3.go hbd.2, ?_⟩, by rw [st2_ne (by omega)]; exact g2.2⟩
        unfold nq
        rw [if_neg (by omega)]
      have hM2 : MC C B (st2 (atP t q) 1570 0 0 ((q + tL n bs q : Nat) : Int)) := hM1.f70 (Fr.rf.st rfl)
      have hF2 : Fr pMd t (st2 (atP t q) 1570 0 0 ((q + tL n bs q : Nat) : Int)) := (atP_fr.p70).st (pMd_t (by omega))
      rw [if_neg y, if_neg y, if_pos rfl, hp, bnd, w3, cP_s, gd_t (by omega), m274 (by omega), cP_s, ← w6, jadd_e (by omega) (by omega), bnd, show ((q : Int) + (tL n bs q : Nat)) = ((q + tL n bs q : Nat) : Int) by omega]
      generalize st2 (atP t q) 1570 0 0 ((q + tL n bs q : Nat) : Int) = t2 at hA hM2 hF2
      have fin : ∀ (j : Int) (r : Int ⊕ (Nat × V2 × V2)), (∃ t', f169 j t2 = some t' ∧ MRes t2 t' n bs r) → ∃ t', (cP (f169 j t2) fun s16 => some s16) = some t' ∧ MRes t t' n bs r := fun j r hr => by
        obtain ⟨t', b1, b2, b3⟩ := hr
        exact ⟨t', by rw [b1, cP_s], hF2.tr b2, b3⟩
      have hs : hsP (tK n bs q) C = true := by
        by_cases y2 : hsP (tK n bs q) C = true
        · exact y2
        · exact absurd (Or.inr y2) y
      refine fin _ _ ?_
      have ho := of_decide_eq_true o
      unfold clR
      unfold hsP at hs
      rcases ho with ho | ho | ho | ho | ho | ho
      all_goals rw [ho] at hs ⊢
      · rw [if_neg (by decide), if_neg (by decide), if_neg (by decide), if_pos rfl]
        exact mcCourt hA hM2
      · rw [if_pos rfl] at hs ⊢
        exact mcFamily hA hM2 hC (of_decide_eq_true hs).2
      · rw [if_neg (by decide), if_pos rfl] at hs ⊢
        exact mcLine hA hM2 hC (of_decide_eq_true hs).2
      · rw [if_neg (by decide), if_neg (by decide), if_neg (by decide), if_neg (by decide), if_pos rfl] at hs ⊢
        exact mcLinen hA hM2 hC hB (of_decide_eq_true hs).2
      · rw [if_neg (by decide), if_neg (by decide), if_neg (by decide), if_neg (by decide), if_neg (by decide)]
        exact mcHung hA hM2 hC hB
      · rw [if_neg (by decide), if_neg (by decide), if_pos rfl] at hs ⊢
        exact mcRain hA hM2 hC (of_decide_eq_true hs).2
  · obtain ⟨t', d1, d2, d3⟩ := g2.fail (k := 0) (p := q) (by omega) (by omega)
    have : jK (tK n bs q) = 6 := h6.2.mpr (Bool.eq_false_iff.mpr o)
    rw [if_neg (by omega), if_neg o, hp, d1, cP_s]
    exact ⟨t', rfl, atP_fr.p70.tr d3.p70, d2⟩
