/-! THE MODEL'S LOOP over a court's clauses -/
theorem bt_59 {n q : Nat} {bs : Nat → Nat} (hb : ∀ k, k < n → bs k < 256) : (tK n bs q = 59 ↔ bt n bs q = 59) ∧ (tK n bs q = 0 ↔ n ≤ q) ∧ (bt n bs q = 59 → q < n ∧ tL n bs q = 1) := by
  have hx : bt n bs q = 59 → q < n ∧ tL n bs q = 1 ∧ tK n bs q = 59 := fun w => by
    have hq : q < n := bt_lt (bs := bs) (by omega)
    have d1 : ¬ isD (bt n bs q) = true := fun y => by have := isD_t y; omega
    have d2 : ¬ isLt (bt n bs q) = true := fun y => by have := isLt_t y; omega
    have d3 : ¬ dbl n bs q = true := fun y => by have := of_decide_eq_true y; omega
    have w2 := w
    rw [bt_t hq] at w2
    refine ⟨hq, ?_, ?_⟩
    · unfold tL
      rw [if_neg d1, if_neg d2, if_neg d3]
    · unfold tK
      rw [if_neg (by omega), if_neg d1, if_neg d2, if_neg d3, if_pos (by rw [show bs q = 59 by omega]; decide), w2]
  refine ⟨⟨fun w => ?_, fun w => (hx w).2.2⟩, ⟨fun w => ?_, fun w => ?_⟩, fun w => ⟨(hx w).1, (hx w).2.1⟩⟩
  · unfold tK at w
    split at w
    · omega
    · rename_i h0
      split at w
      · omega
      · split at w
        · rcases wk_r (n := n) (q := q) (bs := bs) with w2 | ⟨i, -, w2⟩
          · rw [w2] at w; omega
          · rw [w2] at w; omega
        · split at w
          · split at w <;> omega
          · split at w
            · rw [bt_t (by omega)]; exact w
            · omega
  · by_cases y : n ≤ q
    · exact y
    · unfold tK at w
      rw [if_neg y] at w
      split at w
      · omega
      · split at w
        · exact absurd w wk_ne.2
        · split at w
          · split at w <;> omega
          · split at w
            · rename_i g
              have := (sg_ne ⟨bs q, hb q (by omega)⟩ g).2
              dsimp only at this
              omega
            · omega
  · unfold tK
    rw [if_pos w]
/-- whether it goes on -/
theorem m178 {t : S2} {n q : Nat} {bs : Nat → Nat} (h : MAt t n bs q) : ∃ r t', f178 t = some (r, t') ∧ Fr p70 t t' ∧ ((n ≤ q ∧ r = 0 ∧ t' 1571 0 0 = 0) ∨ (q < n ∧ tK n bs q = 59 ∧ r = 1 ∧ MAt t' n bs (nq n bs q)) ∨ (q < n ∧ tK n bs q ≠ 59 ∧ r = 0 ∧ t' 1571 0 0 = 1 + 8 * (q : Int) + 0)) := by
  obtain ⟨g1, g2, g3⟩ := h.bl
  have hle := g2.le
  have hb59 := bt_59 (n := n) (bs := bs) (q := q) g3.2.1
  have hp : atP t q 1570 0 0 = q := st2_eq
  have hn : atP t q 1569 0 0 = n := g3.1.1
  unfold f178
  simp only [bnd, jn]
  rw [g1, cP_s, g2.2, if_neg (show ¬ ¬ (0 : Int) = 0 by decide), hp, hn, if_neg (show ¬ ¬ (0 : Int) = 0 by decide)]
  have hj : jadd (q : Int) 1 = ((q + 1 : Nat) : Int) := by rw [jadd_e (by omega) (by omega)]; rfl
  by_cases y : n ≤ q
  · rw [if_pos (by omega), if_pos (by omega), gd_t (Or.inl trivial)]
    exact ⟨_, _, rfl, atP_fr.tr (Fr.rf.st rfl), Or.inl ⟨y, rfl, by rw [st2_ne (by omega)]; exact g2.2⟩⟩
  · rw [if_neg (by omega), m164 g3.1 g3.2.1 g3.2.2.1 hp, cP_s]
    by_cases z : bt n bs q = 59
    · obtain ⟨z1, z2⟩ := hb59.2.2 z
      rw [if_pos z, if_neg (by omega), gd_t (Or.inr trivial), hj]
      refine ⟨_, _, rfl, atP_fr.tr (Fr.rf.st rfl), Or.inr (Or.inl ⟨by omega, hb59.1.mpr z, rfl, ⟨_, g3.go (by omega), ?_⟩, by rw [st2_ne (by omega)]; exact g2.2⟩)⟩
      unfold nq
      rw [if_neg y, z2]
    · obtain ⟨t', d1, d2, d3⟩ := g2.fail (k := 0) (p := q) (by omega) (by omega)
      rw [if_neg z, d1, cP_s, d2.2.1, if_pos (show ¬ 1 + 8 * (q : Int) + 0 = 0 by omega), gd_t (Or.inl trivial)]
      exact ⟨_, _, rfl, (atP_fr.tr d3).tr (Fr.rf.st rfl), Or.inr (Or.inr ⟨by omega, fun w => z (hb59.1.mp w), rfl, by rw [st2_ne (by omega)]; exact d2.2.1⟩)⟩
theorem m178e {t : S2} {n : Nat} {e : Int} {bs : Nat → Nat} (h : MEr t n bs e) : ∃ t', f178 t = some (0, t') ∧ Fr p70 t t' ∧ t' 1571 0 0 = e := by
  obtain ⟨t1, g1, g2, g3⟩ := h.bl
  have he := g2.2
  unfold f178
  simp only [bnd, jn]
  rw [g1, cP_s, he.1, if_pos (show ¬ e = 0 by omega), if_pos (show ¬ e = 0 by omega), gd_t (Or.inl trivial)]
  exact ⟨_, rfl, g3.tr (Fr.rf.st rfl), by rw [st2_ne (by omega)]; exact he.1⟩
theorem clX_told {n q x q' : Nat} {bs : Nat → Nat} {C B C' B' : V2} (h : clX n bs x q C B = .inr (q', C', B')) : C' 384 0 ≠ 0 := by
  have sC4 : ∀ (D : V2) (g j : Nat) (v : Int), g ≠ 384 → setC D g j v 384 0 = D 384 0 := fun D g j v hg => by
    rw [sC (by unfold cr; omega), if_neg (by omega)]
  unfold clX at h
  by_cases o : opK (tK n bs q) = true
  · rw [if_pos o] at h
    by_cases y : x = 40 ∨ ¬ hsP (tK n bs q) C = true
    · rw [if_pos y] at h; cases h
    · rw [if_neg y] at h
      have hs : hsP (tK n bs q) C = true := by
        by_cases y2 : hsP (tK n bs q) C = true
        · exact y2
        · exact absurd (Or.inr y2) y
      have ho := of_decide_eq_true o
      unfold clR at h
      unfold hsP at hs
      rcases ho with ho | ho | ho | ho | ho | ho
      all_goals rw [ho] at hs h
      · rw [if_neg (by decide), if_neg (by decide), if_neg (by decide), if_pos rfl] at h
        obtain ⟨v1, q1, a1, h⟩ := bN_i h
        obtain ⟨v2, q2, a2, h⟩ := bN_i h
        cases h
        rw [sC (by unfold cr; omega), if_pos ⟨rfl, rfl⟩]
        decide
      · rw [if_pos rfl] at hs h
        obtain ⟨v1, q1, a1, h⟩ := bN_i h
        cases h
        rw [sC4 _ _ _ _ (by omega)]
        exact (of_decide_eq_true hs).1
      · rw [if_neg (by decide), if_pos rfl] at hs h
        obtain ⟨v1, q1, a1, h⟩ := bN_i h
        obtain ⟨v2, q2, a2, h⟩ := bN_i h
        split at h
        · cases h
        · obtain ⟨v3, q3, a3, h⟩ := bN_i h
          obtain ⟨v4, q4, a4, h⟩ := bN_i h
          cases h
          rw [sC4 _ _ _ _ (by omega), sC4 _ _ _ _ (by omega), sC4 _ _ _ _ (by omega), sC4 _ _ _ _ (by omega), sC4 _ _ _ _ (by omega)]
          exact (of_decide_eq_true hs).1
      · rw [if_neg (by decide), if_neg (by decide), if_neg (by decide), if_neg (by decide), if_pos rfl] at hs h
        obtain ⟨v1, q1, a1, h⟩ := bN_i h
        obtain ⟨v2, q2, a2, h⟩ := bN_i h
        obtain ⟨v3, q3, a3, h⟩ := bN_i h
        cases h
        rw [sC4 _ _ _ _ (by omega), sC4 _ _ _ _ (by omega), sC4 _ _ _ _ (by omega), sC4 _ _ _ _ (by omega)]
        exact (of_decide_eq_true hs).1
      · rw [if_neg (by decide), if_neg (by decide), if_neg (by decide), if_neg (by decide), if_neg (by decide)] at hs h
        obtain ⟨v1, q1, a1, h⟩ := bN_i h
        obtain ⟨v2, q2, a2, h⟩ := bN_i h
        split at h
        · cases h
        · cases h
          exact of_decide_eq_true hs
      · rw [if_neg (by decide), if_neg (by decide), if_pos rfl] at hs h
        obtain ⟨v1, q1, a1, h⟩ := bN_i h
        obtain ⟨v2, q2, a2, h⟩ := bN_i h
        cases h
        rw [sC4 _ _ _ _ (by omega), sC4 _ _ _ _ (by omega), sC4 _ _ _ _ (by omega)]
        exact (of_decide_eq_true hs).1
  · rw [if_neg o] at h; cases h
theorem m160l {t : S2} {n q0 : Nat} {bs : Nat → Nat} {C0 B0 : V2} (h : MAt t n bs q0) (hM : MC C0 B0 t) (hC : CB C0) (hB : BD C0 B0) (ht : C0 384 0 = 0) : ∃ z, itr (fun (x7, x8, s9) => f160_b x7 x8 s9) am_fu (0, 1, t) = some z ∧ Fr pMd t z ∧ ((∃ C B, clN n bs 41 0 q0 C0 B0 = .inr (C, B) ∧ z 1571 0 0 = 0 ∧ MC C B z) ∨ (∃ e, clN n bs 41 0 q0 C0 B0 = .inl e ∧ z 1571 0 0 = e ∧ 0 < e)) := by
  generalize hT : clN n bs 41 0 q0 C0 B0 = T
  refine itr_inv (b := fun (x7, x8, s9) => f160_b x7 x8 s9) (fun (i : Nat) (z : Int × Int × S2) => z.1 = i ∧ Fr pMd t z.2.2 ∧ ((i ≤ 40 ∧ z.2.1 = 1 ∧ ∃ q C B, MAt z.2.2 n bs q ∧ MC C B z.2.2 ∧ CB C ∧ BD C B ∧ (C 384 0 = 0 ↔ i = 0) ∧ clN n bs (41 - i) i q C B = T) ∨ (z.2.1 = 0 ∧ ((∃ C B, T = .inr (C, B) ∧ z.2.2 1571 0 0 = 0 ∧ MC C B z.2.2) ∨ (∃ e, T = .inl e ∧ z.2.2 1571 0 0 = e ∧ 0 < e))))) (fun (z : S2) => Fr pMd t z ∧ ((∃ C B, T = .inr (C, B) ∧ z 1571 0 0 = 0 ∧ MC C B z) ∨ (∃ e, T = .inl e ∧ z 1571 0 0 = e ∧ 0 < e))) 50 ?_ am_fu (fu_lt (by omega)) ((0 : Int), (1 : Int), t) ⟨rfl, Fr.rf, Or.inl ⟨by omega, rfl, q0, C0, B0, h, hM, hC, hB, ⟨fun _ => rfl, fun _ => ht⟩, hT⟩⟩
  rintro i ⟨x, y, z⟩ hi ⟨g1, g2, g3⟩
  dsimp only at g1 g2 g3 ⊢
  subst g1
  rcases g3 with ⟨g3, rfl, q, C, B, g4, g5, g6, g7, g8, g9⟩ | ⟨rfl, g3⟩
  · left
    refine ⟨by omega, ?_⟩
    obtain ⟨s', k1, k2, k3⟩ := m162 (x := i) g4 g5 g6 g7 g8 g3
    have ej : jadd (i : Int) 1 = ((i + 1 : Nat) : Int) := by rw [jadd_e (by omega) (by omega)]; rfl
    have st0 : f160_b i 1 z = cR (f178 s') fun r12 s13 => some (.inl (((i + 1 : Nat) : Int), r12, s13)) := by
      unfold f160_b
      rw [if_neg ne10, k1, cP_s, bnd, ej]
    rw [show 41 - i = (40 - i) + 1 by omega] at g9
    unfold clN at g9
    cases hx : clX n bs i q C B with
    | inl e =>
      rw [hx] at g9 k3
      dsimp only at g9 k3
      obtain ⟨z', l1, l2, l3⟩ := m178e k3
      have he := k3.2.2
      refine ⟨(((i + 1 : Nat) : Int), 0, z'), ?_, rfl, (g2.tr k2).tr l2.p70, Or.inr ⟨rfl, Or.inr ⟨e, g9.symm, l3, he⟩⟩⟩
      show f160_b i 1 z = _
      rw [st0, l1, cR_s]
    | inr w =>
      obtain ⟨q', C', B'⟩ := w
      have hne : i ≠ 40 := fun w => by
        subst w
        obtain ⟨e, he⟩ := clX_40 (n := n) (q := q) (bs := bs) (C := C) (B := B)
        rw [he] at hx
        cases hx
      obtain ⟨w1, w2⟩ := clX_k g6 g7 hx
      have w3 := clX_told hx
      rw [hx] at g9 k3
      dsimp only at g9 k3
      obtain ⟨k3, k4⟩ := k3
      obtain ⟨r, z', l1, l2, l3⟩ := m178 k3
      have hb : ∀ k, k < n → bs k < 256 := by
        obtain ⟨⟨p, y1, -⟩, -⟩ := k3
        exact y1.2.1
      have hb59 := bt_59 (n := n) (bs := bs) (q := q') hb
      have st1 : f160_b i 1 z = some (.inl (((i + 1 : Nat) : Int), r, z')) := by rw [st0, l1, cR_s]
      refine ⟨(((i + 1 : Nat) : Int), r, z'), st1, rfl, (g2.tr k2).tr l2.p70, ?_⟩
      rcases l3 with ⟨m1, m2, m3⟩ | ⟨m1, m2, m3, m4⟩ | ⟨m1, m2, m3, m4⟩
      · rw [if_pos (hb59.2.1.mpr m1)] at g9
        exact Or.inr ⟨m2, Or.inl ⟨C', B', g9.symm, m3, k4.f70 l2⟩⟩
      · rw [if_neg (fun w => by have := hb59.2.1.mp w; omega), if_pos m2] at g9
        refine Or.inl ⟨by omega, m3, nq n bs q', C', B', m4, k4.f70 l2, w1, w2, ⟨fun w => absurd w w3, fun w => absurd w (by omega)⟩, ?_⟩
        rw [show 41 - (i + 1) = 40 - i by omega]
        exact g9
      · rw [if_neg (fun w => by have := hb59.2.1.mp w; omega), if_neg m2] at g9
        exact Or.inr ⟨m3, Or.inr ⟨_, g9.symm, m4, by omega⟩⟩
  · refine Or.inr ⟨z, ?_, g2, g3⟩
    show f160_b i 0 z = _
    unfold f160_b
    rw [if_pos rfl]
def pMs (f i : Nat) : Bool := (Nat.beq f 1569 || Nat.beq f 1574 || Nat.beq f 1575 || Nat.beq f 1576) || pMd f i
theorem pMs_f {f i : Nat} : pMs f i = false ↔ ¬ ((f = 1569 ∨ f = 1570 ∨ f = 1571 ∨ (1574 ≤ f ∧ f ≤ 1576)) ∨ (1557 ≤ f ∧ f ≤ 1568 ∧ i = 0)) := by
  unfold pMs
  rw [Bool.or_eq_false_iff, pMd_f, ← Bool.not_eq_true]
  simp only [Bool.or_eq_true, Nat.beq_eq]
  omega
theorem m161 {t : S2} : f161 t = some (st2 (st2 (st2 (st2 (st2 t 1570 0 0 0) 1571 0 0 0) 1574 0 0 0) 1575 0 0 0) 1576 0 0 0) := rfl
theorem m160 {t : S2} {n : Nat} {bs : Nat → Nat} {C0 B0 : V2} (h : HMt t bs n) (hb : ∀ k, k < n → bs k < 256) (hn : n ≤ 400) (h0 : ∀ f, 384 ≤ f → f ≤ 390 → C0 f 0 = 0) (hC : CB C0) (hB : BD C0 B0) : ∃ z, f160 t = some z ∧ Fr pMs t z ∧ z 1569 0 0 = 0 ∧ ((∃ C B, clN n bs 41 0 (sk n bs 0) C0 B0 = .inr (C, B) ∧ z 1571 0 0 = 0 ∧ MC C B z) ∨ (∃ e, clN n bs 41 0 (sk n bs 0) C0 B0 = .inl e ∧ z 1571 0 0 = e ∧ 0 < e)) := by
  unfold f160
  rw [m161, cP_s]
  generalize hS : st2 (st2 (st2 (st2 (st2 t 1570 0 0 0) 1571 0 0 0) 1574 0 0 0) 1575 0 0 0) 1576 0 0 0 = S
  have hF : Fr pMs t S := by
    rw [← hS]
    exact ((((Fr.rf.st rfl).st rfl).st rfl).st rfl).st rfl
  rw [fill_cP 7 (fun i s => st2 s 1557 0 i 0) S (by decide) (by intro i s hi; show f160_a _ _ = _; simp (disch := omega) only [f160_a, and_self, and_true, true_and, not_true_eq_false, not_false_eq_true, reduceIte, bnd, jn, se, cP_s, cR_s, if_pos, if_neg, gd_t, ld_t, ldr_t, sto_t, jadd_e, jsub_e, Int.toNat_natCast]; rfl) (fun s => rfl)]
  have e7 : ∀ f i k, iterS (fun i s => st2 s 1557 0 i 0) 7 S f i k = if f = 1557 ∧ i = 0 ∧ k < 7 then 0 else S f i k := fun f i k => fill1 (v := fun _ => 0) 7 f i k
  generalize iterS (fun i s => st2 s 1557 0 i 0) 7 S = S' at e7
  have eS : ∀ f, f ≠ 1557 → S' f 0 = S f 0 := fun f hf => funext fun k => by rw [e7, if_neg (by omega)]
  have hF2 : Fr pMs t S' := hF.tr fun f i hf => by
    have := pMs_f.mp hf
    funext k
    rw [e7, if_neg (by omega)]
  have o : ∀ f, ¬ (1570 ≤ f ∧ f ≤ 1576) → f ≠ 1557 → S' f 0 = t f 0 := fun f w1 w2 => by
    rw [eS f w2, ← hS]
    funext k
    rw [st2_ne (by omega), st2_ne (by omega), st2_ne (by omega), st2_ne (by omega), st2_ne (by omega)]
  have h70 : S' 1570 0 0 = ((0 : Nat) : Int) := by
    rw [eS _ (by omega), ← hS, st2_ne (by omega), st2_ne (by omega), st2_ne (by omega), st2_ne (by omega), st2_eq]
    rfl
  have h71 : S' 1571 0 0 = 0 := by
    rw [eS _ (by omega), ← hS, st2_ne (by omega), st2_ne (by omega), st2_ne (by omega), st2_eq]
  have hA : MAt S' n bs (sk n bs 0) := ⟨⟨0, ⟨⟨by rw [o _ (by omega) (by omega)]; exact h.1, fun k hk => by rw [o _ (by omega) (by omega)]; exact h.2 k hk⟩, hb, hn, h70, by omega⟩, rfl⟩, h71⟩
  have z7 : ∀ j, j < 7 → S' 1557 0 j = 0 := fun j hj => by rw [e7, if_pos ⟨rfl, rfl, hj⟩]
  have hMC : MC C0 B0 S' := by
    refine ⟨⟨?_, ?_, ?_, ?_, ?_, ?_, z7 6 (by omega)⟩, fun l hl w => ?_, fun l hl w => ?_, fun l hl w => ?_, fun l hl w => ?_⟩
    · rw [z7 _ (by omega), h0 _ (by omega) (by omega)]
    · rw [z7 _ (by omega), h0 _ (by omega) (by omega)]
    · rw [z7 _ (by omega), h0 _ (by omega) (by omega)]
    · rw [z7 _ (by omega), h0 _ (by omega) (by omega)]
    · rw [z7 _ (by omega), h0 _ (by omega) (by omega)]
    · rw [z7 _ (by omega), h0 _ (by omega) (by omega)]
    · rw [h0 _ (by omega) (by omega)] at w; omega
    · rw [h0 _ (by omega) (by omega)] at w; omega
    · rw [h0 _ (by omega) (by omega)] at w; omega
    · rw [h0 _ (by omega) (by omega)] at w; omega
  obtain ⟨z, k1, k2, k3⟩ := m160l hA hMC hC hB (h0 _ (by omega) (by omega))
  rw [k1, cP_s, bnd]
  refine ⟨_, rfl, (hF2.tr (k2.mo fun f i w => (Bool.or_eq_false_iff.mp w).2)).st rfl, st2_eq, ?_⟩
  · rcases k3 with ⟨C, B, l1, l2, l3⟩ | ⟨e, l1, l2, l3⟩
    · exact Or.inl ⟨C, B, l1, by rw [st2_ne (by omega)]; exact l2, l3.fr fun f w1 w2 => st2_row (by omega)⟩
    · exact Or.inr ⟨e, l1, by rw [st2_ne (by omega)]; exact l2, l3⟩
