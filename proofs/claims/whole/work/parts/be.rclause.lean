/-! THE MODEL'S CLAUSES of a rule -/
def entL : List (List Int × List Int) → List Int
  | [] => []
  | p :: s => p.1 ++ p.2 ++ entL s
theorem entL_app {B : List (List Int × List Int)} : ∀ {A : List (List Int × List Int)}, entL (A ++ B) = entL A ++ entL B
  | [] => rfl
  | p :: s => by
    show p.1 ++ p.2 ++ entL (s ++ B) = p.1 ++ p.2 ++ entL s ++ entL B
    rw [entL_app]
    simp only [List.append_assoc]
def clA (A : List (List Int × List Int)) (k : Nat) : List Int × List Int := A.getD k ([], [])
def ofA (A : List (List Int × List Int)) (k : Nat) : Nat := (entL (A.take k)).length
theorem clA_l {A : List (List Int × List Int)} {p : List Int × List Int} {k : Nat} (h : k < A.length) : clA (A ++ [p]) k = clA A k := by
  unfold clA
  rw [List.getD_eq_getElem?_getD, List.getElem?_append_left h, ← List.getD_eq_getElem?_getD]
theorem clA_r {A : List (List Int × List Int)} {p : List Int × List Int} : clA (A ++ [p]) A.length = p := by
  unfold clA
  rw [List.getD_eq_getElem?_getD, List.getElem?_append_right (Nat.le_refl _), Nat.sub_self]
  rfl
theorem ofA_l {A : List (List Int × List Int)} {p : List Int × List Int} {k : Nat} (h : k ≤ A.length) : ofA (A ++ [p]) k = ofA A k := by
  unfold ofA
  rw [List.take_append_of_le_length h]
theorem ofA_r {A : List (List Int × List Int)} : ofA A A.length = (entL A).length := by
  unfold ofA
  rw [List.take_length]
def RW (t : S2) (r : Nat) (A : List (List Int × List Int)) : Prop := ∀ k, k < A.length → t 1583 0 (12 * r + k) = ofA A k ∧ t 1584 0 (12 * r + k) = ((ofA A k + (clA A k).1.length : Nat) : Int) ∧ t 1585 0 (12 * r + k) = ((ofA A k + (clA A k).1.length + (clA A k).2.length : Nat) : Int)
def pRk (f i : Nat) : Bool := ((Nat.beq f 1583 || Nat.beq f 1584 || Nat.beq f 1585) && Nat.beq i 0) || pNz f i
theorem pRk_f {f i : Nat} : pRk f i = false ↔ ¬ ((f = 1570 ∨ f = 1571) ∨ ((f = 1574 ∨ f = 1575 ∨ f = 1576 ∨ f = 1577 ∨ f = 1580 ∨ f = 1581 ∨ f = 1583 ∨ f = 1584 ∨ f = 1585 ∨ f = 1586) ∧ i = 0)) := by
  unfold pRk
  rw [Bool.or_eq_false_iff, pNz_f, ← Bool.not_eq_true]
  simp only [Bool.or_eq_true, Bool.and_eq_true, Nat.beq_eq, or_assoc]
  omega
def FR (r : Nat) (t t' : S2) : Prop := Fr pRk t t' ∧ (∀ k, k < 300 * r → t' 1580 0 k = t 1580 0 k ∧ t' 1581 0 k = t 1581 0 k) ∧ ∀ k, k < 12 * r → t' 1583 0 k = t 1583 0 k ∧ t' 1584 0 k = t 1584 0 k ∧ t' 1585 0 k = t 1585 0 k
theorem FR.rf {r : Nat} {t : S2} : FR r t t := ⟨Fr.rf, fun _ _ => ⟨rfl, rfl⟩, fun _ _ => ⟨rfl, rfl, rfl⟩⟩
theorem FR.tr {r : Nat} {t t' t'' : S2} (h : FR r t t') (h' : FR r t' t'') : FR r t t'' := ⟨h.1.tr h'.1, fun k hk => ⟨(h'.2.1 k hk).1.trans (h.2.1 k hk).1, (h'.2.1 k hk).2.trans (h.2.1 k hk).2⟩, fun k hk => ⟨(h'.2.2 k hk).1.trans (h.2.2 k hk).1, (h'.2.2 k hk).2.1.trans (h.2.2 k hk).2.1, (h'.2.2 k hk).2.2.trans (h.2.2 k hk).2.2⟩⟩
theorem FN.fr {r : Nat} {t t' : S2} (h : FN r t t') : FR r t t' := ⟨h.1.mo fun f i w => (Bool.or_eq_false_iff.mp w).2, h.2, fun k hk => by
  rw [h.1 _ _ (pNz_f.mpr (by omega)), h.1 _ _ (pNz_f.mpr (by omega)), h.1 _ _ (pNz_f.mpr (by omega))]
  exact ⟨rfl, rfl, rfl⟩⟩
theorem FR.st {r g j : Nat} {v : Int} {t : S2} (hg : g = 1583 ∨ g = 1584 ∨ g = 1585) : FR r t (st2 t g 0 (12 * r + j) v) := ⟨fr_one.mo (fun f i w => one_f (by have := pRk_f.mp w; omega)), fun k hk => by rw [st2_ne (by omega), st2_ne (by omega)]; exact ⟨rfl, rfl⟩, fun k hk => by rw [st2_ne (by omega), st2_ne (by omega), st2_ne (by omega)]; exact ⟨rfl, rfl, rfl⟩⟩
theorem QA.sr {t : S2} {n q c g j : Nat} {v : Int} {bs : Nat → Nat} {E : List Int} {r : Nat} (h : QA t n bs q c E r) (hg : g = 1582 ∨ g = 1583 ∨ g = 1584 ∨ g = 1585) : QA (st2 t g 0 j v) n bs q c E r := by
  obtain ⟨a1, a2, a3, a4, a5, a6, a7⟩ := h
  exact ⟨a1.st (by omega), by rw [st2_ne (by omega)]; exact a2, by rw [st2_ne (by omega)]; exact a3, by rw [st2_ne (by omega)]; exact a4, by rw [st2_ne (by omega)]; exact a5, a6, fun k hk => (a7 k hk).fr (st2_row (by omega)) (st2_row (by omega))⟩
theorem m189 {t : S2} {n q c r : Nat} {bs : Nat → Nat} {E : List Int} (h : QA t n bs q c E r) : ∃ t', f189 19 t = some (if tK n bs q = 270 then 1 else 0, t') ∧ Fr p70 t t' ∧ (if tK n bs q = 270 then QA t' n bs (nq n bs q) c E r else QX t' n bs q c E r) := by
  obtain ⟨g1, g2⟩ := h.bl
  obtain ⟨k1, k2, k3, k4, k5⟩ := id g2.2
  have hw : tK n bs q = 270 ↔ wAt n bs q (m2_tb 19) = true := tK_w (i := 14) k2 (by omega)
  have h274 : f274 19 = some 2 := m274 (by omega)
  unfold f189
  simp only [bnd, jn]
  rw [g1, cP_s, m166 k1 k2 k3 k4 k5 (by omega) (by omega), cP_s, k4]
  by_cases y : tK n bs q = 270
  · obtain ⟨l1, l2⟩ := tL_w (i := 14) k2 (by omega) y
    have l3 : tL n bs q = 2 := l1
    have hbd := tL_bd (bs := bs) l2
    have e2 : jadd (q : Int) 2 = ((q + 2 : Nat) : Int) := by rw [jadd_e (by omega) (by omega)]; rfl
    rw [if_pos (hw.mp y), if_neg ne10, h274, cP_s, e2, gd_t (by omega), if_pos y]
    refine ⟨_, rfl, atP_fr.tr (Fr.rf.st rfl), ?_⟩
    rw [if_pos y]
    exact g2.skip l2 l3
  · have e2 : jadd (q : Int) 0 = q := by rw [jadd_e (by omega) (by omega)]; omega
    rw [if_neg (fun w => y (hw.mpr w)), if_pos rfl, e2, gd_t (by omega), if_neg y]
    refine ⟨_, rfl, atP_fr.tr (Fr.rf.st rfl), ?_⟩
    rw [if_neg y]
    have : st2 (atP t q) 1570 0 0 (q : Int) = atP t q := atP_at
    rw [this]
    exact g2
theorem QA.fault {t : S2} {n q c r : Nat} {bs : Nat → Nat} {E : List Int} (h : QA t n bs q c E r) : t 1571 0 0 = 0 := h.1.2
theorem m182 {t : S2} {n q c r x : Nat} {bs : Nat → Nat} {A : List (List Int × List Int)} (h : QA t n bs q c (entL A) r) (h0 : t 1575 0 0 = 0) (hR : RW t r A) (hx : A.length = x) (hx12 : x ≤ 12) (hc : c ≤ 60) (hE : 3 * (entL A).length ≤ 6 * c + q) : ∃ t', f182 x t = some t' ∧ FR r t t' ∧ match aCl n bs x q c with
    | .inl e => QW t' n bs e
    | .inr (q', c', S, T) => QA t' n bs q' c' (entL (A ++ [(S, T)])) r ∧ t' 1575 0 0 = 0 ∧ RW t' r (A ++ [(S, T)]) := by
  obtain ⟨g1, g2⟩ := h.bl
  obtain ⟨k1, k2, k3, k4, k5⟩ := id g2.2
  have hw : tK n bs q = 269 ↔ wAt n bs q (m2_tb 8) = true := tK_w (i := 13) k2 (by omega)
  have f0 : FR r t (atP t q) := (FM.st (by omega)).fn.fr
  have hr6 := h.2.2.2.2.2.1
  unfold f182 aCl
  rw [g1, cP_s, bnd, k4, m166 k1 k2 k3 k4 k5 (by omega) (by omega), cP_s]
  by_cases y : tK n bs q = 269
  · rw [if_pos (hw.mp y), if_pos ne10]
    by_cases z : x = 12
    · obtain ⟨t', d1, d2, d3⟩ := g2.1.1.fail (k := 4) (p := q) (by omega) (by omega)
      rw [if_neg (show ¬ ¬ (x : Int) = 12 by omega), d1, cP_s, if_pos ⟨y, z⟩]
      exact ⟨t', rfl, f0.tr d3.fm.fn.fr, (g2.1.er d3 d2).w⟩
    · obtain ⟨l1, l2⟩ := tL_w (i := 13) k2 (by omega) y
      have l3 : tL n bs q = 5 := l1
      have hbd := tL_bd (bs := bs) l2
      have hnq := nq_b (bs := bs) l2
      have e5 : jadd (q : Int) 5 = ((q + 5 : Nat) : Int) := by rw [jadd_e (by omega) (by omega)]; rfl
      have a1 := g2.skip l2 l3
      have f1 : FR r t (st2 (atP t q) 1570 0 0 ((q + 5 : Nat) : Int)) := f0.tr (FM.st (by omega)).fn.fr
      have b0 : st2 (atP t q) 1570 0 0 ((q + 5 : Nat) : Int) 1575 0 0 = 0 := by rw [st2_ne (by omega), atP_o (by omega)]; exact h0
      have bR : ∀ f, 1583 ≤ f → f ≤ 1585 → st2 (atP t q) 1570 0 0 ((q + 5 : Nat) : Int) f 0 = t f 0 := fun f w1 w2 => by
        rw [st2_row (by omega)]
        exact st2_row (by omega)
      rw [if_pos (show ¬ (x : Int) = 12 by omega), if_neg (show ¬ (tK n bs q = 269 ∧ x = 12) from fun w => z w.2), bnd, e5, bnd]
      generalize st2 (atP t q) 1570 0 0 ((q + 5 : Nat) : Int) = s5 at a1 f1 b0 bR
      obtain ⟨a11, a12, a13, a14, a15, a16, a17⟩ := id a1
      have ev : jadd (jmul 12 (r : Int)) (x : Int) = ((12 * r + x : Nat) : Int) := by rw [jmul_e (by omega) (by omega), jadd_e (by omega) (by omega)]; omega
      rw [bnd, a14, ev, bnd, bnd, a13, sto_t (by omega) (by omega), Int.toNat_natCast]
      have a2 := a1.sr (g := 1583) (j := 12 * r + x) (v := ((entL A).length : Int)) (by omega)
      have f2 : FR r t (st2 s5 1583 0 (12 * r + x) ((entL A).length : Int)) := f1.tr (FR.st (by omega))
      have c0 : st2 s5 1583 0 (12 * r + x) ((entL A).length : Int) 1575 0 0 = 0 := by rw [st2_ne (by omega)]; exact b0
      have cR3 : st2 s5 1583 0 (12 * r + x) ((entL A).length : Int) 1583 0 (12 * r + x) = (entL A).length := st2_eq
      have cR : ∀ f k, 1583 ≤ f → f ≤ 1585 → k < x → st2 s5 1583 0 (12 * r + x) ((entL A).length : Int) f 0 (12 * r + k) = t f 0 (12 * r + k) := fun f k w1 w2 w3 => by
        rw [st2_ne (by omega), bR f w1 w2]
      generalize st2 s5 1583 0 (12 * r + x) ((entL A).length : Int) = s9 at a2 f2 c0 cR3 cR
      obtain ⟨s10, d1, d2, d3⟩ := m183 a2 hc (by omega)
      have d0 : s10 1575 0 0 = 0 := by rw [d2.1 _ _ (pRy_f.mpr (by omega))]; exact c0
      have dR : ∀ f k, 1583 ≤ f → f ≤ 1585 → s10 f 0 k = s9 f 0 k := fun f k w1 w2 => by rw [d2.1 _ _ (pRy_f.mpr (by omega))]
      unfold aCH
      rw [if_pos y, d1, cP_s, bnd]
      cases hs : aSum n bs (nq n bs q) c with
      | inl e =>
        rw [hs] at d3
        have d3 : QE s10 n bs e := d3
        rw [sto_t (by omega) (by omega), Int.toNat_natCast, bnd]
        have d4 : QE (st2 s10 1584 0 (12 * r + x) (s10 1574 0 0)) n bs e := d3.st (by omega)
        simp only [jn]
        rw [d4.1.2.1, if_pos (show ¬ e = 0 by have := d4.1.2.2; omega), bnd, sto_t (by omega) (by omega), Int.toNat_natCast]
        exact ⟨_, rfl, ((f2.tr d2.fn.fr).tr (FR.st (by omega))).tr (FR.st (by omega)), (d4.st (by omega)).w⟩
      | inr p =>
        obtain ⟨q1, c1, S⟩ := p
        rw [hs] at d3
        have d3 : QX s10 n bs q1 c1 (entL A ++ S) r := d3
        have hp := (aSum_p k2 hs).1
        obtain ⟨-, -, e13, -⟩ := id d3.1
        rw [e13, sto_t (by omega) (by omega), Int.toNat_natCast, bnd, bS_r]
        have a3 := d3.1.sr (g := 1584) (j := 12 * r + x) (v := ((entL A ++ S).length : Int)) (by omega)
        have f3 : FR r t (st2 s10 1584 0 (12 * r + x) ((entL A ++ S).length : Int)) := (f2.tr d2.fn.fr).tr (FR.st (by omega))
        have c0' : st2 s10 1584 0 (12 * r + x) ((entL A ++ S).length : Int) 1575 0 0 = 0 := by rw [st2_ne (by omega)]; exact d0
        have cS3 : st2 s10 1584 0 (12 * r + x) ((entL A ++ S).length : Int) 1583 0 (12 * r + x) = (entL A).length := by rw [st2_ne (by omega), dR _ _ (by omega) (by omega), cR3]
        have cS4 : st2 s10 1584 0 (12 * r + x) ((entL A ++ S).length : Int) 1584 0 (12 * r + x) = (entL A ++ S).length := st2_eq
        have cS : ∀ f k, 1583 ≤ f → f ≤ 1585 → k < x → st2 s10 1584 0 (12 * r + x) ((entL A ++ S).length : Int) f 0 (12 * r + k) = t f 0 (12 * r + k) := fun f k w1 w2 w3 => by
          rw [st2_ne (by omega), dR _ _ (by omega) (by omega), cR f k w1 w2 w3]
        generalize st2 s10 1584 0 (12 * r + x) ((entL A ++ S).length : Int) = s12 at a3 f3 c0' cS3 cS4 cS
        -- behind the clause
        have fin : ∀ (z14 : S2) (q2 c2 : Nat) (T : List Int), QA z14 n bs q2 c2 (entL A ++ S ++ T) r → z14 1575 0 0 = 0 → FR r t z14 → (∀ f k, 1583 ≤ f → f ≤ 1585 → z14 f 0 k = s12 f 0 k) → ∃ t', (bnd (z14 1574 0 0) fun v15 => sto z14 1585 0 72 ((12 * r + x : Nat) : Int) v15 fun s16 => some s16) = some t' ∧ FR r t t' ∧ (QA t' n bs q2 c2 (entL (A ++ [(S, T)])) r ∧ t' 1575 0 0 = 0 ∧ RW t' r (A ++ [(S, T)])) := fun z14 q2 c2 T o1 o2 o3 o4 => by
          obtain ⟨-, -, o5, -⟩ := id o1
          have eE : entL A ++ S ++ T = entL (A ++ [(S, T)]) := by
            rw [entL_app]
            show _ = entL A ++ (S ++ T ++ [])
            simp only [List.append_assoc, List.append_nil]
          rw [bnd, o5, sto_t (by omega) (by omega), Int.toNat_natCast]
          have o6 := o1.sr (g := 1585) (j := 12 * r + x) (v := ((entL A ++ S ++ T).length : Int)) (by omega)
          rw [eE] at o6
          refine ⟨_, rfl, o3.tr (FR.st (by omega)), o6, by rw [st2_ne (by omega)]; exact o2, fun k hk => ?_⟩
          rw [List.length_append, List.length_singleton] at hk
          by_cases w : k = x
          · subst w
            rw [← hx, ofA_l (Nat.le_refl _), ofA_r, clA_r, hx]
            refine ⟨?_, ?_, ?_⟩
            · rw [st2_ne (by omega), o4 _ _ (by omega) (by omega)]; exact cS3
            · rw [st2_ne (by omega), o4 _ _ (by omega) (by omega), cS4, List.length_append]
            · rw [st2_eq, List.length_append, List.length_append]
          · have hk2 : k < A.length := by omega
            rw [ofA_l (by omega), clA_l hk2, st2_ne (by omega), st2_ne (by omega), st2_ne (by omega), o4 _ _ (by omega) (by omega), o4 _ _ (by omega) (by omega), o4 _ _ (by omega) (by omega), cS _ _ (by omega) (by omega) (by omega), cS _ _ (by omega) (by omega) (by omega), cS _ _ (by omega) (by omega) (by omega)]
            exact hR k hk2
        simp only [jn]
        rw [a3.fault, if_neg (show ¬ ¬ (0 : Int) = 0 by decide)]
        obtain ⟨s18, l1, l2, l3⟩ := m189 a3
        rw [l1, cR_s]
        have r12 : ∀ f k, 1583 ≤ f → f ≤ 1585 → s18 f 0 k = s12 f 0 k := fun f k w1 w2 => by rw [l2 _ _ (p70_f.mpr (by omega))]
        have z12 : s18 1575 0 0 = 0 := by rw [l2 _ _ (p70_f.mpr (by omega))]; exact c0'
        by_cases v : tK n bs q1 = 270
        · rw [if_pos v] at l3 ⊢
          have hq1 := nq_b (bs := bs) (tK_lt (n := n) (q := q1) (bs := bs) (by omega))
          obtain ⟨s19, o1, o2, o3⟩ := m190 l3 z12 (by omega) (by rw [List.length_append]; omega)
          have r19 : ∀ f k, 1583 ≤ f → f ≤ 1585 → s19 f 0 k = s12 f 0 k := fun f k w1 w2 => by rw [o2.1 _ _ (pNz_f.mpr (by omega)), r12 f k w1 w2]
          have f19 : FR r t s19 := (f3.tr l2.fm.fn.fr).tr o2.fr
          rw [if_neg ne10, o1, cP_s, if_pos v]
          cases hT : aTest n bs 12 0 (nq n bs q1) c1 with
          | inl e =>
            rw [hT] at o3
            have o3 : QW s19 n bs e := o3
            rw [bnd, sto_t (by omega) (by omega), Int.toNat_natCast]
            exact ⟨_, rfl, f19.tr (FR.st (by omega)), o3.st (by omega)⟩
          | inr p =>
            obtain ⟨q2, c2, T⟩ := p
            rw [hT] at o3
            exact fin s19 q2 c2 T o3.1 o3.2 f19 r19
        · rw [if_neg v] at l3 ⊢
          rw [if_pos rfl, if_neg v]
          have l4 : QA s18 n bs q1 c1 (entL A ++ S ++ []) r := by
            rw [List.append_nil]
            exact l3.1
          exact fin s18 q1 c1 [] l4 z12 (f3.tr l2.fm.fn.fr) r12
  · obtain ⟨t', d1, d2, d3⟩ := g2.1.1.fail (k := 0) (p := q) (by omega) (by omega)
    rw [if_neg (fun w => y (hw.mpr w)), if_neg (show ¬ ¬ (0 : Int) = 0 by decide), d1, cP_s, if_neg (show ¬ (tK n bs q = 269 ∧ x = 12) from fun w => y w.1)]
    unfold aCH
    rw [if_neg y]
    exact ⟨t', rfl, f0.tr d3.fm.fn.fr, (g2.1.er d3 d2).w⟩
