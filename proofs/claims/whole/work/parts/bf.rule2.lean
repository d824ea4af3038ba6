/-! RULE, both -/
theorem aRl_p {n : Nat} {bs : Nat → Nat} (hb : ∀ k, k < n → bs k < 256) : ∀ {f x q c : Nat} {A A' : List (List Int × List Int)}, aRl n bs f x q c A = .inr A' → A.length = x → (∀ p, p ∈ A → wfS p.1 p.2) → (∀ p, p ∈ A' → wfS p.1 p.2)
  | 0, _, _, _, _, _, h, _, _ => by unfold aRl at h; cases h
  | f + 1, x, q, c, A, A', h, hx, hA => by
    unfold aRl at h
    cases e : aCl n bs x q c with
    | inl e' => rw [e] at h; cases h
    | inr t =>
      obtain ⟨q', c', S, T⟩ := t
      rw [e] at h
      dsimp only at h
      have hw := (aCl_p hb e).2.1
      have hA2 : ∀ p, p ∈ A ++ [(S, T)] → wfS p.1 p.2 := fun p hp => by
        rw [List.mem_append, List.mem_singleton] at hp
        rcases hp with hp | rfl
        · exact hA p hp
        · exact hw
      by_cases t0 : tK n bs q' = 0
      · rw [if_pos t0] at h
        cases h
        exact hA2
      · rw [if_neg t0] at h
        by_cases t9 : tK n bs q' = 59
        · rw [if_pos t9] at h
          exact aRl_p hb h (by rw [List.length_append, List.length_singleton, hx]) hA2
        · rw [if_neg t9] at h; cases h
theorem RW.fr {t t' : S2} {r : Nat} {A : List (List Int × List Int)} (h : RW t r A) (e : ∀ f k, 1583 ≤ f → f ≤ 1585 → t' f 0 k = t f 0 k) : RW t' r A := fun k hk => by
  rw [e _ _ (by omega) (by omega), e _ _ (by omega) (by omega), e _ _ (by omega) (by omega)]
  exact h k hk
def EN (t : S2) (r : Nat) (E : List Int) : Prop := E.length ≤ 300 ∧ ∀ k, k < E.length → entM t r k (E.getD k 0)
theorem m181l {t : S2} {n q0 r : Nat} {bs : Nat → Nat} (h : QA t n bs q0 0 [] r) (h0 : t 1575 0 0 = 0) : ∃ x z, itr (fun (x5, x6, s7) => f181_a x5 x6 s7) am_fu (0, 1, t) = some (x, z) ∧ FR r t z ∧ ((∃ A, aRl n bs 13 0 q0 0 [] = .inr A ∧ z 1571 0 0 = 0 ∧ x = A.length ∧ A.length ≤ 12 ∧ RW z r A ∧ EN z r (entL A)) ∨ (∃ e, aRl n bs 13 0 q0 0 [] = .inl e ∧ z 1571 0 0 = e ∧ 0 < e)) := by
  have hb : ∀ k, k < n → bs k < 256 := by
    obtain ⟨⟨⟨p, k1, -⟩, -⟩, -⟩ := h
    exact k1.2.1
  generalize hT : aRl n bs 13 0 q0 0 [] = T
  have key := itr_inv (b := fun (x5, x6, s7) => f181_a x5 x6 s7) (fun (i : Nat) (z : Int × Int × S2) => z.1 = i ∧ FR r t z.2.2 ∧ ((i ≤ 12 ∧ z.2.1 = 1 ∧ ∃ q c A, QA z.2.2 n bs q c (entL A) r ∧ z.2.2 1575 0 0 = 0 ∧ RW z.2.2 r A ∧ A.length = i ∧ c ≤ 60 ∧ 3 * (entL A).length ≤ 6 * c + q ∧ aRl n bs (13 - i) i q c A = T) ∨ (z.2.1 = 0 ∧ ((∃ A, T = .inr A ∧ z.2.2 1571 0 0 = 0 ∧ i = A.length ∧ i ≤ 12 ∧ RW z.2.2 r A ∧ EN z.2.2 r (entL A)) ∨ (∃ e, T = .inl e ∧ z.2.2 1571 0 0 = e ∧ 0 < e))))) (fun (y : Int × S2) => FR r t y.2 ∧ ((∃ A, T = .inr A ∧ y.2 1571 0 0 = 0 ∧ y.1 = A.length ∧ A.length ≤ 12 ∧ RW y.2 r A ∧ EN y.2 r (entL A)) ∨ (∃ e, T = .inl e ∧ y.2 1571 0 0 = e ∧ 0 < e))) 20 (by
    rintro i ⟨x, y, z⟩ hi ⟨g1, g2, g3⟩
    dsimp only at g1 g2 g3 ⊢
    subst g1
    rcases g3 with ⟨g3, rfl, q, c, A, g4, g5, g6, g7, g8, g9, g10⟩ | ⟨rfl, g3⟩
    · left
      refine ⟨by omega, ?_⟩
      obtain ⟨s8, a1, a2, a3⟩ := m182 g4 g5 g6 g7 g3 g8 g9
      have ej : jadd (i : Int) 1 = ((i + 1 : Nat) : Int) := by rw [jadd_e (by omega) (by omega)]; rfl
      have st0 : f181_a i 1 z = cR (f178 s8) fun r10 s11 => some (.inl (((i + 1 : Nat) : Int), r10, s11)) := by
        unfold f181_a
        rw [if_neg ne10, a1, cP_s, bnd, ej]
      rw [show 13 - i = (12 - i) + 1 by omega] at g10
      unfold aRl at g10
      cases hx : aCl n bs i q c with
      | inl e =>
        rw [hx] at g10 a3
        dsimp only at g10
        have a3 : QW s8 n bs e := a3
        obtain ⟨z', l1, l2, l3⟩ := m178w a3
        refine ⟨(((i + 1 : Nat) : Int), 0, z'), ?_, rfl, (g2.tr a2).tr l2.fm.fn.fr, Or.inr ⟨rfl, Or.inr ⟨e, g10.symm, l3, a3.2.2⟩⟩⟩
        show f181_a i 1 z = _
        rw [st0, l1, cR_s]
      | inr w =>
        obtain ⟨q', c', S, T'⟩ := w
        obtain ⟨w1, w2, w3, w4, w5⟩ := aCl_p hb hx
        rw [hx] at g10 a3
        dsimp only at g10
        obtain ⟨a3, a4, a5⟩ := (a3 : QA s8 n bs q' c' (entL (A ++ [(S, T')])) r ∧ s8 1575 0 0 = 0 ∧ RW s8 r (A ++ [(S, T')]))
        obtain ⟨r10, z', l1, l2, l3⟩ := m178 a3.1
        have hb59 := bt_59 (n := n) (bs := bs) (q := q') hb
        have st1 : f181_a i 1 z = some (.inl (((i + 1 : Nat) : Int), r10, z')) := by rw [st0, l1, cR_s]
        have hR' : RW z' r (A ++ [(S, T')]) := a5.fr fun f k y1 y2 => by rw [l2 _ _ (p70_f.mpr (by omega))]
        have hl : (entL (A ++ [(S, T')])).length = (entL A).length + (S.length + T'.length) := by
          rw [entL_app]
          show (entL A ++ (S ++ T' ++ [])).length = _
          rw [List.append_nil, List.length_append, List.length_append]
        have hlA : (A ++ [(S, T')]).length = i + 1 := by rw [List.length_append, List.length_singleton, g7]
        have hle := a3.1.le
        refine ⟨(((i + 1 : Nat) : Int), r10, z'), st1, rfl, (g2.tr a2).tr l2.fm.fn.fr, ?_⟩
        rcases l3 with ⟨m1, m2, m3⟩ | ⟨m1, m2, m3, m4⟩ | ⟨m1, m2, m3, m4⟩
        · rw [if_pos (hb59.2.1.mpr m1)] at g10
          refine Or.inr ⟨m2, Or.inl ⟨A ++ [(S, T')], g10.symm, m3, hlA.symm, by omega, hR', by rw [hl]; omega, fun k hk => ?_⟩⟩
          exact (a3.2.2.2.2.2.2 k hk).fr (l2 _ _ (p70_f.mpr (by omega))) (l2 _ _ (p70_f.mpr (by omega)))
        · rw [if_neg (fun w => by have := hb59.2.1.mp w; omega), if_pos m2] at g10
          have hq' := nq_b (bs := bs) m1
          refine Or.inl ⟨by omega, m3, nq n bs q', c', A ++ [(S, T')], a3.at l2 m4, by show z' 1575 0 0 = 0; rw [l2 _ _ (p70_f.mpr (by omega))]; exact a4, hR', hlA, by omega, by rw [hl]; omega, ?_⟩
          rw [show 13 - (i + 1) = 12 - i by omega]
          exact g10
        · rw [if_neg (fun w => by have := hb59.2.1.mp w; omega), if_neg m2] at g10
          exact Or.inr ⟨m3, Or.inr ⟨_, g10.symm, m4, by omega⟩⟩
    · refine Or.inr ⟨((i : Int), z), ?_, g2, ?_⟩
      · show f181_a i 0 z = _
        unfold f181_a
        rw [if_pos rfl]
      · rcases g3 with ⟨A, k1, k2, k3, k4, k5, k6⟩ | k
        · exact Or.inl ⟨A, k1, k2, by dsimp only; omega, by omega, k5, k6⟩
        · exact Or.inr k) am_fu (fu_lt (by omega)) ((0 : Int), (1 : Int), t) ⟨rfl, FR.rf, Or.inl ⟨by omega, rfl, q0, 0, [], h, h0, fun k hk => absurd hk (by rw [List.length_nil]; omega), rfl, by omega, by
      show 3 * 0 ≤ _
      omega, hT⟩⟩
  obtain ⟨⟨x, z⟩, k1, k2, k3⟩ := key
  exact ⟨x, z, k1, k2, k3⟩
theorem encF_L : ∀ {A : List (List Int × List Int)} {S T : Nat → List Int} {c : Nat}, (∀ k, k < A.length → S (c + k) = (clA A k).1 ∧ T (c + k) = (clA A k).2) → encF S T c A.length = encL A
  | [], _, _, _, _ => rfl
  | p :: s, S, T, c, h => by
    have h0 := h 0 (by rw [List.length_cons]; omega)
    have ih := encF_L (A := s) (S := S) (T := T) (c := c + 1) fun k hk => by
      have := h (k + 1) (by rw [List.length_cons]; omega)
      rw [show c + 1 + k = c + (k + 1) by omega]
      exact this
    show S c ++ ((if T c = [] then [-59] else T c ++ [-270]) ++ encF S T (c + 1) s.length) = clE p.1 p.2 ++ encL s
    rw [ih]
    have e1 : S c = p.1 := h0.1
    have e2 : T c = p.2 := h0.2
    rw [e1, e2]
    unfold clE
    rw [List.append_assoc]
theorem entL_at {A : List (List Int × List Int)} {c : Nat} (hc : c < A.length) : entL A = entL (A.take c) ++ ((clA A c).1 ++ ((clA A c).2 ++ entL (A.drop (c + 1)))) := by
  have h1 : A = A.take c ++ (clA A c :: A.drop (c + 1)) := by
    have h2 : A.drop c = clA A c :: A.drop (c + 1) := by
      rw [List.drop_eq_getElem_cons hc]
      congr 1
      unfold clA
      rw [List.getD_eq_getElem?_getD, List.getElem?_eq_getElem hc]
      rfl
    rw [← h2, List.take_append_drop]
  conv => lhs; rw [h1]
  rw [entL_app]
  show _ ++ ((clA A c).1 ++ (clA A c).2 ++ entL (A.drop (c + 1))) = _
  rw [List.append_assoc]
theorem getD_l {A B : List Int} {k : Nat} (h : k < A.length) : (A ++ B).getD k 0 = A.getD k 0 := by
  rw [List.getD_eq_getElem?_getD, List.getElem?_append_left h, ← List.getD_eq_getElem?_getD]
theorem getD_r {A B : List Int} {k : Nat} : (A ++ B).getD (A.length + k) 0 = B.getD k 0 := by
  rw [List.getD_eq_getElem?_getD, List.getElem?_append_right (by omega), show A.length + k - A.length = k by omega, ← List.getD_eq_getElem?_getD]
theorem law_A {t : S2} {r : Nat} {A : List (List Int × List Int)} (hr : r < 6) (hA : A.length ≤ 12) (h1 : t 1582 0 r = A.length) (hR : RW t r A) (hE : EN t r (entL A)) (hw : ∀ p, p ∈ A → wfS p.1 p.2) : MLaw t r (encL A) ∧ wfc (encL A) [] := by
  have hcl : ∀ k, k < A.length → wfS (clA A k).1 (clA A k).2 := fun k hk => by
    refine hw _ ?_
    unfold clA
    rw [List.getD_eq_getElem?_getD, List.getElem?_eq_getElem hk]
    exact List.getElem_mem hk
  have he : encF (fun k => (clA A k).1) (fun k => (clA A k).2) 0 A.length = encL A := encF_L fun k hk => by
    rw [Nat.zero_add]
    exact ⟨rfl, rfl⟩
  refine ⟨⟨hr, A.length, fun k => (clA A k).1, fun k => (clA A k).2, ofA A, hA, h1, he.symm, fun c hc => ?_⟩, ?_⟩
  · obtain ⟨r1, r2, r3⟩ := hR c hc
    have hl := entL_at hc
    have hlen : (entL A).length = ofA A c + ((clA A c).1.length + ((clA A c).2.length + (entL (A.drop (c + 1))).length)) := by
      conv => lhs; rw [hl]
      rw [List.length_append, List.length_append, List.length_append]
      rfl
    have hE1 := hE.1
    dsimp only
    refine ⟨hcl c hc, by omega, r1, r2, r3, fun k hk => ?_, fun k hk => ?_⟩
    · have := hE.2 (ofA A c + k) (by omega)
      rw [hl] at this
      have e : (entL (A.take c) ++ ((clA A c).1 ++ ((clA A c).2 ++ entL (A.drop (c + 1))))).getD (ofA A c + k) 0 = (clA A c).1.getD k 0 := by
        unfold ofA
        rw [getD_r, getD_l hk]
      rw [e] at this
      exact this
    · have := hE.2 (ofA A c + (clA A c).1.length + k) (by omega)
      rw [hl] at this
      have e : (entL (A.take c) ++ ((clA A c).1 ++ ((clA A c).2 ++ entL (A.drop (c + 1))))).getD (ofA A c + (clA A c).1.length + k) 0 = (clA A c).2.getD k 0 := by
        unfold ofA
        rw [Nat.add_assoc, getD_r, getD_r, getD_l hk]
      rw [e] at this
      exact this
  · rw [← he]
    exact encF_wf fun k h1 h2 => hcl k (by omega)
theorem MLaw.keep {t t' : S2} {r R : Nat} {code : List Int} (h : MLaw t r code) (hr : r < R) (h1 : ∀ k, k < 300 * R → t' 1580 0 k = t 1580 0 k ∧ t' 1581 0 k = t 1581 0 k) (h2 : ∀ k, k < 12 * R → t' 1583 0 k = t 1583 0 k ∧ t' 1584 0 k = t 1584 0 k ∧ t' 1585 0 k = t 1585 0 k) (h3 : ∀ k, k < R → t' 1582 0 k = t 1582 0 k) : MLaw t' r code := by
  obtain ⟨g1, n, S, T, a, g2, g3, g4, g5⟩ := h
  have ek : ∀ j op, j < 300 → entM t r j op → entM t' r j op := fun j op hj he => by
    unfold entM
    rw [(h1 (300 * r + j) (by omega)).1, (h1 (300 * r + j) (by omega)).2]
    exact he
  refine ⟨g1, n, S, T, a, g2, by rw [h3 r hr]; exact g3, g4, fun c hc => ?_⟩
  obtain ⟨w1, w2, w3, w4, w5, w6, w7⟩ := g5 c hc
  obtain ⟨y1, y2, y3⟩ := h2 (12 * r + c) (by omega)
  rw [y1, y2, y3]
  exact ⟨w1, w2, w3, w4, w5, fun k hk => ek _ _ (by omega) (w6 k hk), fun k hk => ek _ _ (by omega) (w7 k hk)⟩
def pRr (f i : Nat) : Bool := Nat.beq f 1569 || Nat.beq f 1572 || Nat.beq f 1573 || Nat.beq f 1582 || pRk f i
theorem pRr_f {f i : Nat} : pRr f i = false ↔ ¬ (f = 1569 ∨ f = 1572 ∨ f = 1573 ∨ f = 1582 ∨ (f = 1570 ∨ f = 1571) ∨ ((f = 1574 ∨ f = 1575 ∨ f = 1576 ∨ f = 1577 ∨ f = 1580 ∨ f = 1581 ∨ f = 1583 ∨ f = 1584 ∨ f = 1585 ∨ f = 1586) ∧ i = 0)) := by
  unfold pRr
  rw [Bool.or_eq_false_iff, Bool.or_eq_false_iff, Bool.or_eq_false_iff, Bool.or_eq_false_iff, pRk_f, ← Bool.not_eq_true, ← Bool.not_eq_true, ← Bool.not_eq_true, ← Bool.not_eq_true]
  simp only [Nat.beq_eq]
  omega
theorem m181 {t : S2} {n R : Nat} {bs : Nat → Nat} (h : HMt t bs n) (hb : ∀ k, k < n → bs k < 256) (hn : n ≤ 400) (h13 : t 1578 0 0 = 13) (hR : t 1573 0 0 = R) (hR6 : R < 6) : ∃ r t', f181 t = some (r, t') ∧ Fr pRr t t' ∧ t' 1569 0 0 = 0 ∧ (∀ k, k < 300 * R → t' 1580 0 k = t 1580 0 k ∧ t' 1581 0 k = t 1581 0 k) ∧ (∀ k, k < 12 * R → t' 1583 0 k = t 1583 0 k ∧ t' 1584 0 k = t 1584 0 k ∧ t' 1585 0 k = t 1585 0 k) ∧ (∀ k, k < R → t' 1582 0 k = t 1582 0 k) ∧ ((∃ A, aRl n bs 13 0 (sk n bs 0) 0 [] = .inr A ∧ r = R ∧ MLaw t' R (encL A) ∧ wfc (encL A) [] ∧ t' 1573 0 0 = ((R + 1 : Nat) : Int)) ∨ (∃ e, aRl n bs 13 0 (sk n bs 0) 0 [] = .inl e ∧ 0 < e ∧ r = jsub (-2) e ∧ t' 1573 0 0 = R)) := by
  generalize hS : st2 (st2 (st2 (st2 (st2 (st2 t 1572 0 0 R) 1570 0 0 0) 1571 0 0 0) 1574 0 0 0) 1575 0 0 0) 1576 0 0 0 = S
  have o : ∀ f k, ¬ (f = 1570 ∨ f = 1571 ∨ f = 1572 ∨ f = 1574 ∨ f = 1575 ∨ f = 1576) → S f 0 k = t f 0 k := fun f k w => by
    rw [← hS, st2_ne (by omega), st2_ne (by omega), st2_ne (by omega), st2_ne (by omega), st2_ne (by omega), st2_ne (by omega)]
  have fS : Fr pRr t S := by
    rw [← hS]
    exact (((((Fr.rf.st rfl).st rfl).st rfl).st rfl).st rfl).st rfl
  have e70 : S 1570 0 0 = ((0 : Nat) : Int) := by
    rw [← hS, st2_ne (by omega), st2_ne (by omega), st2_ne (by omega), st2_ne (by omega), st2_eq]; rfl
  have e71 : S 1571 0 0 = 0 := by rw [← hS, st2_ne (by omega), st2_ne (by omega), st2_ne (by omega), st2_eq]
  have e72 : S 1572 0 0 = R := by rw [← hS, st2_ne (by omega), st2_ne (by omega), st2_ne (by omega), st2_ne (by omega), st2_ne (by omega), st2_eq]
  have e74 : S 1574 0 0 = ((0 : Nat) : Int) := by rw [← hS, st2_ne (by omega), st2_ne (by omega), st2_eq]; rfl
  have e75 : S 1575 0 0 = 0 := by rw [← hS, st2_ne (by omega), st2_eq]
  have e76 : S 1576 0 0 = ((0 : Nat) : Int) := by rw [← hS, st2_eq]; rfl
  have hA : MAt S n bs (sk n bs 0) := ⟨⟨0, ⟨⟨by rw [o _ _ (by omega)]; exact h.1, fun k hk => by rw [o _ _ (by omega)]; exact h.2 k hk⟩, hb, hn, e70, by omega⟩, rfl⟩, e71⟩
  have hQ : QA S n bs (sk n bs 0) 0 [] R := ⟨hA, e76, e74, e72, by rw [o _ _ (by omega)]; exact h13, hR6, fun k hk => absurd hk (by rw [List.length_nil]; omega)⟩
  obtain ⟨x, z, k1, k2, k3⟩ := m181l hQ e75
  have fz : Fr pRr t z := fS.tr (k2.1.mo fun f i w => (Bool.or_eq_false_iff.mp w).2)
  have z72 : z 1572 0 0 = R := by rw [k2.1 _ _ (pRk_f.mpr (by omega))]; exact e72
  have z73 : z 1573 0 0 = R := by rw [k2.1 _ _ (pRk_f.mpr (by omega)), o _ _ (by omega)]; exact hR
  have main : f181 t = bnd (st2 (st2 z 1569 0 0 0) 1582 0 R x 1571 0 0) fun v18 => (fun (j79 : Int → Option (Int × S2)) => if ¬ v18 = 0 then (j79 0) else j79 1) fun x19 => bnd (st2 (st2 (st2 z 1569 0 0 0) 1582 0 R x) 1573 0 0 (jadd R x19)) fun s20 => bnd (s20 1571 0 0) fun v21 => if v21 ≤ 0 then (bnd (s20 1573 0 0) fun v22 => bnd (jsub v22 1) fun v23 => some (v23, s20)) else bnd (s20 1571 0 0) fun v24 => bnd (jsub (-2) v24) fun v25 => some (v25, s20) := by
    unfold f181
    rw [bnd, hR, if_pos (show ¬ (R : Int) = 6 by omega), bnd, bnd, m161, cP_s, hS, k1, cP_s]
    dsimp only
    rw [bnd, bnd, st2_ne (f' := 1572) (by omega), z72, sto_t (by omega) (by omega), Int.toNat_natCast, bnd, st2_ne (f' := 1573) (by omega), st2_ne (f' := 1573) (by omega), z73]
    rfl
  have keep : ∀ v, (∀ k, k < 300 * R → st2 (st2 (st2 z 1569 0 0 0) 1582 0 R x) 1573 0 0 v 1580 0 k = t 1580 0 k ∧ st2 (st2 (st2 z 1569 0 0 0) 1582 0 R x) 1573 0 0 v 1581 0 k = t 1581 0 k) ∧ (∀ k, k < 12 * R → st2 (st2 (st2 z 1569 0 0 0) 1582 0 R x) 1573 0 0 v 1583 0 k = t 1583 0 k ∧ st2 (st2 (st2 z 1569 0 0 0) 1582 0 R x) 1573 0 0 v 1584 0 k = t 1584 0 k ∧ st2 (st2 (st2 z 1569 0 0 0) 1582 0 R x) 1573 0 0 v 1585 0 k = t 1585 0 k) ∧ (∀ k, k < R → st2 (st2 (st2 z 1569 0 0 0) 1582 0 R x) 1573 0 0 v 1582 0 k = t 1582 0 k) := fun v => by
    refine ⟨fun k hk => ?_, fun k hk => ?_, fun k hk => ?_⟩
    · obtain ⟨y1, y2⟩ := k2.2.1 k hk
      rw [st2_ne (by omega), st2_ne (by omega), st2_ne (by omega), st2_ne (by omega), st2_ne (by omega), st2_ne (by omega), y1, y2, o _ _ (by omega), o _ _ (by omega)]
      exact ⟨rfl, rfl⟩
    · obtain ⟨y1, y2, y3⟩ := k2.2.2 k hk
      rw [st2_ne (by omega), st2_ne (by omega), st2_ne (by omega), st2_ne (by omega), st2_ne (by omega), st2_ne (by omega), st2_ne (by omega), st2_ne (by omega), st2_ne (by omega), y1, y2, y3, o _ _ (by omega), o _ _ (by omega), o _ _ (by omega)]
      exact ⟨rfl, rfl, rfl⟩
    · rw [st2_ne (by omega), st2_ne (by omega), st2_ne (by omega), k2.1 _ _ (pRk_f.mpr (by omega)), o _ _ (by omega)]
  have fr : ∀ v, Fr pRr t (st2 (st2 (st2 z 1569 0 0 0) 1582 0 R x) 1573 0 0 v) := fun v => ((fz.st rfl).st rfl).st rfl
  have z69 : ∀ v, st2 (st2 (st2 z 1569 0 0 0) 1582 0 R x) 1573 0 0 v 1569 0 0 = 0 := fun v => by rw [st2_ne (by omega), st2_ne (by omega), st2_eq]
  have z71 : ∀ v, st2 (st2 (st2 z 1569 0 0 0) 1582 0 R x) 1573 0 0 v 1571 0 0 = z 1571 0 0 := fun v => by rw [st2_ne (by omega), st2_ne (by omega), st2_ne (by omega)]
  rw [main]
  simp only [bnd]
  rw [st2_ne (f' := 1571) (by omega), st2_ne (f' := 1571) (by omega)]
  rcases k3 with ⟨A, a1, a2, a3, a4, a5, a6⟩ | ⟨e, a1, a2, a3⟩
  · have e1 : jadd (R : Int) 1 = ((R + 1 : Nat) : Int) := by rw [jadd_e (by omega) (by omega)]; rfl
    have e2 : jsub ((R + 1 : Nat) : Int) 1 = R := by rw [jsub_e (by omega) (by omega)]; omega
    rw [a2, if_neg (show ¬ ¬ (0 : Int) = 0 by decide), e1, z71, a2, if_pos (by omega), st2_eq, e2]
    have hl := law_A (t := st2 (st2 (st2 z 1569 0 0 0) 1582 0 R x) 1573 0 0 ((R + 1 : Nat) : Int)) (r := R) (A := A) hR6 a4 (by rw [st2_ne (by omega), st2_eq, a3]) (a5.fr fun f k w1 w2 => by rw [st2_ne (by omega), st2_ne (by omega), st2_ne (by omega)]) ⟨a6.1, fun k hk => (a6.2 k hk).fr (by rw [st2_row (by omega), st2_row (by omega), st2_row (by omega)]) (by rw [st2_row (by omega), st2_row (by omega), st2_row (by omega)])⟩ (aRl_p hb a1 rfl (fun p hp => by cases hp))
    obtain ⟨q1, q2, q3⟩ := keep ((R + 1 : Nat) : Int)
    exact ⟨_, _, rfl, fr _, z69 _, q1, q2, q3, Or.inl ⟨A, a1, rfl, hl.1, hl.2, st2_eq⟩⟩
  · have e1 : jadd (R : Int) 0 = R := by rw [jadd_e (by omega) (by omega)]; omega
    rw [a2, if_pos (show ¬ e = 0 by omega), e1, z71, a2, if_neg (by omega)]
    obtain ⟨q1, q2, q3⟩ := keep (R : Int)
    exact ⟨_, _, rfl, fr _, z69 _, q1, q2, q3, Or.inr ⟨e, a1, a3, rfl, st2_eq⟩⟩
