/-! A RULE's clauses -/
def clE (S T : List Int) : List Int := S ++ (if T = [] then [-59] else T ++ [-270])
def encL : List (List Int × List Int) → List Int
  | [] => []
  | p :: r => clE p.1 p.2 ++ encL r
theorem encL_app {B : List (List Int × List Int)} : ∀ {A : List (List Int × List Int)}, encL (A ++ B) = encL A ++ encL B
  | [] => rfl
  | p :: r => by
    show clE p.1 p.2 ++ encL (r ++ B) = clE p.1 p.2 ++ encL r ++ encL B
    rw [encL_app, List.append_assoc]
def aCH (n : Nat) (bs : Nat → Nat) (q c : Nat) : Int ⊕ (Nat × Nat × List Int × List Int) := if tK n bs q = 269 then (bS (aSum n bs (nq n bs q) c) fun q1 c1 S => if tK n bs q1 = 270 then bS (aTest n bs 12 0 (nq n bs q1) c1) fun q2 c2 T => .inr (q2, c2, S, T) else .inr (q1, c1, S, [])) else .inl (1 + 8 * (q : Int) + 0)
def aCl (n : Nat) (bs : Nat → Nat) (x q c : Nat) : Int ⊕ (Nat × Nat × List Int × List Int) := if tK n bs q = 269 ∧ x = 12 then .inl (1 + 8 * (q : Int) + 4) else aCH n bs q c
def aRl (n : Nat) (bs : Nat → Nat) : Nat → Nat → Nat → Nat → List (List Int × List Int) → Int ⊕ List (List Int × List Int)
  | 0, _, _, _, _ => .inl 0
  | f + 1, x, q, c, A => match aCl n bs x q c with
    | .inl e => .inl e
    | .inr (q', c', S, T) => if tK n bs q' = 0 then .inr (A ++ [(S, T)]) else if tK n bs q' = 59 then aRl n bs f (x + 1) (nq n bs q') c' (A ++ [(S, T)]) else .inl (1 + 8 * (q' : Int) + 0)
def okL (S : List Int) : Prop := ∀ x, x ∈ S → okO x
theorem aCH_p {n q c q' c' : Nat} {bs : Nat → Nat} {S T : List Int} (hb : ∀ k, k < n → bs k < 256) (h : aCH n bs q c = .inr (q', c', S, T)) : (q < q' ∧ q' ≤ n ∧ c < c' ∧ c' ≤ 60 ∧ (clE S T).length + q ≤ q' ∧ 3 * (S.length + T.length) + 6 * c + q ≤ 6 * c' + q') ∧ wfS S T ∧ okL S ∧ okL T ∧ tK n bs q = 269 := by
  unfold aCH at h
  by_cases k : tK n bs q = 269
  · rw [if_pos k] at h
    have hq := nq_b (bs := bs) (tK_lt (n := n) (q := q) (bs := bs) (by omega))
    obtain ⟨q1, c1, S', e1, e2⟩ := bS_i h
    obtain ⟨a1, a2, a3⟩ := aSum_p hb e1
    by_cases k2 : tK n bs q1 = 270
    · rw [if_pos k2] at e2
      have hq1 := nq_b (bs := bs) (tK_lt (n := n) (q := q1) (bs := bs) (by omega))
      obtain ⟨q2, c2, T', e3, e4⟩ := bS_i e2
      cases e4
      obtain ⟨b1, b2, b3⟩ := aTest_p hb 12 _ _ _ _ _ _ (by omega) (by omega) e3
      have hT : T ≠ [] := fun w => by
        subst w
        have := b3 [] (by rw [List.length_nil]; omega)
        cases this
      refine ⟨?_, ⟨a3 [] (by rw [List.length_nil]; omega), Or.inr ⟨b3 [] (by rw [List.length_nil]; omega), b3 [false] (by rw [List.length_singleton]; omega)⟩⟩, a2, b2, k⟩
      unfold clE
      rw [if_neg hT, List.length_append, List.length_append, List.length_singleton]
      omega
    · rw [if_neg k2] at e2
      cases e2
      refine ⟨?_, ⟨a3 [] (by rw [List.length_nil]; omega), Or.inl rfl⟩, a2, fun x hx => (by cases hx), k⟩
      unfold clE
      rw [if_pos rfl, List.length_append, List.length_singleton, List.length_nil]
      omega
  · rw [if_neg k] at h; cases h
/-- the class' clause, by what goes on behind it -/
def clH {R : Type} (s7 : S2) (J : S2 → Option R) : Option R := cP (f55 269 s7) fun s8 => cP (f62 s8) fun s9 => cP (f32 s9) fun r10 => if ¬ r10 = 270 then (cP (f9 7 (-59) s9) fun s16 => J s16) else cP (f36 s9) fun s17 => cP (f65 12 0 s17) fun s18 => cP (f9 7 (-270) s18) fun s19 => J s19
def clB {R : Type} (x : Int) (s5 : S2) (J : S2 → Option R) : Option R := if ¬ x = 12 then (clH s5 J) else cP (f32 s5) fun r20 => if ¬ r20 = 269 then (clH s5 J) else cP (f34 4 s5) fun s21 => clH s21 J
def clJ (x : Int) (s11 : S2) : Option ((Int × S2) ⊕ (S2 ⊕ S2)) := bnd (s11 135 0 0) fun v12 => if ¬ v12 = 0 then (cP (f55 59 s11) fun s13 => bnd (jadd x 1) fun v14 => some (.inl (v14, s13))) else cP (f32 s11) fun r15 => if ¬ r15 = 0 then (cP (f55 59 s11) fun s13 => bnd (jadd x 1) fun v14 => some (.inl (v14, s13))) else some (.inr (.inl s11))
theorem f61_e {x : Int} {s : S2} : f61_a x s = if 12 < x then (some (.inr (.inr s))) else if ¬ s 135 0 0 = 0 then (some (.inr (.inr s))) else clB x s (clJ x) := rfl
def CRs (s s' : S2) (n : Nat) (bs : Nat → Nat) (m : Nat) (L : List Int) (r : Int ⊕ (Nat × Nat × List Int × List Int)) : Prop := Fr pRu s s' ∧ match r with
  | .inl e => CEr s' n bs m e
  | .inr (q', c', S, T) => RA s' n bs m q' c' (L ++ clE S T)
theorem clH_e {s : S2} {n m : Nat} {e : Int} {bs : Nat → Nat} {R : Type} {J : S2 → Option R} (h : CEr s n bs m e) : ∃ z', clH s J = J z' ∧ CEr z' n bs m e ∧ Fr pRu s z' := by
  obtain ⟨z', b1, b2, b3⟩ := h.add (x := -59)
  refine ⟨z', ?_, b2, b3⟩
  unfold clH
  rw [h.expK (by decide), cP_s, m62e h, cP_s, h.kind, cP_s, if_pos (by decide), b1, cP_s]
theorem clH_t {s : S2} {n m q c : Nat} {bs : Nat → Nat} {L : List Int} {R : Type} {J : S2 → Option R} (h : RA s n bs m q c L) (hL : L.length ≤ q) : ∃ z', clH s J = J z' ∧ CRs s z' n bs m L (aCH n bs q c) := by
  have hn : n ≤ 400 := h.1.2.2.2
  have hb := h.1.2.2.1
  obtain ⟨s1, a1, a2, a3⟩ := RA.expK (K := 269) h
  unfold aCH
  by_cases k : tK n bs q = 269
  · rw [if_pos k] at a3 ⊢
    have hq := nq_b (bs := bs) (tK_lt (n := n) (q := q) (bs := bs) (by omega))
    obtain ⟨s2, b1, b2, b3⟩ := m62 a3 (by omega)
    unfold clH
    rw [a1, cP_s, b1, cP_s]
    cases hx : aSum n bs (nq n bs q) c with
    | inl e =>
      rw [hx] at b3
      have b3 : CEr s2 n bs m e := b3
      obtain ⟨z', l1, l2, l3⟩ := b3.add (x := -59)
      rw [b3.kind, cP_s, if_pos (show ¬ (0 : Int) = 270 by decide), l1, cP_s]
      exact ⟨z', rfl, (a2.tr b2).tr l3, l2⟩
    | inr p =>
      obtain ⟨q1, c1, S⟩ := p
      rw [hx] at b3
      have b3 : RA s2 n bs m q1 c1 (L ++ S) := b3
      obtain ⟨p1, -, -⟩ := aSum_p hb hx
      rw [bS_r, b3.1.kind, cP_s]
      by_cases k2 : tK n bs q1 = 270
      · have hq1 := nq_b (bs := bs) (tK_lt (n := n) (q := q1) (bs := bs) (by omega))
        obtain ⟨s3, d1, d2, d3⟩ := b3.step
        obtain ⟨s4, l1, l2, l3⟩ := m65 (m := m) hb 12 0 (nq n bs q1) c1 (L ++ S) s3 (by omega) (by omega) d2 (by rw [List.length_append]; omega)
        rw [if_pos k2, if_neg (fun w => w k2), d1, cP_s, show (0 : Int) = ((0 : Nat) : Int) from rfl, l1, cP_s]
        cases hy : aTest n bs 12 0 (nq n bs q1) c1 with
        | inl e =>
          rw [hy] at l3
          have l3 : CEr s4 n bs m e := l3
          obtain ⟨z', o1, o2, o3⟩ := l3.add (x := -270)
          rw [o1, cP_s]
          exact ⟨z', rfl, (((a2.tr b2).tr d3).tr l2).tr o3, o2⟩
        | inr p =>
          obtain ⟨q2, c2, T⟩ := p
          rw [hy] at l3
          have l3 : RA s4 n bs m q2 c2 (L ++ S ++ T) := l3
          obtain ⟨p2, -, p3⟩ := aTest_p hb 12 _ _ _ _ _ _ (by omega) (by omega) hy
          have hT : T ≠ [] := fun w => by
            subst w
            have := p3 [] (by rw [List.length_nil]; omega)
            cases this
          obtain ⟨z', o1, o2, o3⟩ := l3.add (x := -270) (by
            rw [List.length_append, List.length_append]; omega) (by unfold okO; omega)
          rw [o1, cP_s, bS_r]
          refine ⟨z', rfl, (((a2.tr b2).tr d3).tr l2).tr o3, ?_⟩
          have eL : L ++ S ++ T ++ [-270] = L ++ clE S T := by
            unfold clE
            rw [if_neg hT]
            simp only [List.append_assoc]
          rw [eL] at o2
          exact o2
      · obtain ⟨z', o1, o2, o3⟩ := b3.add (x := -59) (by
          rw [List.length_append]; omega) (by unfold okO; omega)
        rw [if_neg k2, if_pos k2, o1, cP_s]
        refine ⟨z', rfl, (a2.tr b2).tr o3, ?_⟩
        have eL : L ++ S ++ [-59] = L ++ clE S [] := by
          unfold clE
          rw [if_pos rfl]
          simp only [List.append_assoc]
        rw [eL] at o2
        exact o2
  · rw [if_neg k] at a3 ⊢
    unfold clH
    obtain ⟨z', l1, l2, l3⟩ := a3.add (x := -59)
    rw [a1, cP_s, m62e a3, cP_s, a3.kind, cP_s, if_pos (show ¬ (0 : Int) = 270 by decide), l1, cP_s]
    exact ⟨z', rfl, a2.tr l3, l2⟩
theorem clB_t {s : S2} {n m q c x : Nat} {bs : Nat → Nat} {L : List Int} {R : Type} {J : S2 → Option R} (h : RA s n bs m q c L) (hL : L.length ≤ q) : ∃ z', clB x s J = J z' ∧ CRs s z' n bs m L (aCl n bs x q c) := by
  unfold clB aCl
  by_cases x12 : x = 12
  · rw [if_neg (show ¬ ¬ (x : Int) = 12 by omega), h.1.kind, cP_s]
    by_cases k : tK n bs q = 269
    · obtain ⟨s1, b1, b2, b3⟩ := h.1.refuse (k := 4) (by omega)
      obtain ⟨z', d1, d2, d3⟩ := clH_e (J := J) b2
      rw [if_neg (fun w => w k), if_pos ⟨k, x12⟩, b1, cP_s, d1]
      exact ⟨z', rfl, b3.ru.tr d3, d2⟩
    · rw [if_pos k, if_neg (fun w => k w.1)]
      exact clH_t h hL
  · rw [if_pos (show ¬ (x : Int) = 12 by omega), if_neg (fun w => x12 w.2)]
    exact clH_t h hL
theorem aCl_p {n x q c q' c' : Nat} {bs : Nat → Nat} {S T : List Int} (hb : ∀ k, k < n → bs k < 256) (h : aCl n bs x q c = .inr (q', c', S, T)) : (q < q' ∧ q' ≤ n ∧ c < c' ∧ c' ≤ 60 ∧ (clE S T).length + q ≤ q' ∧ 3 * (S.length + T.length) + 6 * c + q ≤ 6 * c' + q') ∧ wfS S T ∧ okL S ∧ okL T ∧ x ≠ 12 := by
  unfold aCl at h
  by_cases k : tK n bs q = 269 ∧ x = 12
  · rw [if_pos k] at h; cases h
  · rw [if_neg k] at h
    obtain ⟨a1, a2, a3, a4, a5⟩ := aCH_p hb h
    exact ⟨a1, a2, a3, a4, fun w => k ⟨a5, w⟩⟩
theorem m61l {s : S2} {n m q0 : Nat} {bs : Nat → Nat} (h : RA s n bs m q0 0 []) : ∃ r, itr (fun (x4, s5) => f61_a x4 s5) am_fu (0, s) = some r ∧ ((∃ z A, r = .inl z ∧ aRl n bs 13 0 q0 0 [] = .inr A ∧ hasL z 7 (encL A) ∧ Fr pRu s z) ∨ (∃ z e, r = .inr z ∧ aRl n bs 13 0 q0 0 [] = .inl e ∧ CEr z n bs m e ∧ Fr pRu s z)) := by
  have hn : n ≤ 400 := h.1.2.2.2
  have hb := h.1.2.2.1
  generalize hT : aRl n bs 13 0 q0 0 [] = T
  refine itr_inv (b := fun (x4, s5) => f61_a x4 s5) (fun (i : Nat) (z : Int × S2) => z.1 = i ∧ Fr pRu s z.2 ∧ ((i ≤ 12 ∧ ∃ q c A, RA z.2 n bs m q c (encL A) ∧ (encL A).length ≤ q ∧ aRl n bs (13 - i) i q c A = T) ∨ (∃ e, T = .inl e ∧ CEr z.2 n bs m e))) (fun (r : S2 ⊕ S2) => (∃ z A, r = .inl z ∧ T = .inr A ∧ hasL z 7 (encL A) ∧ Fr pRu s z) ∨ (∃ z e, r = .inr z ∧ T = .inl e ∧ CEr z n bs m e ∧ Fr pRu s z)) 20 ?_ am_fu (fu_lt (by omega)) ((0 : Int), s) ⟨rfl, Fr.rf, Or.inl ⟨by omega, q0, 0, [], h, Nat.zero_le _, hT⟩⟩
  rintro i ⟨x, z⟩ hi ⟨g1, g2, g3⟩
  dsimp only at g1 g2 g3 ⊢
  subst g1
  rcases g3 with ⟨g3, q, c, A, g4, g5, g6⟩ | ⟨e, g3, g4⟩
  · have ej : jadd (i : Int) 1 = ((i + 1 : Nat) : Int) := by rw [jadd_e (by omega) (by omega)]; rfl
    obtain ⟨s', k2, k1⟩ := clB_t (x := i) (J := clJ i) g4 g5
    have st : f61_a i z = clJ i s' := by
      rw [f61_e, if_neg (by omega), if_neg (fun w => w g4.1.2.1), k2]
    rw [show 13 - i = (12 - i) + 1 by omega] at g6
    unfold aRl at g6
    obtain ⟨k0, k1⟩ := k1
    have g2' := g2.tr k0
    unfold clJ at st
    rw [bnd] at st
    cases hx : aCl n bs i q c with
    | inl e =>
      rw [hx] at g6 k1
      have k1 : CEr s' n bs m e := k1
      dsimp only at g6
      have := k1.2.2.1
      rw [k1.2.1, if_pos (show ¬ e = 0 by omega), k1.expK (by decide), cP_s, bnd, ej] at st
      exact Or.inl ⟨by omega, (((i + 1 : Nat) : Int), s'), st, rfl, g2', Or.inr ⟨e, g6.symm, k1⟩⟩
    | inr t =>
      obtain ⟨q', c', S, T'⟩ := t
      obtain ⟨w1, w2, w3, w4, w5⟩ := aCl_p hb hx
      rw [hx] at g6 k1
      have k1 : RA s' n bs m q' c' (encL A ++ clE S T') := k1
      have eL : encL A ++ clE S T' = encL (A ++ [(S, T')]) := by
        rw [encL_app]
        show _ = encL A ++ (clE S T' ++ [])
        rw [List.append_nil]
      have hlen : (encL (A ++ [(S, T')])).length ≤ q' := by
        rw [← eL, List.length_append]
        omega
      rw [eL] at k1
      dsimp only at g6
      rw [k1.1.2.1, if_neg (show ¬ ¬ (0 : Int) = 0 by decide), k1.1.kind, cP_s] at st
      by_cases t0 : tK n bs q' = 0
      · rw [if_pos t0] at g6
        rw [if_neg (fun w => w t0)] at st
        exact Or.inr ⟨_, st, Or.inl ⟨s', _, rfl, g6.symm, k1.2.2, g2'⟩⟩
      · rw [if_neg t0] at g6
        obtain ⟨s3, l1, l2, l3⟩ := RA.expK (K := 59) k1
        rw [if_pos t0, l1, cP_s, bnd, ej] at st
        refine Or.inl ⟨by omega, (((i + 1 : Nat) : Int), s3), st, rfl, g2'.tr l2, ?_⟩
        by_cases t9 : tK n bs q' = 59
        · rw [if_pos t9] at g6 l3
          have hq' := nq_b (bs := bs) (tK_lt (n := n) (q := q') (bs := bs) t0)
          refine Or.inl ⟨by omega, nq n bs q', c', _, l3, by omega, ?_⟩
          rw [show 13 - (i + 1) = 12 - i by omega]
          exact g6
        · rw [if_neg t9] at g6 l3
          exact Or.inr ⟨_, g6.symm, l3⟩
  · refine Or.inr ⟨.inr z, ?_, Or.inr ⟨z, e, rfl, g3, g4, g2⟩⟩
    show f61_a i z = _
    have := g4.2.2.1
    rw [f61_e]
    by_cases y : (12 : Int) < i
    · rw [if_pos y]
    · rw [if_neg y, g4.2.1, if_pos (show ¬ e = 0 by omega)]
def pRq (f i : Nat) : Bool := (Nat.ble 130 f && Nat.ble f 135 && Nat.beq i 0) || pRu f i
theorem pRq_f {f i : Nat} : pRq f i = false ↔ ¬ ((130 ≤ f ∧ f ≤ 135 ∧ i = 0) ∨ (f = 641 ∧ i = 0) ∨ ((f = 768 ∨ f = 769) ∧ i = 7)) := by
  unfold pRq
  rw [Bool.or_eq_false_iff, pRu_f, ← Bool.not_eq_true]
  simp only [Bool.and_eq_true, Nat.beq_eq, Nat.ble_eq]
  omega
theorem m61 {s : S2} {n : Nat} {bs : Nat → Nat} (h : HC s bs n) (hn : n ≤ 400) : ∃ r z, f61 s = some (r, z) ∧ Fr pRq s z ∧ ((∃ A, r = 0 ∧ aRl n bs 13 0 (sk n bs 0) 0 [] = .inr A ∧ hasL z 7 (encL A)) ∨ (0 < r ∧ aRl n bs 13 0 (sk n bs 0) 0 [] = .inl r)) := by
  unfold f61
  rw [bnd, bnd]
  have hc : HC (st2 (st2 s 769 7 0 0) 641 0 0 0) bs n := ⟨by rw [st2_ne (by omega), st2_ne (by omega)]; exact h.1, fun k hk => by rw [st2_ne (by omega), st2_ne (by omega)]; exact h.2 k hk⟩
  have f1 : Fr pRq s (st2 (st2 s 769 7 0 0) 641 0 0 0) := (Fr.rf.st (by decide)).st (by decide)
  have hl : hasL (st2 (st2 s 769 7 0 0) 641 0 0 0) 7 [] := ⟨by rw [st2_ne (by omega), st2_eq]; rfl, Nat.zero_le _, fun k hk => absurd hk (by rw [List.length_nil]; omega)⟩
  have h6 : st2 (st2 s 769 7 0 0) 641 0 0 0 641 0 0 = ((0 : Nat) : Int) := st2_eq
  generalize st2 (st2 s 769 7 0 0) 641 0 0 0 = s1 at hc f1 hl h6
  obtain ⟨s2, m, b1, b2, b3, b4, b5⟩ := m21 hc hn
  have hA : RA s2 n bs m (sk n bs 0) 0 [] := ⟨⟨⟨0, ⟨b2, b3, by omega⟩, rfl⟩, b4, fun k hk => (h.2 k hk).1, hn⟩, by rw [b5 _ _ (pTk_f.mpr (by omega))]; exact h6, hl.fr (b5 _ _ (pTk_f.mpr (by omega))) (b5 _ _ (pTk_f.mpr (by omega)))⟩
  have f2 : Fr pRq s s2 := f1.tr (b5.mo fun f i w => pTk_f.mpr (by have := pRq_f.mp w; omega))
  obtain ⟨r, c1, c2⟩ := m61l hA
  rw [b1, cP_s, c1, cP_s]
  have f3 : ∀ z, Fr pRu s2 z → Fr pRq s z := fun z hz => f2.tr (hz.mo fun f i w => (Bool.or_eq_false_iff.mp w).2)
  rcases c2 with ⟨z, A, rfl, d2, d3, d4⟩ | ⟨z, e, rfl, d2, d3, d4⟩
  · exact ⟨0, z, rfl, f3 z d4, Or.inl ⟨A, rfl, d2, d3⟩⟩
  · refine ⟨e, z, ?_, f3 z d4, Or.inr ⟨d3.2.2.1, d2⟩⟩
    show bnd (z 135 0 0) (fun v20 => some (v20, z)) = _
    rw [bnd, d3.2.1]
def pRt (R : Nat) (f i : Nat) : Bool := Nat.beq f 129 || Nat.beq f 898 || pL R f i || pRq f i
theorem pRt_f {R f i : Nat} : pRt R f i = false ↔ ¬ (f = 129 ∨ f = 898 ∨ ((f = 768 ∨ f = 769) ∧ i = R) ∨ (130 ≤ f ∧ f ≤ 135 ∧ i = 0) ∨ (f = 641 ∧ i = 0) ∨ ((f = 768 ∨ f = 769) ∧ i = 7)) := by
  unfold pRt
  rw [Bool.or_eq_false_iff, Bool.or_eq_false_iff, Bool.or_eq_false_iff, pRq_f, pL_f, ← Bool.not_eq_true, ← Bool.not_eq_true]
  simp only [Nat.beq_eq]
  omega
theorem hasL.ofw {s s' : S2} {a b : Nat} {L : List Int} (h : hasL s b L) (e : lw s' a = lw s b) : hasL s' a L := by
  obtain ⟨h1, h2, h3⟩ := h
  refine ⟨?_, h2, fun k hk => ?_⟩
  · have e1 := congrFun (congrFun e 769) 0
    rw [lw769, lw769] at e1
    rw [e1]; exact h1
  · have e1 := congrFun (congrFun e 768) k
    rw [lw768 (by omega), lw768 (by omega)] at e1
    rw [e1]; exact h3 k hk
theorem m59 {s : S2} {n R : Nat} {bs : Nat → Nat} (h : HC s bs n) (hn : n ≤ 400) (hR : s 898 0 0 = R) (hR6 : R < 6) : ∃ r z, f59 s = some (r, z) ∧ Fr (pRt R) s z ∧ z 129 0 0 = 0 ∧ ((∃ A, r = R ∧ aRl n bs 13 0 (sk n bs 0) 0 [] = .inr A ∧ hasL z R (encL A) ∧ z 898 0 0 = ((R + 1 : Nat) : Int)) ∨ (∃ e, 0 < e ∧ aRl n bs 13 0 (sk n bs 0) 0 [] = .inl e ∧ r = jsub (-2) e ∧ Fr (fun f i => (Nat.beq f 129 && Nat.beq i 0) || pRq f i) s z)) := by
  obtain ⟨r, z, a1, a2, a3⟩ := m61 h hn
  have h60 : f60 s = some 0 := by
    unfold f60
    rw [bnd, hR, if_pos (by omega)]
  have f2 : Fr (pRt R) s z := a2.mo fun f i w => (Bool.or_eq_false_iff.mp w).2
  have f4 : Fr (fun f i => (Nat.beq f 129 && Nat.beq i 0) || pRq f i) s (st2 z 129 0 0 0) := (a2.mo fun f i w => (Bool.or_eq_false_iff.mp w).2).tr (fr_one.mo fun f i w => (Bool.or_eq_false_iff.mp w).1)
  have f3 : Fr (pRt R) s (st2 z 129 0 0 0) := f2.tr (fr_one.mo fun f i w => one_f (by have := pRt_f.mp w; omega))
  unfold f59
  rw [h60, cP_s, if_pos rfl, a1, cR_s, bnd]
  rcases a3 with ⟨A, rfl, b2, b3⟩ | ⟨b1, b2⟩
  · have e8 : st2 z 129 0 0 0 898 0 0 = R := by rw [st2_ne (by omega), a2 _ _ (pRq_f.mpr (by omega)), hR]
    have eR : am_el 0 0 0 R = R := rfl
    obtain ⟨z2, d1, d2, d3⟩ := m70 (a := R) (b := 7) (s := st2 z 129 0 0 0) (by omega)
    have e9 : z2 898 0 0 = R := by rw [d3 _ _ (pL_f.mpr (by omega)), e8]
    have hl : hasL (st2 z 129 0 0 0) 7 (encL A) := b3.fr (st2_row (by omega)) (st2_row (by omega))
    have hl2 := hl.ofw d2
    have e1 : jadd (R : Int) 1 = ((R + 1 : Nat) : Int) := by rw [jadd_e (by omega) (by omega)]; rfl
    have e2 : jsub ((R + 1 : Nat) : Int) 1 = R := by rw [jsub_e (by omega) (by omega)]; omega
    have h69 : f69 7 (st2 z 129 0 0 0) = some ((R : Int), st2 z2 898 0 0 ((R + 1 : Nat) : Int)) := by
      unfold f69
      simp only [jn, bnd]
      rw [e8, if_neg (by omega), if_neg (by omega), ldr_t (by omega) (by omega), Int.toNat_natCast, eR, d1, cP_s, e9, e1, st2_eq, e2]
    rw [if_pos rfl, h69, cR_s]
    refine ⟨_, _, rfl, f3.tr ((d3.mo fun f i w => pL_f.mpr (by have := pRt_f.mp w; omega)).tr (fr_one.mo fun f i w => one_f (by have := pRt_f.mp w; omega))), ?_, Or.inl ⟨A, rfl, b2, hl2.fr (st2_row (by omega)) (st2_row (by omega)), st2_eq⟩⟩
    rw [st2_ne (by omega), d3 _ _ (pL_f.mpr (by omega)), st2_eq]
  · rw [if_neg (by omega), bnd]
    exact ⟨_, _, rfl, f3, st2_eq, Or.inr ⟨r, b1, b2, rfl, f4⟩⟩
