/-! THE CLASS' SUMS -/
def pRu (f i : Nat) : Bool := ((Nat.beq f 134 || Nat.beq f 135 || Nat.beq f 641) && Nat.beq i 0) || ((Nat.beq f 768 || Nat.beq f 769) && Nat.beq i 7)
theorem pRu_f {f i : Nat} : pRu f i = false ↔ ¬ (((f = 134 ∨ f = 135 ∨ f = 641) ∧ i = 0) ∨ ((f = 768 ∨ f = 769) ∧ i = 7)) := by
  rw [← Bool.not_eq_true]
  unfold pRu
  simp only [Bool.or_eq_true, Bool.and_eq_true, Nat.beq_eq, or_assoc]
abbrev q13 : Nat → Nat → Bool := p13
theorem Fr.ru {s s' : S2} (h : Fr q13 s s') : Fr pRu s s' := h.mo fun f i w => p13_f.mpr (by have := pRu_f.mp w; omega)
/-- the class at a token of a rule -/
def RA (s : S2) (n : Nat) (bs : Nat → Nat) (m q c : Nat) (L : List Int) : Prop := CAt s n bs m q ∧ s 641 0 0 = c ∧ hasL s 7 L
def RRes (s s' : S2) (n : Nat) (bs : Nat → Nat) (m : Nat) (L : List Int) (r : Int ⊕ PS) : Prop := Fr pRu s s' ∧ match r with
  | .inl e => CEr s' n bs m e
  | .inr (q, c, X) => RA s' n bs m q c (L ++ X)
theorem hasL.add {s : S2} {r : Nat} {L : List Int} {x : Int} (h : hasL s r L) (hl : L.length < 400) (hx : okO x) : hasL (st2 (st2 s 768 r L.length x) 769 r 0 ((L.length : Int) + 1)) r (L ++ [x]) := by
  obtain ⟨h1, h2, h3⟩ := h
  refine ⟨?_, by rw [List.length_append, List.length_singleton]; omega, fun k hk => ?_⟩
  · rw [st2_eq, List.length_append, List.length_singleton]; omega
  · rw [List.length_append, List.length_singleton] at hk
    rw [st2_ne (by omega), st2_d]
    by_cases e : k = L.length
    · rw [if_pos ⟨rfl, rfl, e⟩, e, List.getD_eq_getElem?_getD, List.getElem?_append_right (by omega), Nat.sub_self]
      exact ⟨rfl, hx⟩
    · rw [if_neg (fun w => e w.2.2), List.getD_eq_getElem?_getD, List.getElem?_append_left (by omega), ← List.getD_eq_getElem?_getD]
      exact h3 k (by omega)
theorem m9 {s : S2} {L : List Int} {x : Int} (h : hasL s 7 L) (hl : L.length < 400) (hx : okO x) : ∃ s', f9 7 x s = some s' ∧ hasL s' 7 (L ++ [x]) ∧ Fr (pL 7) s s' := by
  obtain ⟨h1, h2, h3⟩ := id h
  unfold f9
  simp only [bnd]
  rw [h1, if_neg (by omega), if_neg (by omega), sto_t (by omega) (by omega), Int.toNat_natCast, st2_ne (f' := 769) (by omega), h1, jadd_e (by omega) (by omega)]
  exact ⟨_, rfl, h.add hl hx, (Fr.rf.st (by simp [pL])).st (by simp [pL])⟩
theorem m9e {s : S2} {x : Int} : ∃ s', f9 7 x s = some s' ∧ Fr (pL 7) s s' := by
  unfold f9
  simp only [bnd]
  by_cases h1 : s 769 7 0 < 0
  · rw [if_pos h1]
    exact ⟨_, rfl, Fr.rf⟩
  · rw [if_neg h1]
    by_cases h2 : 400 ≤ s 769 7 0
    · rw [if_pos h2]
      exact ⟨_, rfl, Fr.rf⟩
    · rw [if_neg h2, sto_t (by omega) (by omega)]
      exact ⟨_, rfl, (Fr.rf.st (by simp [pL])).st (by simp [pL])⟩
theorem Fr.rl {s s' : S2} (h : Fr (pL 7) s s') : Fr pRu s s' := h.mo fun f i w => pL_f.mpr (by have := pRu_f.mp w; omega)
theorem RA.add {s : S2} {n m q c : Nat} {bs : Nat → Nat} {L : List Int} {x : Int} (h : RA s n bs m q c L) (hl : L.length < 400) (hx : okO x) : ∃ s', f9 7 x s = some s' ∧ RA s' n bs m q c (L ++ [x]) ∧ Fr pRu s s' := by
  obtain ⟨h1, h2, h3⟩ := h
  obtain ⟨s', a1, a2, a3⟩ := m9 h3 hl hx
  exact ⟨s', a1, ⟨h1.fr a3 fun f g1 g2 => pL_f.mpr (by omega), by rw [a3 _ _ (pL_f.mpr (by omega))]; exact h2, a2⟩, a3.rl⟩
theorem CEr.add {s : S2} {n m : Nat} {e x : Int} {bs : Nat → Nat} (h : CEr s n bs m e) : ∃ s', f9 7 x s = some s' ∧ CEr s' n bs m e ∧ Fr pRu s s' := by
  obtain ⟨s', a1, a3⟩ := m9e (s := s) (x := x)
  exact ⟨s', a1, h.fr a3 fun f g1 g2 => pL_f.mpr (by omega), a3.rl⟩
theorem RA.step {s : S2} {n m q c : Nat} {bs : Nat → Nat} {L : List Int} (h : RA s n bs m q c L) : ∃ s', f36 s = some s' ∧ RA s' n bs m (nq n bs q) c L ∧ Fr pRu s s' := by
  obtain ⟨h1, h2, h3⟩ := h
  obtain ⟨s', a1, a2, a3⟩ := h1.step
  exact ⟨s', a1, ⟨a2, by rw [a3 _ _ (p13_f.mpr (by omega))]; exact h2, h3.fr (a3 _ _ (p13_f.mpr (by omega))) (a3 _ _ (p13_f.mpr (by omega)))⟩, a3.ru⟩
theorem CEr.step {s : S2} {n m : Nat} {e : Int} {bs : Nat → Nat} (h : CEr s n bs m e) : ∃ s', f36 s = some s' ∧ CEr s' n bs m e ∧ Fr pRu s s' := by
  obtain ⟨⟨c, h1⟩, h3, h4, h5⟩ := h
  exact ⟨_, m36 h1, ⟨⟨_, h1.go⟩, by rw [st2_ne (by omega)]; exact h3, h4, h5⟩, Fr.ru (show Fr q13 s _ from Fr.rf.st rfl)⟩
theorem CEr.ref0 {s : S2} {n m : Nat} {k e : Int} {bs : Nat → Nat} (h : CEr s n bs m e) (hk : 0 ≤ k ∧ k ≤ 7) : f34 k s = some s := by
  obtain ⟨⟨c, h1⟩, h3, h4, h5⟩ := h
  rw [m34 h1 h5 hk]
  unfold rfS
  rw [if_pos (by omega)]
theorem CAt.val {s : S2} {n m q : Nat} {bs : Nat → Nat} (h : CAt s n bs m q) : f40 s = some (tV n bs q) := by
  obtain ⟨⟨c, h1, h2⟩, h3, h4, h5⟩ := h
  rw [m40 h1, h2]
theorem CEr.val {s : S2} {n m : Nat} {e : Int} {bs : Nat → Nat} (h : CEr s n bs m e) : ∃ v, f40 s = some v := by
  obtain ⟨⟨c, h1⟩, h3, h4, h5⟩ := h
  exact ⟨_, m40 h1⟩
theorem m64 {K : Int} : f64 K = some (if isV K = true then 1 else 0) := by
  unfold f64 isV
  by_cases h : K = 2 ∨ (256 ≤ K ∧ K ≤ 268)
  · rw [if_pos (show decide (K = 2 ∨ (256 ≤ K ∧ K ≤ 268)) = true from decide_eq_true h)]
    by_cases h2 : K = 2
    · rw [if_pos h2]
    · rw [if_neg h2, if_neg (by omega), if_neg (by omega)]
  · rw [if_neg (show ¬ decide (K = 2 ∨ (256 ≤ K ∧ K ≤ 268)) = true by rw [decide_eq_false h]; decide), if_neg (by omega)]
    by_cases h2 : K < 256
    · rw [if_pos h2]
    · rw [if_neg h2, if_pos (by omega)]
theorem m64t {K : Int} (h : isV K = true) : f64 K = some 1 := by rw [m64, if_pos h]
theorem m64f {K : Int} (h : ¬ isV K = true) : f64 K = some 0 := by rw [m64, if_neg h]
def sgX (sg : Int) : List Int := if sg = 0 then [] else [-sg]
/-- what is left of a term at a round of its loop -/
def aTmR (n : Nat) (bs : Nat → Nat) (i : Nat) (sg : Int) (q c : Nat) (X : List Int) : Int ⊕ PS := bS (aVal n bs q c) fun q1 c1 Y => aTm n bs (60 - i) q1 c1 (X ++ Y ++ sgX sg)
/-- one round: a value that stands -/
theorem m63_v {z : S2} {n m q c i : Nat} {bs : Nat → Nat} {sg : Int} {L : List Int} (h : RA z n bs m q c L) (hn : n ≤ 400) (hb : ∀ k, k < n → bs k < 256) (hL : L.length + (sgX sg).length ≤ q) (hs : sg = 0 ∨ isM sg = true) (hi : i ≤ 60) (hv : isV (tK n bs q) = true) (hw : tV n bs q ≠ -1) (hc : c < 60) : ∃ z1, RA z1 n bs m (nq n bs q) (c + 1) (L ++ [cdV n bs q] ++ sgX sg) ∧ Fr pRu z z1 ∧ f63_a sg i z = if isM (tK n bs (nq n bs q)) = true then (cP (f36 z1) fun s15 => some (.inl (tK n bs (nq n bs q), ((i + 1 : Nat) : Int), s15))) else some (.inr (.inr (.inl z1))) := by
  have hp := aVal_p (n := n) (bs := bs) (q := q) (c := c) (q' := nq n bs q) (c' := c + 1) (X := [cdV n bs q]) hb (by unfold aVal; rw [if_pos hv, if_neg hw, if_neg (by omega)])
  have hok : okO (cdV n bs q) := hp.2.1 _ (List.mem_singleton.mpr rfl)
  have hq1 := hp.1
  have hk := of_decide_eq_true hv
  obtain ⟨h1, h2, h3⟩ := id h
  have hR2 : RA (st2 z 641 0 0 ((c + 1 : Nat) : Int)) n bs m q (c + 1) L := ⟨h1.st (by omega), st2_eq, h3.fr (st2_row (by omega)) (st2_row (by omega))⟩
  have hF2 : Fr pRu z (st2 z 641 0 0 ((c + 1 : Nat) : Int)) := Fr.rf.st rfl
  obtain ⟨z3, a1, a2, a3⟩ := hR2.add (x := cdV n bs q) (by omega) hok
  have sgn : ∃ z4, (if sg = 0 then some z3 else f9 7 (jneg sg) z3) = some z4 ∧ RA z4 n bs m q (c + 1) (L ++ [cdV n bs q] ++ sgX sg) ∧ Fr pRu z3 z4 := by
    by_cases s0 : sg = 0
    · rw [if_pos s0]
      have : sgX sg = [] := if_pos s0
      rw [this, List.append_nil]
      exact ⟨z3, rfl, a2, Fr.rf⟩
    · have hm := hs.resolve_left s0
      have hm2 := of_decide_eq_true hm
      have : sgX sg = [-sg] := if_neg s0
      rw [this, List.length_singleton] at hL
      rw [if_neg s0, this, jneg_e (by omega) (by omega)]
      exact a2.add (by rw [List.length_append, List.length_singleton]; omega) (ty_m (t := []) (Or.inl hm)).2
  obtain ⟨z4, b1, b2, b3⟩ := sgn
  obtain ⟨z5, d1, d2, d3⟩ := b2.step
  refine ⟨z5, d2, ((hF2.tr a3).tr b3).tr d3, ?_⟩
  have e4 : jadd (c : Int) 1 = ((c + 1 : Nat) : Int) := by rw [jadd_e (by omega) (by omega)]; rfl
  have e5 : jadd (i : Int) 1 = ((i + 1 : Nat) : Int) := by rw [jadd_e (by omega) (by omega)]; rfl
  have fin : (cP (f36 z4) fun s13 => cP (f32 s13) fun r14 => if r14 = 42 then (cP (f36 s13) fun s15 => some (Sum.inl (r14, jadd (i : Int) 1, s15))) else if r14 = 47 then (cP (f36 s13) fun s15 => some (Sum.inl (r14, jadd (i : Int) 1, s15))) else if r14 = 37 then (cP (f36 s13) fun s15 => some (Sum.inl (r14, jadd (i : Int) 1, s15))) else some (.inr (.inr (.inl s13)))) = if isM (tK n bs (nq n bs q)) = true then (cP (f36 z5) fun s15 => some (.inl (tK n bs (nq n bs q), ((i + 1 : Nat) : Int), s15))) else some ((.inr (.inr (.inl z5))) : (Int × Int × S2) ⊕ ((Int × Int × S2) ⊕ (S2 ⊕ S2))) := by
    rw [d1, cP_s, d2.1.kind, cP_s, e5]
    unfold isM
    by_cases k1 : tK n bs (nq n bs q) = 42
    · rw [if_pos k1, if_pos (decide_eq_true (Or.inl k1))]
    · rw [if_neg k1]
      by_cases k2 : tK n bs (nq n bs q) = 47
      · rw [if_pos k2, if_pos (decide_eq_true (Or.inr (Or.inl k2)))]
      · rw [if_neg k2]
        by_cases k3 : tK n bs (nq n bs q) = 37
        · rw [if_pos k3, if_pos (decide_eq_true (Or.inr (Or.inr k3)))]
        · rw [if_neg k3, if_neg (by rw [decide_eq_false (by omega)]; decide)]
  unfold f63_a
  simp only [bnd, jn]
  rw [if_neg (by omega), h1.kind, cP_s, h1.val, cP_s, m64t hv, cP_s, if_neg ne10, if_neg hw, h2, if_pos (by omega), e4]
  by_cases k2 : tK n bs q = 2
  · have e1 : tV n bs q = cdV n bs q := by
      unfold cdV
      rw [if_pos k2]
    rw [if_neg (fun w => w k2), e1, a1, cP_s]
    by_cases s0 : sg = 0
    · rw [if_pos s0] at b1 ⊢
      cases b1
      exact fin
    · rw [if_neg s0] at b1 ⊢
      rw [b1, cP_s]
      exact fin
  · have e1 : jneg (tK n bs q) = cdV n bs q := by
      unfold cdV
      rw [if_neg k2, jneg_e (by omega) (by omega)]
    rw [if_pos k2, e1, a1, cP_s]
    by_cases s0 : sg = 0
    · rw [if_pos s0] at b1 ⊢
      cases b1
      exact fin
    · rw [if_neg s0] at b1 ⊢
      rw [b1, cP_s]
      exact fin
theorem m63_x {z : S2} {n m q c i : Nat} {bs : Nat → Nat} {sg : Int} {L : List Int} (h : RA z n bs m q c L) (hi : i ≤ 60) (hv : ¬ (isV (tK n bs q) = true ∧ tV n bs q ≠ -1 ∧ c < 60)) : f63_a sg i z = some (.inr (.inl (tK n bs q, tV n bs q, z))) := by
  obtain ⟨h1, h2, h3⟩ := h
  unfold f63_a
  simp only [bnd, jn]
  rw [if_neg (by omega), h1.kind, cP_s, h1.val, cP_s]
  by_cases v : isV (tK n bs q) = true
  · rw [m64t v, cP_s, if_neg ne10]
    by_cases w : tV n bs q = -1
    · rw [if_pos w]
    · rw [if_neg w, h2, if_neg (fun y => hv ⟨v, w, by omega⟩)]
  · rw [m64f v, cP_s, if_pos rfl]
theorem m63 {s : S2} {n m q c : Nat} {bs : Nat → Nat} {L : List Int} (h : RA s n bs m q c L) (hL : L.length ≤ q) : ∃ s', f63 s = some s' ∧ RRes s s' n bs m L (aTerm n bs q c) := by
  have hn : n ≤ 400 := h.1.2.2.2
  have hb := h.1.2.2.1
  generalize hT : aTerm n bs q c = T
  unfold f63
  refine inv_cP (a := ((0 : Int), (0 : Int), s)) (P := fun e => ∃ s', e = some s' ∧ RRes s s' n bs m L T) (fun (i : Nat) (y : Int × Int × S2) => y.2.1 = i ∧ i ≤ 60 ∧ Fr pRu s y.2.2 ∧ (y.1 = 0 ∨ isM y.1 = true) ∧ ∃ q1 c1 X, RA y.2.2 n bs m q1 c1 (L ++ X) ∧ (L ++ X).length + (sgX y.1).length ≤ q1 ∧ i ≤ c1 ∧ aTmR n bs i y.1 q1 c1 X = T) (fun (r : (Int × Int × S2) ⊕ (S2 ⊕ S2)) => match r with
    | .inl (K, V, z) => Fr pRu s z ∧ ∃ q1, CAt z n bs m q1 ∧ K = tK n bs q1 ∧ V = tV n bs q1 ∧ T = .inl (1 + 8 * (q1 : Int) + (if isV K = true then (if V = -1 then 1 else 3) else 0))
    | .inr (.inl z) => RRes s z n bs m L T
    | .inr (.inr _) => False) 61 (by omega) ?_ ?_ ?_
  · refine ⟨rfl, by omega, Fr.rf, Or.inl rfl, q, c, [], by rw [List.append_nil]; exact h, by rw [List.append_nil]; exact hL, by omega, ?_⟩
    rw [← hT]
    unfold aTmR aTerm
    have : sgX 0 = [] := rfl
    simp only [List.nil_append, this, List.append_nil]
  · rintro i ⟨sg, x, z⟩ hi ⟨g1, g2, g3, g4, q1, c1, X, g5, g6, g7, g8⟩
    dsimp only at g1 g3 g4 g5 g6 g8 ⊢
    subst g1
    unfold aTmR aVal at g8
    by_cases v : isV (tK n bs q1) = true ∧ tV n bs q1 ≠ -1 ∧ c1 < 60
    · rw [if_pos v.1, if_neg v.2.1, if_neg (show ¬ 60 ≤ c1 by have := v.2.2; omega), bS_r] at g8
      obtain ⟨z1, a1, a2, a3⟩ := m63_v (i := i) g5 hn hb g6 g4 g2 v.1 v.2.1 v.2.2
      have hq := nq_b (bs := bs) (tK_lt (n := n) (q := q1) (bs := bs) (by have := of_decide_eq_true v.1; omega))
      rw [show 60 - i = (60 - (i + 1)) + 1 by omega] at g8
      unfold aTm at g8
      have eL : L ++ X ++ [cdV n bs q1] ++ sgX sg = L ++ (X ++ [cdV n bs q1] ++ sgX sg) := by simp only [List.append_assoc]
      rw [eL] at a1
      have hlen : (L ++ (X ++ [cdV n bs q1] ++ sgX sg)).length ≤ nq n bs q1 := by
        rw [← eL, List.length_append, List.length_append, List.length_singleton]
        omega
      by_cases w : isM (tK n bs (nq n bs q1)) = true
      · rw [if_pos w] at g8 a3
        obtain ⟨z2, b1, b2, b3⟩ := a1.step
        have hq2 := nq_b (bs := bs) (tK_lt (n := n) (q := nq n bs q1) (bs := bs) (isM_0 (Or.inl w)))
        rw [b1, cP_s] at a3
        refine Or.inl ⟨by omega, _, a3, rfl, by omega, (g3.tr a2).tr b3, Or.inr w, _, _, _, b2, ?_, by omega, ?_⟩
        · have : sgX (tK n bs (nq n bs q1)) = [-(tK n bs (nq n bs q1))] := if_neg (isM_0 (Or.inl w))
          rw [this, List.length_singleton]
          omega
        · unfold aTmR
          have : sgX (tK n bs (nq n bs q1)) = [-(tK n bs (nq n bs q1))] := if_neg (isM_0 (Or.inl w))
          rw [this]
          exact g8
      · rw [if_neg w] at g8 a3
        refine Or.inr ⟨_, a3, ?_⟩
        dsimp only
        rw [← g8]
        exact ⟨g3.tr a2, a1⟩
    · have hx := m63_x (sg := sg) (i := i) g5 g2 v
      refine Or.inr ⟨_, hx, g3, q1, g5.1, rfl, rfl, ?_⟩
      rw [← g8]
      by_cases w1 : isV (tK n bs q1) = true
      · rw [if_pos w1, if_pos w1]
        by_cases w2 : tV n bs q1 = -1
        · rw [if_pos w2, if_pos w2]; rfl
        · rw [if_neg w2, if_neg w2, if_pos (show 60 ≤ c1 by
            by_cases y : 60 ≤ c1
            · exact y
            · exact absurd ⟨w1, w2, by omega⟩ v)]; rfl
      · rw [if_neg w1, if_neg w1]; rfl
  · rintro (⟨K, V, z⟩ | (z | z))
    · rintro ⟨g1, q1, g2, rfl, rfl, g3⟩
      dsimp only [se]
      simp only [jn]
      by_cases w1 : isV (tK n bs q1) = true
      · rw [if_pos w1] at g3
        rw [m64t w1, cP_s, if_pos ne10]
        by_cases w2 : tV n bs q1 = -1
        · rw [if_pos w2] at g3
          obtain ⟨z', b1, b2, b3⟩ := g2.refuse (k := 1) (by omega)
          rw [if_neg (fun y => y w2), b1, cP_s]
          refine ⟨z', rfl, g1.tr b3.ru, ?_⟩
          rw [g3]
          exact b2
        · rw [if_neg w2] at g3
          obtain ⟨z', b1, b2, b3⟩ := g2.refuse (k := 3) (by omega)
          rw [if_pos w2, b1, cP_s]
          refine ⟨z', rfl, g1.tr b3.ru, ?_⟩
          rw [g3]
          exact b2
      · rw [if_neg w1] at g3
        obtain ⟨z', b1, b2, b3⟩ := g2.refuse (k := 0) (by omega)
        rw [m64f w1, cP_s, if_neg (by decide), b1, cP_s]
        refine ⟨z', rfl, g1.tr b3.ru, ?_⟩
        rw [g3]
        exact b2
    · intro g
      exact ⟨z, rfl, g⟩
    · exact fun g => g.elim
theorem m63e {s : S2} {n m : Nat} {e : Int} {bs : Nat → Nat} (h : CEr s n bs m e) : f63 s = some s := by
  obtain ⟨v, hv⟩ := h.val
  have h0 : f64 0 = some 0 := rfl
  have hl : itr (fun (x1, x2, s3) => f63_a x1 x2 s3) am_fu (0, 0, s) = some (.inl (0, v, s)) := by
    refine itr_seq (fun _ => ((0 : Int), (0 : Int), s)) 0 _ (fun i hi => absurd hi (by omega)) ?_ am_fu (fu_lt (by omega))
    show f63_a 0 0 s = _
    unfold f63_a
    rw [if_neg (by omega), h.kind, cP_s, hv, cP_s, h0, cP_s, if_pos rfl]
  unfold f63
  rw [hl, cP_s]
  dsimp only [se]
  simp only [jn]
  rw [h0, cP_s, if_neg (by decide), h.ref0 (by omega), cP_s]
