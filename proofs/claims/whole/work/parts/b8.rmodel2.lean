theorem tok1 {n q b : Nat} {bs : Nat → Nat} (hb : ∀ k, k < n → bs k < 256) (hs : sg b = true) (h2 : b ≠ 60 ∧ b ≠ 62) : (tK n bs q = (b : Int) ↔ bt n bs q = (b : Int)) ∧ (bt n bs q = (b : Int) → q < n ∧ tL n bs q = 1) := by
  have hb93 : b ≤ 93 ∧ 37 ≤ b := by
    have : b ∈ sgL := of_decide_eq_true hs
    simp only [sgL, List.mem_cons, List.mem_nil_iff, or_false] at this
    omega
  have hd : ¬ (48 ≤ b ∧ b ≤ 57) := by
    have : b ∈ sgL := of_decide_eq_true hs
    simp only [sgL, List.mem_cons, List.mem_nil_iff, or_false] at this
    omega
  have hx : bt n bs q = (b : Int) → q < n ∧ tL n bs q = 1 ∧ tK n bs q = (b : Int) := fun w => by
    have hq : q < n := bt_lt (bs := bs) (by omega)
    have d1 : ¬ isD (bt n bs q) = true := fun y => by have := isD_t y; omega
    have d2 : ¬ isLt (bt n bs q) = true := fun y => by have := isLt_t y; omega
    have d3 : ¬ dbl n bs q = true := fun y => by have := of_decide_eq_true y; omega
    have w2 := w
    rw [bt_t hq] at w2
    refine ⟨hq, ?_, ?_⟩
    · unfold tL
      rw [if_neg d1, if_neg d2, if_neg d3]
    · unfold tK
      rw [if_neg (by omega), if_neg d1, if_neg d2, if_neg d3, if_pos (by rw [show bs q = b by omega]; exact hs), w2]
  refine ⟨⟨fun w => ?_, fun w => (hx w).2.2⟩, fun w => ⟨(hx w).1, (hx w).2.1⟩⟩
  unfold tK at w
  split at w
  · omega
  · split at w
    · omega
    · split at w
      · rcases wk_r (n := n) (q := q) (bs := bs) with w2 | ⟨i, -, w2⟩
        · rw [w2] at w; omega
        · rw [w2] at w; omega
      · split at w
        · split at w <;> omega
        · split at w
          · rw [bt_t (by omega)]; exact w
          · omega
theorem QX.sk {t : S2} {n q c : Nat} {bs : Nat → Nat} {E : List Int} {r : Nat} (h : QX t n bs q c E r) : f163 t = some (atP t q) ∧ atP t q = t := by
  have := h.1.bl.1
  refine ⟨this, ?_⟩
  unfold atP
  rw [st2_id h.2.2.2.2.1]
theorem mop_op : mopS (-42) = 13 ∧ mopS (-47) = 14 ∧ mopS (-37) = 15 ∧ mopS (-43) = 2 ∧ mopS (-45) = 3 ∧ mopS (-60) = 4 ∧ mopS (-3) = 5 ∧ mopS (-61) = 6 ∧ mopS (-4) = 7 ∧ mopS (-62) = 8 ∧ mopS (-273) = 9 ∧ mopS (-271) = 10 ∧ mopS (-272) = 11 := by decide
/-- what a part of the model leaves -/
def MRs (r : Nat) (t t' : S2) (n : Nat) (bs : Nat → Nat) (E : List Int) (x : Int ⊕ PS) : Prop := FM r t t' ∧ match x with
  | .inl e => QE t' n bs e
  | .inr (q', c', X) => QX t' n bs q' c' (E ++ X) r
/-- an operand behind its sign -/
theorem m184_r {t : S2} {n q c k : Nat} {bs : Nat → Nat} {E : List Int} {r : Nat} (h : QX t n bs q c E r) (hk : k = 42 ∨ k = 47 ∨ k = 37) (hb : bt n bs q = (k : Int)) (hc : c ≤ 60) (hE : E.length < 299) : ∃ t', f184_a t = some (.inl t') ∧ MRs r t t' n bs E (bS (aVal n bs (nq n bs q) c) fun q1 c1 Y => .inr (q1, c1, Y ++ [-(k : Int)])) := by
  have hb2 := h.2.2.1
  have ht1 := tok1 (b := k) (n := n) (q := q) (bs := bs) hb2 (by rcases hk with rfl | rfl | rfl <;> decide) (by omega)
  obtain ⟨hq, hL⟩ := ht1.2 hb
  obtain ⟨s1, s2⟩ := h.sign
  have hsk := h.skip hq hL
  obtain ⟨t2, a1, a2, a3⟩ := m185 hsk hc (by omega)
  have hj : jadd (q : Int) 1 = ((q + 1 : Nat) : Int) := by have := h.1.1.le; rw [jadd_e (by omega) (by omega)]; rfl
  have hm := mop_op
  have st : f184_a t = cP (f185 (st2 t 1570 0 0 ((q + 1 : Nat) : Int))) fun s10 => cP (f187 (mopS (-(k : Int))) 0 s10) fun s11 => cP (f163 s11) fun s12 => some (.inl s12) := by
    unfold f184_a
    simp only [bnd, jn]
    rw [h.1.1.2, if_neg (show ¬ ¬ (0 : Int) = 0 by decide), s1, cP_s, cP_s, cP_s, cP_s, cP_s, hb, s2, hj]
    rcases hk with rfl | rfl | rfl
    · rw [if_pos (show ((42 : Nat) : Int) = 42 from rfl), if_neg (show ¬ ¬ ((42 : Nat) : Int) = 42 from fun w => w rfl)]
      rfl
    · rw [if_neg (by decide), if_pos (show ((47 : Nat) : Int) = 47 from rfl), if_pos (show ¬ ((47 : Nat) : Int) = 42 by decide), if_neg (show ¬ ¬ ((47 : Nat) : Int) = 47 from fun w => w rfl)]
      rfl
    · rw [if_neg (by decide), if_neg (by decide), if_neg (show ¬ ¬ ((37 : Nat) : Int) = 37 from fun w => w rfl), if_pos (show ¬ ((37 : Nat) : Int) = 42 by decide), if_pos (show ¬ ((37 : Nat) : Int) = 47 by decide)]
      rfl
  rw [st, a1, cP_s]
  have f0 : FM r t (st2 t 1570 0 0 ((q + 1 : Nat) : Int)) := FM.st (by omega)
  cases hx : aVal n bs (nq n bs q) c with
  | inl e =>
    rw [hx] at a3
    have a3 : QE t2 n bs e := a3
    obtain ⟨t3, q3, b1, b2, b3, b4⟩ := QE.bl (r := r) a3
    rw [m187e a3, cP_s, b1, cP_s]
    exact ⟨t3, rfl, (f0.tr a2).tr b3, b2⟩
  | inr p =>
    obtain ⟨q1, c1, Y⟩ := p
    rw [hx] at a3
    have a3 : QA t2 n bs q1 c1 (E ++ Y) r := a3
    have hY : Y.length = 1 := by
      unfold aVal at hx
      split at hx
      · split at hx
        · cases hx
        · split at hx
          · cases hx
          · cases hx
            rfl
      · cases hx
    obtain ⟨t3, b1, b2, b3, -⟩ := m187 (a := mopS (-(k : Int))) (b := 0) (op := -(k : Int)) a3 (by rw [List.length_append]; omega) rfl (fun w => by omega) (fun w => by omega)
    obtain ⟨d1, d2⟩ := b2.bl
    rw [b1, cP_s, d1, cP_s, bS_r]
    refine ⟨_, rfl, ((f0.tr a2).tr b3).tr atP_fr.fm, ?_⟩
    rw [List.append_assoc] at d2
    exact d2
theorem m184_x {t : S2} {n q c : Nat} {bs : Nat → Nat} {E : List Int} {r : Nat} (h : QX t n bs q c E r) (hm : ¬ isM (tK n bs q) = true) : f184_a t = some (.inr t) := by
  have hb2 := h.2.2.1
  obtain ⟨s1, s2⟩ := h.sign
  have hK := of_decide_eq_false (Bool.eq_false_iff.mpr hm)
  have t1 := (tok1 (b := 42) (n := n) (q := q) (bs := bs) hb2 (by decide) (by decide)).1
  have t2 := (tok1 (b := 47) (n := n) (q := q) (bs := bs) hb2 (by decide) (by decide)).1
  have t3 := (tok1 (b := 37) (n := n) (q := q) (bs := bs) hb2 (by decide) (by decide)).1
  have w1 : ¬ bt n bs q = 42 := fun w => hK (Or.inl (t1.mpr w))
  have w2 : ¬ bt n bs q = 47 := fun w => hK (Or.inr (Or.inl (t2.mpr w)))
  have w3 : ¬ bt n bs q = 37 := fun w => hK (Or.inr (Or.inr (t3.mpr w)))
  unfold f184_a
  simp only [bnd, jn]
  rw [h.1.1.2, if_neg (show ¬ ¬ (0 : Int) = 0 by decide), s1, cP_s, if_neg w1, cP_s, if_neg w2, cP_s, if_pos w3]
theorem m184_e {t : S2} {n : Nat} {e : Int} {bs : Nat → Nat} (h : QE t n bs e) : f184_a t = some (.inr t) := by
  have := h.1.2
  unfold f184_a
  rw [bnd, if_pos (by omega)]
theorem m184 {t : S2} {n q c : Nat} {bs : Nat → Nat} {E : List Int} {r : Nat} (h : QA t n bs q c E r) (hc : c ≤ 60) (hE : 3 * E.length ≤ 6 * c + q) : ∃ t', f184 t = some t' ∧ MRs r t t' n bs E (aTerm n bs q c) := by
  have hb : ∀ k, k < n → bs k < 256 := by
    obtain ⟨⟨⟨p, k1, -⟩, -⟩, -⟩ := h
    exact k1.2.1
  have hle := h.1.le
  obtain ⟨t1, a1, a2, a3⟩ := m185 h hc (by omega)
  unfold f184 aTerm
  rw [a1, cP_s]
  cases hx : aVal n bs q c with
  | inl e =>
    rw [hx] at a3
    have a3 : QE t1 n bs e := a3
    obtain ⟨t3, q3, b1, b2, b3, b4⟩ := QE.bl (r := r) a3
    have hl : itr (fun s3 => f184_a s3) am_fu t3 = some t3 := by
      refine itr_seq (fun _ => t3) 0 _ (fun i hi => absurd hi (by omega)) (m184_e b2) am_fu (fu_lt (by omega))
    rw [b1, cP_s, hl, cP_s]
    exact ⟨t3, rfl, a2.tr b3, b2⟩
  | inr p =>
    obtain ⟨q1, c1, X⟩ := p
    rw [hx] at a3
    have a3 : QA t1 n bs q1 c1 (E ++ X) r := a3
    have hp := aVal_p hb hx
    obtain ⟨b1, b2⟩ := a3.bl
    rw [b1, cP_s, bS_r]
    generalize hT : aTm n bs 60 q1 c1 X = T
    have f1 : FM r t (atP t1 q1) := a2.tr atP_fr.fm
    refine inv_cP (a := atP t1 q1) (P := fun e => ∃ t', e = some t' ∧ MRs r t t' n bs E T) (fun (i : Nat) (y : S2) => FM r t y ∧ ((i < 60 ∧ ∃ q1 c1 X, QX y n bs q1 c1 (E ++ X) r ∧ PrB n q c false q1 c1 X ∧ i + 1 ≤ c1 ∧ aTm n bs (60 - i) q1 c1 X = T) ∨ (∃ e, T = .inl e ∧ QE y n bs e))) (fun z => MRs r t z n bs E T) 61 (by omega) ⟨f1, Or.inl ⟨by omega, q1, c1, X, b2, hp, by have := hp.1; omega, hT⟩⟩ ?_ ?_
    · rintro i z hi ⟨g2, g3⟩
      rcases g3 with ⟨g3, q2, c2, Y, g4, g5, g6, g7⟩ | ⟨e, g3, g4⟩
      · have h5 := g5.1
        have hEY : (E ++ Y).length < 299 := by
          rw [List.length_append]
          omega
        rw [show 60 - i = (60 - (i + 1)) + 1 by omega] at g7
        unfold aTm at g7
        by_cases v : isM (tK n bs q2) = true
        · rw [if_pos v] at g7
          have hv := of_decide_eq_true v
          obtain ⟨k, hk⟩ := Int.eq_ofNat_of_zero_le (show 0 ≤ tK n bs q2 by omega)
          have hk3 : k = 42 ∨ k = 47 ∨ k = 37 := by omega
          have hbk : bt n bs q2 = (k : Int) := (tok1 (b := k) (n := n) (q := q2) (bs := bs) hb (by rcases hk3 with rfl | rfl | rfl <;> decide) (by omega)).1.mp hk
          obtain ⟨z', l1, l2, l3⟩ := m184_r g4 hk3 hbk (by omega) hEY
          have hq := nq_b (bs := bs) (tK_lt (n := n) (q := q2) (bs := bs) (by omega))
          refine Or.inl ⟨by omega, z', l1, g2.tr l2, ?_⟩
          cases hy : aVal n bs (nq n bs q2) c2 with
          | inl e =>
            rw [hy] at l3 g7
            exact Or.inr ⟨e, g7.symm, l3⟩
          | inr p =>
            obtain ⟨q3, c3, Z⟩ := p
            rw [hy] at l3 g7
            rw [bS_r] at l3 g7
            have l3 : QX z' n bs q3 c3 (E ++ Y ++ (Z ++ [-(k : Int)])) r := l3
            have hj := g5.join (aVal_p hb hy) (by omega) (by omega) (ty_m (t := []) (Or.inl v)).2 fun t => (ty_m (Or.inl v)).1
            have := hj.1
            have := (aVal_p hb hy).1
            rw [hk] at hj g7
            have eL : E ++ Y ++ (Z ++ [-(k : Int)]) = E ++ (Y ++ Z ++ [-(k : Int)]) := by simp only [List.append_assoc]
            rw [eL] at l3
            exact Or.inl ⟨by omega, q3, c3, _, l3, hj, by omega, g7⟩
        · rw [if_neg v] at g7
          refine Or.inr ⟨z, m184_x g4 v, ?_⟩
          rw [← g7]
          exact ⟨g2, g4⟩
      · refine Or.inr ⟨z, m184_e g4, ?_⟩
        rw [g3]
        exact ⟨g2, g4⟩
    · intro z hz
      exact ⟨z, rfl, hz⟩
theorem m184e {t : S2} {n : Nat} {bs : Nat → Nat} {e : Int} {r : Nat} (h : QE t n bs e) : ∃ t', f184 t = some t' ∧ QE t' n bs e ∧ FM r t t' := by
  obtain ⟨t1, a1, a2, a3⟩ := m185e (r := r) h
  obtain ⟨t3, q3, b1, b2, b3, b4⟩ := QE.bl (r := r) a2
  have hl : itr (fun s3 => f184_a s3) am_fu t3 = some t3 := by
    refine itr_seq (fun _ => t3) 0 _ (fun i hi => absurd hi (by omega)) (m184_e b2) am_fu (fu_lt (by omega))
  unfold f184
  rw [a1, cP_s, b1, cP_s, hl, cP_s]
  exact ⟨t3, rfl, b2, a3.tr b3⟩
theorem m183_r {t : S2} {n q c k : Nat} {bs : Nat → Nat} {E : List Int} {r : Nat} (h : QX t n bs q c E r) (hk : k = 43 ∨ k = 45) (hb : bt n bs q = (k : Int)) (hc : c ≤ 60) (hE : 3 * E.length + 3 ≤ 6 * c + q) : ∃ t', f183_a t = some (.inl t') ∧ MRs r t t' n bs E (bS (aTerm n bs (nq n bs q) c) fun q1 c1 Y => .inr (q1, c1, Y ++ [-(k : Int)])) := by
  have hb2 := h.2.2.1
  have hle := h.1.1.le
  have ht1 := tok1 (b := k) (n := n) (q := q) (bs := bs) hb2 (by rcases hk with rfl | rfl <;> decide) (by omega)
  obtain ⟨hq, hL⟩ := ht1.2 hb
  have hnq := nq_b (bs := bs) hq
  obtain ⟨s1, s2⟩ := h.sign
  have hsk := h.skip hq hL
  obtain ⟨t2, a1, a2, a3⟩ := m184 hsk hc (by omega)
  have hj : jadd (q : Int) 1 = ((q + 1 : Nat) : Int) := by rw [jadd_e (by omega) (by omega)]; rfl
  have st : f183_a t = cP (f184 (st2 t 1570 0 0 ((q + 1 : Nat) : Int))) fun s9 => cP (f187 (mopS (-(k : Int))) 0 s9) fun s10 => some (.inl s10) := by
    unfold f183_a
    simp only [bnd, jn]
    rw [h.1.1.2, if_neg (show ¬ ¬ (0 : Int) = 0 by decide), s1, cP_s, cP_s, cP_s, hb, s2, hj]
    rcases hk with rfl | rfl
    · rw [if_pos (show ((43 : Nat) : Int) = 43 from rfl), if_neg (show ¬ ¬ ((43 : Nat) : Int) = 43 from fun w => w rfl)]
      rfl
    · rw [if_neg (by decide), if_neg (show ¬ ¬ ((45 : Nat) : Int) = 45 from fun w => w rfl), if_pos (show ¬ ((45 : Nat) : Int) = 43 by decide)]
      rfl
  have f0 : FM r t (st2 t 1570 0 0 ((q + 1 : Nat) : Int)) := FM.st (by omega)
  rw [st, a1, cP_s]
  cases hx : aTerm n bs (nq n bs q) c with
  | inl e =>
    rw [hx] at a3
    have a3 : QE t2 n bs e := a3
    rw [m187e a3, cP_s]
    exact ⟨t2, rfl, f0.tr a2, a3⟩
  | inr p =>
    obtain ⟨q1, c1, Y⟩ := p
    rw [hx] at a3
    have a3 : QX t2 n bs q1 c1 (E ++ Y) r := a3
    have hp := (aTerm_p hb2 hx).1
    obtain ⟨t3, b1, b2, b3, b4⟩ := m187 (a := mopS (-(k : Int))) (b := 0) (op := -(k : Int)) a3.1 (by rw [List.length_append]; omega) rfl (fun w => by omega) (fun w => by omega)
    rw [b1, cP_s, bS_r]
    refine ⟨_, rfl, (f0.tr a2).tr b3, ?_⟩
    rw [List.append_assoc] at b2
    refine ⟨b2, ?_⟩
    obtain ⟨y1, y2, y3, y4, y5⟩ := a3.2
    obtain ⟨⟨⟨p, k1, -⟩, -⟩, -⟩ := b2
    exact ⟨k1.1, y2, y3, by rw [b4]; exact y4, y5⟩
theorem m183_x {t : S2} {n q c : Nat} {bs : Nat → Nat} {E : List Int} {r : Nat} (h : QX t n bs q c E r) (hm : ¬ isA (tK n bs q) = true) : f183_a t = some (.inr t) := by
  have hb2 := h.2.2.1
  obtain ⟨s1, s2⟩ := h.sign
  have hK := of_decide_eq_false (Bool.eq_false_iff.mpr hm)
  have t1 := (tok1 (b := 43) (n := n) (q := q) (bs := bs) hb2 (by decide) (by decide)).1
  have t2 := (tok1 (b := 45) (n := n) (q := q) (bs := bs) hb2 (by decide) (by decide)).1
  have w1 : ¬ bt n bs q = 43 := fun w => hK (Or.inl (t1.mpr w))
  have w2 : ¬ bt n bs q = 45 := fun w => hK (Or.inr (t2.mpr w))
  unfold f183_a
  simp only [bnd, jn]
  rw [h.1.1.2, if_neg (show ¬ ¬ (0 : Int) = 0 by decide), s1, cP_s, if_neg w1, cP_s, if_pos w2]
theorem m183_e {t : S2} {n : Nat} {e : Int} {bs : Nat → Nat} (h : QE t n bs e) : f183_a t = some (.inr t) := by
  have := h.1.2
  unfold f183_a
  rw [bnd, if_pos (by omega)]
theorem m183 {t : S2} {n q c : Nat} {bs : Nat → Nat} {E : List Int} {r : Nat} (h : QA t n bs q c E r) (hc : c ≤ 60) (hE : 3 * E.length ≤ 6 * c + q) : ∃ t', f183 t = some t' ∧ MRs r t t' n bs E (aSum n bs q c) := by
  have hb : ∀ k, k < n → bs k < 256 := by
    obtain ⟨⟨⟨p, k1, -⟩, -⟩, -⟩ := h
    exact k1.2.1
  have hle := h.1.le
  obtain ⟨t1, a1, a2, a3⟩ := m184 h hc hE
  unfold f183 aSum
  rw [a1, cP_s]
  cases hx : aTerm n bs q c with
  | inl e =>
    rw [hx] at a3
    have a3 : QE t1 n bs e := a3
    have hl : itr (fun s2 => f183_a s2) am_fu t1 = some t1 := by
      refine itr_seq (fun _ => t1) 0 _ (fun i hi => absurd hi (by omega)) (m183_e a3) am_fu (fu_lt (by omega))
    rw [hl, cP_s]
    exact ⟨t1, rfl, a2, a3⟩
  | inr p =>
    obtain ⟨q1, c1, X⟩ := p
    rw [hx] at a3
    have a3 : QX t1 n bs q1 c1 (E ++ X) r := a3
    have hp := aTerm_p hb hx
    rw [bS_r]
    generalize hT : aSm n bs 60 q1 c1 X = T
    refine inv_cP (a := t1) (P := fun e => ∃ t', e = some t' ∧ MRs r t t' n bs E T) (fun (i : Nat) (y : S2) => FM r t y ∧ ((i < 60 ∧ ∃ q1 c1 X, QX y n bs q1 c1 (E ++ X) r ∧ PrB n q c false q1 c1 X ∧ i + 1 ≤ c1 ∧ aSm n bs (60 - i) q1 c1 X = T) ∨ (∃ e, T = .inl e ∧ QE y n bs e))) (fun z => MRs r t z n bs E T) 61 (by omega) ⟨a2, Or.inl ⟨by omega, q1, c1, X, a3, hp, by have := hp.1; omega, hT⟩⟩ ?_ ?_
    · rintro i z hi ⟨g2, g3⟩
      rcases g3 with ⟨g3, q2, c2, Y, g4, g5, g6, g7⟩ | ⟨e, g3, g4⟩
      · have h5 := g5.1
        rw [show 60 - i = (60 - (i + 1)) + 1 by omega] at g7
        unfold aSm at g7
        by_cases v : isA (tK n bs q2) = true
        · rw [if_pos v] at g7
          have hv := of_decide_eq_true v
          obtain ⟨k, hk⟩ := Int.eq_ofNat_of_zero_le (show 0 ≤ tK n bs q2 by omega)
          have hk3 : k = 43 ∨ k = 45 := by omega
          have hbk : bt n bs q2 = (k : Int) := (tok1 (b := k) (n := n) (q := q2) (bs := bs) hb (by rcases hk3 with rfl | rfl <;> decide) (by omega)).1.mp hk
          obtain ⟨z', l1, l2, l3⟩ := m183_r g4 hk3 hbk (by omega) (by rw [List.length_append]; omega)
          have hq := nq_b (bs := bs) (tK_lt (n := n) (q := q2) (bs := bs) (by omega))
          refine Or.inl ⟨by omega, z', l1, g2.tr l2, ?_⟩
          cases hy : aTerm n bs (nq n bs q2) c2 with
          | inl e =>
            rw [hy] at l3 g7
            exact Or.inr ⟨e, g7.symm, l3⟩
          | inr p =>
            obtain ⟨q3, c3, Z⟩ := p
            rw [hy] at l3 g7
            rw [bS_r] at l3 g7
            have l3 : QX z' n bs q3 c3 (E ++ Y ++ (Z ++ [-(k : Int)])) r := l3
            have hj := g5.join (aTerm_p hb hy) (by omega) (by omega) (ty_m (t := []) (Or.inr v)).2 fun t => (ty_m (Or.inr v)).1
            have := hj.1
            have := (aTerm_p hb hy).1
            rw [hk] at hj g7
            have eL : E ++ Y ++ (Z ++ [-(k : Int)]) = E ++ (Y ++ Z ++ [-(k : Int)]) := by simp only [List.append_assoc]
            rw [eL] at l3
            exact Or.inl ⟨by omega, q3, c3, _, l3, hj, by omega, g7⟩
        · rw [if_neg v] at g7
          refine Or.inr ⟨z, m183_x g4 v, ?_⟩
          rw [← g7]
          exact ⟨g2, g4⟩
      · refine Or.inr ⟨z, m183_e g4, ?_⟩
        rw [g3]
        exact ⟨g2, g4⟩
    · intro z hz
      exact ⟨z, rfl, hz⟩
theorem m183e {t : S2} {n : Nat} {bs : Nat → Nat} {e : Int} {r : Nat} (h : QE t n bs e) : ∃ t', f183 t = some t' ∧ QE t' n bs e ∧ FM r t t' := by
  obtain ⟨t1, a1, a2, a3⟩ := m184e (r := r) h
  have hl : itr (fun s2 => f183_a s2) am_fu t1 = some t1 := by
    refine itr_seq (fun _ => t1) 0 _ (fun i hi => absurd hi (by omega)) (m183_e a2) am_fu (fu_lt (by omega))
  unfold f183
  rw [a1, cP_s, hl, cP_s]
  exact ⟨t1, rfl, a2, a3⟩
