/-! THE MODEL'S FACTS AND TESTS -/
theorem rep_cons {k : Nat} {a : Int} {St : List Int} : List.replicate k a ++ (a :: St) = List.replicate (k + 1) a ++ St := by
  rw [List.replicate_succ', List.append_assoc]
  rfl
def PRE (z : S2) (n : Nat) (bs : Nat → Nat) (q c : Nat) (E : List Int) (r : Nat) (St : List Int) : Prop := QA z n bs q c E r ∧ SK z St ∧ c ≤ 60 ∧ 3 * E.length + 3 * pnt St ≤ 6 * c + q ∧ St.length ≤ q ∧ dpt St ≤ 10
def TE (s0 : Int × Int × S2) (r n : Nat) (bs : Nat → Nat) (q : Nat) (e : Int) : Prop := ∃ k x z', Rn k s0 (x, 1, z') ∧ QW z' n bs e ∧ FN r s0.2.2 z' ∧ k + q ≤ n + 1
def FOK (z : S2) (r n : Nat) (bs : Nat → Nat) (q : Nat) (E St : List Int) (x : Int ⊕ PS) : Prop := match x with
  | .inl e => TE (1, 1, z) r n bs q e
  | .inr (q', c', X) => ∃ k m X0 z', Rn k (1, 1, z) (0, 1, z') ∧ QA z' n bs q' c' (E ++ X0) r ∧ SK z' (List.replicate m 9 ++ St) ∧ X = X0 ++ List.replicate m (-273) ∧ FN r z z' ∧ k + q ≤ q'
def TO (s0 : Int × Int × S2) (r n : Nat) (bs : Nat → Nat) (q : Nat) (E St : List Int) (x : Int ⊕ PS) : Prop := match x with
  | .inl e => TE s0 r n bs q e
  | .inr (q', c', X) => ∃ k m a b Xa z', Rn k s0 (0, 1, z') ∧ QA z' n bs q' c' (E ++ Xa) r ∧ SK z' (List.replicate m 9 ++ (List.replicate a 10 ++ (List.replicate b 11 ++ St))) ∧ X = Xa ++ List.replicate m (-273) ++ List.replicate a (-271) ++ List.replicate b (-272) ∧ FN r s0.2.2 z' ∧ k + q ≤ q' ∧ tK n bs q' ≠ 271 ∧ tK n bs q' ≠ 272
theorem TE.tr {s0 : Int × Int × S2} {x0 y0 : Int} {z : S2} {r n k q q1 : Nat} {bs : Nat → Nat} {e : Int} (h1 : Rn k s0 (x0, y0, z)) (h2 : FN r s0.2.2 z) (h3 : k + q ≤ q1) (h : TE (x0, y0, z) r n bs q1 e) : TE s0 r n bs q e := by
  obtain ⟨l, x, z', a1, a2, a3, a4⟩ := h
  exact ⟨l + k, x, z', h1.tr a1, a2, h2.tr a3, by omega⟩
theorem tB_1 {z : S2} (h : z 1571 0 0 = 0) : tB (1, 1, z) = cR (f191 z) fun r30 s31 => if ¬ r30 = 0 then (some (.inl (0, 1, s31))) else some (.inl (1, 1, s31)) := by
  show f190_a 1 1 z = _
  unfold f190_a
  rw [if_neg ne10, bnd, h, if_neg (show ¬ ¬ (0 : Int) = 0 by decide), if_neg ne10]
theorem wNot {n q : Nat} {bs : Nat → Nat} (hb : ∀ k, k < n → bs k < 256) : tK n bs q = 273 ↔ wAt n bs q (m2_tb 20) = true := tK_w (i := 17) hb (by omega)
theorem R_not {z : S2} {n q c r : Nat} {bs : Nat → Nat} {E St : List Int} (h : PRE z n bs q c E r St) (hK : tK n bs q = 273) : if dpt St < 10 then (∃ z', tB (1, 1, z) = some (.inl (1, 1, z')) ∧ PRE z' n bs (nq n bs q) c E r (9 :: St) ∧ FN r z z') else (∃ z', tB (1, 1, z) = some (.inl (1, 1, z')) ∧ QW z' n bs (1 + 8 * (q : Int) + 2) ∧ FN r z z') := by
  obtain ⟨h1, h2, h3, h4, h5, h6⟩ := h
  obtain ⟨g1, g2⟩ := h1.bl
  obtain ⟨k1, k2, k3, k4, k5⟩ := id g2.2
  obtain ⟨l1, l2⟩ := tL_not k2 hK
  have hbd := tL_bd (bs := bs) l2
  have hnq := nq_b (bs := bs) l2
  have hs : SK (atP z q) St := h2.fm (r := r) (FM.st (by omega))
  have hw : f166 20 (atP z q) = some 1 := by
    rw [m166 k1 k2 k3 k4 k5 (by omega) (by omega), if_pos ((wNot k2).mp hK)]
  have e3 : jadd (q : Int) 3 = ((q + 3 : Nat) : Int) := by rw [jadd_e (by omega) (by omega)]; rfl
  have hn := m192n (a := 9) g2 hs (by omega) (Or.inl rfl) h6
  have f0 : FN r z (atP z q) := (FM.st (by omega)).fn
  have st : tB (1, 1, z) = cP (f192 9 (atP z q)) fun s8 => some (.inl (1, 1, st2 s8 1570 0 0 (jadd (s8 1570 0 0) 3))) := by
    rw [tB_1 h1.1.2]
    unfold f191
    simp only [bnd]
    rw [g1, cP_s, hw, cP_s, if_neg ne10]
    cases f192 9 (atP z q) with
    | none => rfl
    | some s8 =>
      rw [cP_s, cP_s, cR_s, if_neg (show ¬ ¬ (0 : Int) = 0 by decide)]
  by_cases y : dpt St < 10
  · rw [if_pos y] at hn ⊢
    obtain ⟨t', b1, b2, b3, b4⟩ := hn
    rw [b1, cP_s, b2.sign.2, e3] at st
    refine ⟨_, st, ⟨b2.skip l2 l1, b3.fm (r := r) (FM.st (by omega)), h3, ?_, ?_, ?_⟩, (f0.tr b4).tr (FM.st (by omega)).fn⟩
    · show 3 * E.length + 3 * (pnt St + 1) ≤ _
      omega
    · rw [List.length_cons]; omega
    · show dpt St + 1 ≤ 10
      omega
  · rw [if_neg y] at hn ⊢
    obtain ⟨t', b1, b2, b3, b4⟩ := hn
    rw [b1, cP_s, b4, e3] at st
    exact ⟨_, st, b2.go1 (by omega), (f0.tr b3).tr (FM.st (by omega)).fn⟩
theorem R_br {z : S2} {n q c r : Nat} {bs : Nat → Nat} {E St : List Int} (h : PRE z n bs q c E r St) (hK : tK n bs q = 91) : if dpt St < 10 then (∃ z', tB (1, 1, z) = some (.inl (1, 1, z')) ∧ PRE z' n bs (nq n bs q) c E r (12 :: St) ∧ FN r z z') else (∃ z', tB (1, 1, z) = some (.inl (1, 1, z')) ∧ QW z' n bs (1 + 8 * (q : Int) + 2) ∧ FN r z z') := by
  obtain ⟨h1, h2, h3, h4, h5, h6⟩ := h
  obtain ⟨g1, g2⟩ := h1.bl
  obtain ⟨k1, k2, k3, k4, k5⟩ := id g2.2
  have t91 := tok1 (b := 91) (n := n) (q := q) (bs := bs) k2 (by decide) (by decide)
  have hb := t91.1.mp hK
  obtain ⟨l2, l1⟩ := t91.2 hb
  have hbd := tL_bd (bs := bs) l2
  have hnq := nq_b (bs := bs) l2
  have hs : SK (atP z q) St := h2.fm (r := r) (FM.st (by omega))
  have hw : f166 20 (atP z q) = some 0 := by
    rw [m166 k1 k2 k3 k4 k5 (by omega) (by omega), if_neg (fun w => by
      have := (wNot k2).mpr w
      omega)]
  have e3 : jadd (q : Int) 1 = ((q + 1 : Nat) : Int) := by rw [jadd_e (by omega) (by omega)]; rfl
  have hn := m192n (a := 12) g2 hs (by omega) (Or.inr rfl) h6
  have f0 : FN r z (atP z q) := (FM.st (by omega)).fn
  have st : tB (1, 1, z) = cP (f192 12 (atP z q)) fun s8 => some (.inl (1, 1, st2 s8 1570 0 0 (jadd (s8 1570 0 0) 1))) := by
    rw [tB_1 h1.1.2]
    unfold f191
    simp only [bnd]
    rw [g1, cP_s, hw, cP_s, if_pos rfl, g2.sign.1, cP_s, if_neg (fun w => w hb)]
    cases f192 12 (atP z q) with
    | none => rfl
    | some s8 =>
      rw [cP_s, cP_s, cR_s, if_neg (show ¬ ¬ (0 : Int) = 0 by decide)]
  by_cases y : dpt St < 10
  · rw [if_pos y] at hn ⊢
    obtain ⟨t', b1, b2, b3, b4⟩ := hn
    rw [b1, cP_s, b2.sign.2, e3] at st
    refine ⟨_, st, ⟨b2.skip l2 l1, b3.fm (r := r) (FM.st (by omega)), h3, ?_, ?_, ?_⟩, (f0.tr b4).tr (FM.st (by omega)).fn⟩
    · show 3 * E.length + 3 * (pnt St + 0) ≤ _
      omega
    · rw [List.length_cons]; omega
    · show dpt St + 1 ≤ 10
      omega
  · rw [if_neg y] at hn ⊢
    obtain ⟨t', b1, b2, b3, b4⟩ := hn
    rw [b1, cP_s, b4, e3] at st
    exact ⟨_, st, b2.go1 (by omega), (f0.tr b3).tr (FM.st (by omega)).fn⟩
theorem R_cmp {z : S2} {n q c r : Nat} {bs : Nat → Nat} {E St : List Int} (h : PRE z n bs q c E r St) (hK1 : tK n bs q ≠ 273) (hK : tK n bs q ≠ 91) : ∃ z', tB (1, 1, z) = some (.inl (0, 1, z')) ∧ FN r z z' ∧ match aCmp n bs q c with
    | .inl e => QW z' n bs e
    | .inr (q', c', X) => QA z' n bs q' c' (E ++ X) r ∧ SK z' St := by
  obtain ⟨h1, h2, h3, h4, h5, h6⟩ := h
  obtain ⟨g1, g2⟩ := h1.bl
  obtain ⟨k1, k2, k3, k4, k5⟩ := id g2.2
  have t91 := tok1 (b := 91) (n := n) (q := q) (bs := bs) k2 (by decide) (by decide)
  have hs : SK (atP z q) St := h2.fm (r := r) (FM.st (by omega))
  have hw : f166 20 (atP z q) = some 0 := by
    rw [m166 k1 k2 k3 k4 k5 (by omega) (by omega), if_neg (fun w => hK1 ((wNot k2).mpr w))]
  obtain ⟨t', b1, b2, b3⟩ := m193 g2.1 h3 (by omega)
  have f0 : FN r z (atP z q) := (FM.st (by omega)).fn
  refine ⟨t', ?_, f0.tr b2.fn, ?_⟩
  · rw [tB_1 h1.1.2]
    unfold f191
    rw [g1, cP_s, hw, cP_s, if_pos rfl, g2.sign.1, cP_s, if_pos (show ¬ bt n bs q = 91 from fun w => hK (t91.1.mpr w)), b1, cP_s, cR_s, if_pos ne10]
  · cases hx : aCmp n bs q c with
    | inl e =>
      rw [hx] at b3
      have b3 : QE t' n bs e := b3
      exact b3.w
    | inr p =>
      obtain ⟨q', c', X⟩ := p
      rw [hx] at b3
      have b3 : QX t' n bs q' c' (E ++ X) r := b3
      exact ⟨b3.1, hs.fm b2⟩
theorem sNot {n c r : Nat} {bs : Nat → Nat} {E : List Int} : ∀ (f d q : Nat) (z : S2) (St : List Int), d = dpt St → 11 ≤ d + f → PRE z n bs q c E r St → ∃ k z', Rn k (1, 1, z) (1, 1, z') ∧ PRE z' n bs (aNot n bs f d q).2 c E r (List.replicate ((aNot n bs f d q).1 - d) 9 ++ St) ∧ FN r z z' ∧ k + q ≤ (aNot n bs f d q).2 ∧ d ≤ (aNot n bs f d q).1 ∧ ¬ (tK n bs (aNot n bs f d q).2 = 273 ∧ (aNot n bs f d q).1 < 10)
  | 0, d, q, z, St, hd, hf, h => by
    have := h.2.2.2.2.2
    omega
  | f + 1, d, q, z, St, hd, hf, h => by
    unfold aNot
    by_cases y : tK n bs q = 273 ∧ d < 10
    · rw [if_pos y]
      have hr := R_not h y.1
      rw [if_pos (show dpt St < 10 by omega)] at hr
      obtain ⟨z1, a1, a2, a3⟩ := hr
      have hq := nq_b (bs := bs) (tK_lt (n := n) (q := q) (bs := bs) (by omega))
      obtain ⟨k, z', b1, b2, b3, b4, b5, b6⟩ := sNot f (d + 1) (nq n bs q) z1 (9 :: St) (by rw [hd]; rfl) (by omega) a2
      refine ⟨k + 1, z', (Rn.one a1).tr b1, ?_, a3.tr b3, by omega, by omega, b6⟩
      rw [rep_cons, show (aNot n bs f (d + 1) (nq n bs q)).1 - (d + 1) + 1 = (aNot n bs f (d + 1) (nq n bs q)).1 - d by omega] at b2
      exact b2
    · rw [if_neg y]
      refine ⟨0, z, Rn.rf, ?_, FN.rf, by dsimp only; omega, by dsimp only; omega, y⟩
      dsimp only
      rw [Nat.sub_self]
      exact h
def RtS (n : Nat) (bs : Nat → Nat) (r D : Nat) (rt : Nat → Nat → Nat → Int ⊕ PS) : Prop := ∀ (z : S2) (q c : Nat) (E St : List Int), D ≤ dpt St → PRE z n bs q c E r St → (tpS St ≠ 9 ∧ tpS St ≠ 10 ∧ tpS St ≠ 11) → TO (1, 1, z) r n bs q E St (rt (dpt St) q c)
theorem sFact {z : S2} {n q c r d : Nat} {bs : Nat → Nat} {E St : List Int} {rt : Nat → Nat → Nat → Int ⊕ PS} (hb : ∀ k, k < n → bs k < 256) (hR : RtS n bs r (d + 1) rt) (hr : RtP n rt) (h : PRE z n bs q c E r St) (hd : dpt St = d) : FOK z r n bs q E St (aFact n bs rt d q c) := by
  obtain ⟨k, z1, a1, a2, a3, a4, a5, a6⟩ := sNot 11 d q z St hd.symm (by omega) h
  unfold aFact
  generalize aNot n bs 11 d q = N at a2 a4 a5 a6 ⊢
  obtain ⟨d1, q1⟩ := N
  dsimp only at a2 a4 a5 a6 ⊢
  have hd1 : dpt (List.replicate (d1 - d) 9 ++ St) = d1 := by
    rw [dpt_app, dpt_rep.1, hd]
    omega
  have h10 := a2.2.2.2.2.2
  rw [hd1] at h10
  have hqn := a2.1.1.le
  -- an error behind the words not
  have err : ∀ (k2 : Nat) (x : Int) (z2 : S2) (e : Int) (q2 : Nat), Rn k2 (1, 1, z1) (x, 1, z2) → QW z2 n bs e → FN r z1 z2 → k2 + q1 ≤ n + 1 → FOK z r n bs q E St (bS (.inl e) fun q3 c3 X => .inr (q3, c3, X ++ List.replicate (d1 - d) (-273))) := fun k2 x z2 e _ o1 o2 o3 o4 => TE.tr a1 a3 a4 ⟨k2, x, z2, o1, o2, o3, o4⟩
  by_cases w1 : tK n bs q1 = 273
  · have hx : aFx n bs rt d1 q1 c = .inl (1 + 8 * (q1 : Int) + 2) := by
      unfold aFx
      rw [if_pos (Or.inl w1)]
    have hn := R_not a2 w1
    rw [if_neg (by rw [hd1]; omega)] at hn
    obtain ⟨z2, b1, b2, b3⟩ := hn
    rw [hx]
    exact err 1 1 z2 _ 0 (Rn.one b1) b2 b3 (by omega)
  · by_cases w2 : tK n bs q1 = 91
    · have hq1 := nq_b (bs := bs) (tK_lt (n := n) (q := q1) (bs := bs) (by omega))
      have hn := R_br a2 w2
      by_cases w3 : d1 < 10
      · rw [if_pos (by rw [hd1]; omega)] at hn
        obtain ⟨z2, b1, b2, b3⟩ := hn
        have hd2 : dpt (12 :: (List.replicate (d1 - d) 9 ++ St)) = d1 + 1 := by
          show dpt (List.replicate (d1 - d) 9 ++ St) + 1 = _
          rw [hd1]
        have hT := hR z2 (nq n bs q1) c E (12 :: (List.replicate (d1 - d) 9 ++ St)) (by rw [hd2]; omega) b2 ⟨by show (12 : Int) ≠ 9; decide, by show (12 : Int) ≠ 10; decide, by show (12 : Int) ≠ 11; decide⟩
        rw [hd2] at hT
        have hx : aFx n bs rt d1 q1 c = bS (rt (d1 + 1) (nq n bs q1) c) fun q2 c2 X => (if tK n bs q2 = 93 then .inr (nq n bs q2, c2, X) else .inl (1 + 8 * (q2 : Int) + 0)) := by
          unfold aFx
          rw [if_neg (by omega), if_pos w2]
        rw [hx]
        cases hy : rt (d1 + 1) (nq n bs q1) c with
        | inl e =>
          rw [hy] at hT
          obtain ⟨k2, x, z3, o1, o2, o3, o4⟩ := hT
          exact err (k2 + 1) x z3 e 0 ((Rn.one b1).tr o1) o2 (b3.tr o3) (by omega)
        | inr p =>
          obtain ⟨q2, c2, X⟩ := p
          rw [hy] at hT
          obtain ⟨k2, m, a, b, Xa, z3, o1, o2, o3, o4, o5, o6, o7, o8⟩ := hT
          have hp := (hr _ _ _ _ _ _ (by omega) (by omega) hy).1
          have hlX : X.length = Xa.length + m + a + b := by
            rw [o4, List.length_append, List.length_append, List.length_append, List.length_replicate, List.length_replicate, List.length_replicate]
          obtain ⟨b21, b22, b23, b24, b25, b26⟩ := b2
          rw [List.length_cons] at b25
          obtain ⟨s18, -, -, -, -, r5⟩ := R_end o2 o3 ⟨by show (12 : Int) ≠ 9; decide, by show (12 : Int) ≠ 10; decide, by show (12 : Int) ≠ 11; decide⟩ (by rw [List.length_cons]; omega) (by rw [List.length_append]; omega) o7 o8
          obtain ⟨z4, r6, r7, r8⟩ := r5 _ rfl
          rw [bS_r]
          by_cases w4 : tK n bs q2 = 93
          · have hq2 := nq_b (bs := bs) (tK_lt (n := n) (q := q2) (bs := bs) (by omega))
            rw [if_pos w4] at r8 ⊢
            obtain ⟨r8, r9⟩ := r8
            have eX : E ++ Xa ++ List.replicate m (-273) ++ List.replicate a (-271) ++ List.replicate b (-272) = E ++ X := by
              rw [o4]
              simp only [List.append_assoc]
            rw [eX] at r8
            exact ⟨1 + k2 + 1 + k, d1 - d, X, z4, a1.tr ((Rn.one b1).tr (o1.tr (Rn.one r6))), r8, r9, rfl, ((a3.tr b3).tr o5).tr r7, by omega⟩
          · rw [if_neg w4] at r8 ⊢
            exact err (1 + k2 + 1) 0 z4 _ 0 ((Rn.one b1).tr (o1.tr (Rn.one r6))) r8 ((b3.tr o5).tr r7) (by omega)
      · rw [if_neg (by rw [hd1]; omega)] at hn
        obtain ⟨z2, b1, b2, b3⟩ := hn
        have hx : aFx n bs rt d1 q1 c = .inl (1 + 8 * (q1 : Int) + 2) := by
          unfold aFx
          rw [if_pos (Or.inr ⟨w2, by omega⟩)]
        rw [hx]
        exact err 1 1 z2 _ 0 (Rn.one b1) b2 b3 (by omega)
    · have hx : aFx n bs rt d1 q1 c = aCmp n bs q1 c := by
        unfold aFx
        rw [if_neg (by omega), if_neg w2]
      obtain ⟨z2, b1, b2, b3⟩ := R_cmp a2 w1 w2
      rw [hx]
      cases hy : aCmp n bs q1 c with
      | inl e =>
        rw [hy] at b3
        exact err 1 0 z2 e 0 (Rn.one b1) b3 b2 (by omega)
      | inr p =>
        obtain ⟨q', c', X⟩ := p
        rw [hy] at b3
        have hp := (aCmp_p hb hy).1
        obtain ⟨b3, b4⟩ := b3
        exact ⟨1 + k, d1 - d, X, z2, a1.tr (Rn.one b1), b3, b4, rfl, a3.tr b2, by omega⟩
