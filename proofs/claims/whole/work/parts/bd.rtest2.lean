theorem orX_rep {o : Bool} : orX o = List.replicate (ob o) (-272) := by cases o <;> rfl
theorem pnt_rep {k : Nat} {a : Int} {St : List Int} (ha : a ≠ 12) : pnt (List.replicate k a ++ St) = k + pnt St := by
  induction k with
  | zero => exact (Nat.zero_add _).symm
  | succ k ih =>
    rw [List.replicate_succ]
    show pnt (List.replicate k a ++ St) + (if a = 12 then 0 else 1) = _
    rw [if_neg ha, ih]
    omega
theorem dpt_rep2 {k : Nat} {a : Int} {St : List Int} (ha : a ≠ 12 ∧ a ≠ 9) : dpt (List.replicate k a ++ St) = dpt St := by
  induction k with
  | zero => rfl
  | succ k ih =>
    rw [List.replicate_succ]
    show dpt (List.replicate k a ++ St) + (if a = 9 ∨ a = 12 then 1 else 0) = _
    rw [if_neg (by omega), ih]
    rfl
theorem sTs {n r d q0 c0 : Nat} {bs : Nat → Nat} {E0 St0 : List Int} {rt : Nat → Nat → Nat → Int ⊕ PS} (hb : ∀ k, k < n → bs k < 256) (hR : RtS n bs r (d + 1) rt) (hr : RtP n rt) (hd : dpt St0 = d) (hd10 : d ≤ 10) (htp : tpS St0 ≠ 9 ∧ tpS St0 ≠ 10 ∧ tpS St0 ≠ 11) (hE : 3 * E0.length + 3 * pnt St0 ≤ 6 * c0 + q0) (hS : St0.length ≤ q0) : ∀ (g : Nat) (o : Bool) (q c : Nat) (X : List Int) (z : S2) (m a : Nat) (Xa : List Int), 61 ≤ c + g → PrO n q0 c0 o q c X → QA z n bs q c (E0 ++ Xa) r → SK z (List.replicate m 9 ++ (List.replicate a 10 ++ (List.replicate (ob o) 11 ++ St0))) → X = Xa ++ List.replicate m (-273) ++ List.replicate a (-271) → TO (0, 1, z) r n bs q E0 St0 (aTs n bs rt d g o q c X)
  | 0, o, q, c, X, z, m, a, Xa, hg, hp, h1, h2, h3 => by
    have := hp.1
    omega
  | g + 1, o, q, c, X, z, m, a, Xa, hg, hp, h1, h2, h3 => by
    have hp1 := hp.1
    have hlX : X.length = Xa.length + m + a := by
      rw [h3, List.length_append, List.length_append, List.length_replicate, List.length_replicate]
    have hqn := h1.1.le
    have eX : E0 ++ Xa ++ List.replicate m (-273) ++ List.replicate a (-271) = E0 ++ X := by
      rw [h3]
      simp only [List.append_assoc]
    unfold aTs
    by_cases w1 : tK n bs q = 271
    · have hq := nq_b (bs := bs) (tK_lt (n := n) (q := q) (bs := bs) (by omega))
      obtain ⟨z1, a1, a2, a3, a4⟩ := R_and h1 h2 ⟨rep_tp htp.1 (by decide), rep_tp htp.2.1 (by decide)⟩ (by rw [List.length_append, List.length_replicate]; omega) (by rw [List.length_append]; omega) w1
      rw [eX] at a2
      have hd2 : dpt (10 :: (List.replicate (ob o) 11 ++ St0)) = d := by
        show dpt (List.replicate (ob o) 11 ++ St0) + (if (10 : Int) = 9 ∨ (10 : Int) = 12 then 1 else 0) = _
        rw [if_neg (by decide), dpt_rep2 (by decide), hd]
        rfl
      have hpre : PRE z1 n bs (nq n bs q) c (E0 ++ X) r (10 :: (List.replicate (ob o) 11 ++ St0)) := by
        refine ⟨a2, a3, by omega, ?_, ?_, by omega⟩
        · show 3 * (E0 ++ X).length + 3 * (pnt (List.replicate (ob o) 11 ++ St0) + 1) ≤ _
          rw [pnt_rep (by decide), List.length_append]
          omega
        · rw [List.length_cons, List.length_append, List.length_replicate]
          omega
      have hF := sFact hb hR hr hpre hd2
      rw [if_pos w1]
      cases hy : aFact n bs rt d (nq n bs q) c with
      | inl e =>
        rw [hy] at hF
        exact TE.tr (k := 1) (q1 := nq n bs q) (Rn.one a1) a4 (by omega) hF
      | inr p =>
        obtain ⟨q1, c1, Y⟩ := p
        rw [hy] at hF
        obtain ⟨k, m1, Y0, z2, b1, b2, b3, b4, b5, b6⟩ := hF
        have hpY := aFact_p hb hr hd10 (by omega) hy
        have hpo := hp.and hpY (by omega)
        rw [bS_r]
        rw [List.append_assoc] at b2
        have hI := sTs hb hR hr hd hd10 htp hE hS g o q1 c1 (X ++ Y ++ [-271]) z2 m1 1 (X ++ Y0) (by have := hpY.1; omega) hpo b2 b3 (by
          rw [b4]
          simp only [List.append_assoc]
          rfl)
        match hx : aTs n bs rt d g o q1 c1 (X ++ Y ++ [-271]), hI with
        | .inl e, hI => exact TE.tr (k := k + 1) (q1 := q1) ((Rn.one a1).tr b1) (a4.tr b5) (by omega) hI
        | .inr (q', c', X'), hI =>
          obtain ⟨k3, m3, a3', b3', Xa3, z3, o1, o2, o3, o4, o5, o6, o7⟩ := hI
          exact ⟨k3 + (k + 1), m3, a3', b3', Xa3, z3, ((Rn.one a1).tr b1).tr o1, o2, o3, o4, (a4.tr b5).tr o5, by omega, o7⟩
    · rw [if_neg w1]
      by_cases w2 : tK n bs q = 272
      · have hq := nq_b (bs := bs) (tK_lt (n := n) (q := q) (bs := bs) (by omega))
        obtain ⟨z1, a1, a2, a3, a4⟩ := R_or h1 h2 htp (by omega) (by rw [List.length_append]; omega) w2
        have eX2 : E0 ++ Xa ++ List.replicate m (-273) ++ List.replicate a (-271) ++ List.replicate (ob o) (-272) = E0 ++ (X ++ orX o) := by
          rw [eX, orX_rep, List.append_assoc]
        rw [eX2] at a2
        have hd2 : dpt (11 :: St0) = d := by
          show dpt St0 + (if (11 : Int) = 9 ∨ (11 : Int) = 12 then 1 else 0) = _
          rw [if_neg (by decide), hd]
          rfl
        have hpre : PRE z1 n bs (nq n bs q) c (E0 ++ (X ++ orX o)) r (11 :: St0) := by
          refine ⟨a2, a3, by omega, ?_, ?_, by omega⟩
          · show 3 * (E0 ++ (X ++ orX o)).length + 3 * (pnt St0 + 1) ≤ _
            rw [List.length_append, List.length_append, orX_l]
            omega
          · rw [List.length_cons]
            omega
        have hF := sFact hb hR hr hpre hd2
        rw [if_pos w2]
        cases hy : aFact n bs rt d (nq n bs q) c with
        | inl e =>
          rw [hy] at hF
          exact TE.tr (k := 1) (q1 := nq n bs q) (Rn.one a1) a4 (by omega) hF
        | inr p =>
          obtain ⟨q1, c1, Y⟩ := p
          rw [hy] at hF
          obtain ⟨k, m1, Y0, z2, b1, b2, b3, b4, b5, b6⟩ := hF
          have hpY := aFact_p hb hr hd10 (by omega) hy
          have hpo := hp.or hpY (by omega)
          rw [bS_r]
          rw [List.append_assoc] at b2
          have hI := sTs hb hR hr hd hd10 htp hE hS g true q1 c1 (X ++ orX o ++ Y) z2 m1 0 (X ++ orX o ++ Y0) (by have := hpY.1; omega) hpo b2 b3 (by
            rw [b4]
            simp only [List.append_assoc, List.replicate_zero, List.append_nil])
          match hx : aTs n bs rt d g true q1 c1 (X ++ orX o ++ Y), hI with
          | .inl e, hI => exact TE.tr (k := k + 1) (q1 := q1) ((Rn.one a1).tr b1) (a4.tr b5) (by omega) hI
          | .inr (q', c', X'), hI =>
            obtain ⟨k3, m3, a3', b3', Xa3, z3, o1, o2, o3, o4, o5, o6, o7⟩ := hI
            exact ⟨k3 + (k + 1), m3, a3', b3', Xa3, z3, ((Rn.one a1).tr b1).tr o1, o2, o3, o4, (a4.tr b5).tr o5, by omega, o7⟩
      · rw [if_neg w2]
        exact ⟨0, m, a, ob o, Xa, z, Rn.rf, h1, h2, by rw [h3, orX_rep], FN.rf, by omega, w1, w2⟩
theorem sTest {n r : Nat} {bs : Nat → Nat} (hb : ∀ k, k < n → bs k < 256) : ∀ f, RtS n bs r (12 - f) (aTest n bs f)
  | 0 => fun z q c E St h1 h2 h3 => by
    have := h2.2.2.2.2.2
    omega
  | f + 1 => fun z q c E St h1 h2 h3 => by
    have ih := sTest (r := r) hb f
    have h10 := h2.2.2.2.2.2
    have hqn := h2.1.1.le
    have hR : RtS n bs r (dpt St + 1) (aTest n bs f) := fun z' q' c' E' St' g1 g2 g3 => ih z' q' c' E' St' (by omega) g2 g3
    have hF := sFact hb hR (aTest_p hb f) h2 rfl
    unfold aTest
    cases hy : aFact n bs (aTest n bs f) (dpt St) q c with
    | inl e =>
      rw [hy] at hF
      exact hF
    | inr p =>
      obtain ⟨q1, c1, X⟩ := p
      rw [hy] at hF
      obtain ⟨k, m, X0, z1, b1, b2, b3, b4, b5, b6⟩ := hF
      have hp := (aFact_p hb (aTest_p hb f) h10 (by omega) hy).o
      rw [bS_r]
      have hI := sTs hb hR (aTest_p hb f) rfl h10 h3 h2.2.2.2.1 h2.2.2.2.2.1 60 false q1 c1 X z1 m 0 X0 (by have := hp.1; omega) hp b2 b3 (by
        rw [b4, List.replicate_zero, List.append_nil])
      match hx : aTs n bs (aTest n bs f) (dpt St) 60 false q1 c1 X, hI with
      | .inl e, hI => exact TE.tr (k := k) (q1 := q1) b1 b5 b6 hI
      | .inr (q', c', X'), hI =>
        obtain ⟨k3, m3, a3', b3', Xa3, z3, o1, o2, o3, o4, o5, o6, o7⟩ := hI
        exact ⟨k3 + k, m3, a3', b3', Xa3, z3, b1.tr o1, o2, o3, o4, b5.tr o5, by omega, o7⟩
theorem m190 {t : S2} {n q c r : Nat} {bs : Nat → Nat} {E : List Int} (h : QA t n bs q c E r) (h0 : t 1575 0 0 = 0) (hc : c ≤ 60) (hE : 3 * E.length ≤ 6 * c + q) : ∃ t', f190 t = some t' ∧ FN r t t' ∧ match aTest n bs 12 0 q c with
    | .inl e => QW t' n bs e
    | .inr (q', c', X) => QA t' n bs q' c' (E ++ X) r ∧ t' 1575 0 0 = 0 := by
  have hb : ∀ k, k < n → bs k < 256 := by
    obtain ⟨⟨⟨p, k1, -⟩, -⟩, -⟩ := h
    exact k1.2.1
  have hle := h.1.le
  have hS : SK (st2 t 1577 0 0 0) [] := ⟨st2_eq, trivial, by rw [st2_ne (by omega)]; exact h0⟩
  have hpre : PRE (st2 t 1577 0 0 0) n bs q c E r [] := ⟨h.st (by omega), hS, hc, by
    show 3 * E.length + 3 * 0 ≤ _
    omega, Nat.zero_le _, Nat.zero_le _⟩
  have hT := sTest (r := r) hb 12 (st2 t 1577 0 0 0) q c E [] (by omega) hpre ⟨by show (-1 : Int) ≠ 9; decide, by show (-1 : Int) ≠ 10; decide, by show (-1 : Int) ≠ 11; decide⟩
  have f0 : FN r t (st2 t 1577 0 0 0) := FN.st (by omega)
  have hun : f190 t = cP (itr tB am_fu (1, 1, st2 t 1577 0 0 0)) fun s32 => some s32 := rfl
  rw [hun]
  have go : ∀ (k : Nat) (a' : Int × Int × S2) (res : S2), k < 900 → Rn k (1, 1, st2 t 1577 0 0 0) a' → tB a' = some (.inr res) → itr tB am_fu (1, 1, st2 t 1577 0 0 0) = some res := fun k a' res hk hR hx => by
    have e : am_fu = (am_fu - k - 1) + 1 + k := by
      have : am_fu = 1000000 := rfl
      omega
    rw [e, hR, itr, hx]
  match hy : aTest n bs 12 0 q c, hT with
  | .inl e, hT =>
    obtain ⟨k, x, z', a1, a2, a3, a4⟩ := hT
    have hx : tB (x, 1, z') = some (.inr z') := by
      show f190_a x 1 z' = _
      unfold f190_a
      rw [if_neg ne10, bnd, if_pos (by have := a2.2; omega)]
    rw [go k _ z' (by omega) a1 hx, cP_s]
    exact ⟨z', rfl, f0.tr a3, a2⟩
  | .inr (q', c', X), hT =>
    obtain ⟨k, m, a, b, Xa, z', o1, o2, o3, o4, o5, o6, o7, o8⟩ := hT
    have hp := (aTest_p hb 12 _ _ _ _ _ _ (by omega) (by omega) hy).1
    have hlX : X.length = Xa.length + m + a + b := by
      rw [o4, List.length_append, List.length_append, List.length_append, List.length_replicate, List.length_replicate, List.length_replicate]
    obtain ⟨s18, r1, r2, r3, r4, -⟩ := R_end o2 o3 ⟨by show (-1 : Int) ≠ 9; decide, by show (-1 : Int) ≠ 10; decide, by show (-1 : Int) ≠ 11; decide⟩ (by rw [List.length_nil]; omega) (by rw [List.length_append]; omega) o7 o8
    have r5 := r4 (by show (-1 : Int) ≠ 12; decide)
    have hx : tB (0, 0, s18) = some (.inr s18) := by
      show f190_a 0 0 s18 = _
      unfold f190_a
      rw [if_pos rfl]
    rw [go (1 + k) _ s18 (by omega) (o1.tr (Rn.one r5)) hx, cP_s]
    have eX : E ++ Xa ++ List.replicate m (-273) ++ List.replicate a (-271) ++ List.replicate b (-272) = E ++ X := by
      rw [o4]
      simp only [List.append_assoc]
    rw [eX] at r1
    exact ⟨s18, rfl, (f0.tr o5).tr r3, r1.1, r2.2.2⟩
