/-! THE MODEL'S ROUNDS over a test -/
def tB : Int × Int × S2 → Option ((Int × Int × S2) ⊕ S2) := fun (x2, x3, s4) => f190_a x2 x3 s4
/-- after k rounds -/
def Rn (k : Nat) (a a' : Int × Int × S2) : Prop := ∀ m, itr tB (m + k) a = itr tB m a'
theorem Rn.rf {a : Int × Int × S2} : Rn 0 a a := fun _ => rfl
theorem Rn.one {a a' : Int × Int × S2} (h : tB a = some (.inl a')) : Rn 1 a a' := fun m => by
  show itr tB (m + 1) a = _
  rw [itr, h]
theorem Rn.tr {k l : Nat} {a b c : Int × Int × S2} (h : Rn k a b) (h' : Rn l b c) : Rn (l + k) a c := fun m => by
  rw [← Nat.add_assoc, h, h']
/-- after a fault, wherever the place is -/
def QW (t : S2) (n : Nat) (bs : Nat → Nat) (e : Int) : Prop := (∃ p : Nat, HMt t bs n ∧ (∀ k, k < n → bs k < 256) ∧ n ≤ 400 ∧ t 1570 0 0 = p ∧ p ≤ n + 1) ∧ t 1571 0 0 = e ∧ 0 < e
theorem QE.w {t : S2} {n : Nat} {bs : Nat → Nat} {e : Int} (h : QE t n bs e) : QW t n bs e := by
  obtain ⟨⟨⟨p, h1, h2, h3, h4, h5⟩, h6, h7⟩, h8⟩ := h
  exact ⟨⟨p, h1, h2, h3, h4, by omega⟩, h6, h7⟩
theorem QW.st {t : S2} {n g j : Nat} {bs : Nat → Nat} {e v : Int} (h : QW t n bs e) (hg : g ≠ 1569 ∧ g ≠ 1570 ∧ g ≠ 1571 ∧ g ≠ 1579) : QW (st2 t g 0 j v) n bs e := by
  obtain ⟨⟨p, h1, h2, h3, h4, h5⟩, h6, h7⟩ := h
  exact ⟨⟨p, h1.at hg.1 hg.2.2.2, h2, h3, by rw [st2_ne (by omega)]; exact h4, h5⟩, by rw [st2_ne (by omega)]; exact h6, h7⟩
theorem QE.go1 {t : S2} {n q : Nat} {bs : Nat → Nat} {e : Int} (h : QE t n bs e) (hq : q ≤ n + 1) : QW (st2 t 1570 0 0 (q : Int)) n bs e := by
  obtain ⟨⟨⟨p, h1, h2, h3, h4, h5⟩, h6, h7⟩, h8⟩ := h
  exact ⟨⟨q, h1.at (by omega) (by omega), h2, h3, st2_eq, hq⟩, by rw [st2_ne (by omega)]; exact h6, h7⟩
theorem m178w {t : S2} {n : Nat} {e : Int} {bs : Nat → Nat} (h : QW t n bs e) : ∃ t', f178 t = some (0, t') ∧ Fr p70 t t' ∧ t' 1571 0 0 = e := by
  obtain ⟨⟨p, h1, h2, h3, h4, h5⟩, h6, h7⟩ := h
  by_cases y : p ≤ n
  · exact m178e ⟨⟨p, h1, h2, h3, h4, y⟩, h6, h7⟩
  · have h163 : f163 t = some t := by
      have hl : itr (fun s1 => f163_a s1) am_fu t = some t := by
        refine itr_seq (fun _ => t) 0 _ (fun i hi => absurd hi (by omega)) ?_ am_fu (fu_lt (by omega))
        unfold f163_a
        rw [m164 h1 h2 h3 h4, cP_s, bt_o (by omega), if_pos (by decide)]
      unfold f163
      rw [hl, cP_s]
    unfold f178
    simp only [bnd, jn]
    rw [h163, cP_s, h6, if_pos (show ¬ e = 0 by omega), if_pos (show ¬ e = 0 by omega), gd_t (Or.inl trivial)]
    exact ⟨_, rfl, Fr.rf.st rfl, by rw [st2_ne (by omega)]; exact h6⟩
theorem dpt_len : ∀ {St : List Int}, dpt St ≤ St.length
  | [] => Nat.le_refl 0
  | x :: r => by
    have := dpt_len (St := r)
    show dpt r + _ ≤ _
    rw [List.length_cons]
    split <;> omega
theorem rep_tp {k : Nat} {a x : Int} {St : List Int} (h : tpS St ≠ x) (ha : a ≠ x) : tpS (List.replicate k a ++ St) ≠ x := by
  cases k with
  | zero => exact h
  | succ k => exact ha
/-- the head of a round that wants no fact -/
theorem hd190 {z : S2} {n q c m a : Nat} {bs : Nat → Nat} {E St : List Int} {r : Nat} (h : QA z n bs q c E r) (hs : SK z (List.replicate m 9 ++ (List.replicate a 10 ++ St))) (ht : tpS St ≠ 9 ∧ tpS St ≠ 10) (hl : m + a + St.length ≤ 400) (hE : E.length + m + a < 300) : ∃ s6 s7 s10, f194 9 z = some s6 ∧ f163 s6 = some s7 ∧ f166 21 s7 = some (if tK n bs q = 271 then 1 else 0) ∧ f166 22 s7 = some (if tK n bs q = 272 then 1 else 0) ∧ f194 10 s7 = some s10 ∧ QX s10 n bs q c (E ++ List.replicate m (-273) ++ List.replicate a (-271)) r ∧ SK s10 St ∧ FN r z s10 := by
  obtain ⟨s6, a1, a2, a3, a4, a5⟩ := m194 (Or.inl ⟨rfl, rfl⟩) m h hs (rep_tp ht.1 (by decide)) (by rw [List.length_append, List.length_replicate]; omega) (by omega)
  obtain ⟨b1, b2⟩ := a2.bl
  have hs7 : SK (atP s6 q) (List.replicate a 10 ++ St) := a3.fm (r := r) (FM.st (by omega))
  obtain ⟨s10, d1, d2, d3, d4, d5⟩ := m194 (Or.inr (Or.inl ⟨rfl, rfl⟩)) a b2.1 hs7 ht.2 (by omega) (by rw [List.length_append, List.length_replicate]; omega)
  obtain ⟨g1, g2, g3, g4, g5⟩ := id b2.2
  have w1 : tK n bs q = 271 ↔ wAt n bs q (m2_tb 21) = true := tK_w (i := 15) g2 (by omega)
  have w2 : tK n bs q = 272 ↔ wAt n bs q (m2_tb 22) = true := tK_w (i := 16) g2 (by omega)
  have v1 : f166 21 (atP s6 q) = some (if tK n bs q = 271 then 1 else 0) := by
    rw [m166 g1 g2 g3 g4 g5 (by omega) (by omega)]
    by_cases y : tK n bs q = 271
    · rw [if_pos y, if_pos (w1.mp y)]
    · rw [if_neg y, if_neg (fun k => y (w1.mpr k))]
  have v2 : f166 22 (atP s6 q) = some (if tK n bs q = 272 then 1 else 0) := by
    rw [m166 g1 g2 g3 g4 g5 (by omega) (by omega)]
    by_cases y : tK n bs q = 272
    · rw [if_pos y, if_pos (w2.mp y)]
    · rw [if_neg y, if_neg (fun k => y (w2.mpr k))]
  refine ⟨s6, _, s10, a1, b1, v1, v2, d1, ⟨d2, ?_⟩, d3, (a4.tr (FM.st (by omega)).fn).tr d4⟩
  obtain ⟨⟨⟨p, k1, -⟩, -⟩, -⟩ := d2
  exact ⟨k1.1, g2, g3, by rw [d5]; exact g4, g5⟩
theorem R_and {z : S2} {n q c m a : Nat} {bs : Nat → Nat} {E St : List Int} {r : Nat} (h : QA z n bs q c E r) (hs : SK z (List.replicate m 9 ++ (List.replicate a 10 ++ St))) (ht : tpS St ≠ 9 ∧ tpS St ≠ 10) (hl : m + a + St.length ≤ 400) (hE : E.length + m + a < 300) (hK : tK n bs q = 271) : ∃ z', tB (0, 1, z) = some (.inl (1, 1, z')) ∧ QA z' n bs (nq n bs q) c (E ++ List.replicate m (-273) ++ List.replicate a (-271)) r ∧ SK z' (10 :: St) ∧ FN r z z' := by
  obtain ⟨s6, s7, s10, a1, a2, a3, a4, a5, a6, a7, a8⟩ := hd190 h hs ht hl hE
  have hb := a6.2.2.1
  obtain ⟨l1, l2⟩ := tL_w (i := 15) hb (by omega) hK
  have l3 : tL n bs q = 3 := l1
  obtain ⟨s13, b1, b2, b3, b4⟩ := m192 (a := 10) a6 a7 (by omega) (Or.inl rfl)
  have hle := b2.1.1.le
  have e3 : jadd (q : Int) 3 = ((q + 3 : Nat) : Int) := by rw [jadd_e (by omega) (by omega)]; rfl
  have b5 := b2.skip l2 l3
  refine ⟨_, ?_, b5, b3.fm (r := r) (FM.st (by omega)), (a8.tr b4).tr (FM.st (by omega)).fn⟩
  show f190_a 0 1 z = _
  unfold f190_a
  simp only [bnd, jn]
  rw [if_neg ne10, h.1.2, if_neg (show ¬ ¬ (0 : Int) = 0 by decide), if_pos trivial, a1, cP_s, a2, cP_s, a3, cP_s, a4, cP_s, a5, cP_s, if_pos hK, if_neg (show ¬ tK n bs q = 272 by omega), if_pos ne10, if_pos rfl, if_neg ne10, b1, cP_s, if_neg ne10, b2.sign.2, e3]
theorem R_or {z : S2} {n q c m a b : Nat} {bs : Nat → Nat} {E St : List Int} {r : Nat} (h : QA z n bs q c E r) (hs : SK z (List.replicate m 9 ++ (List.replicate a 10 ++ (List.replicate b 11 ++ St)))) (ht : tpS St ≠ 9 ∧ tpS St ≠ 10 ∧ tpS St ≠ 11) (hl : m + a + b + St.length ≤ 400) (hE : E.length + m + a + b < 300) (hK : tK n bs q = 272) : ∃ z', tB (0, 1, z) = some (.inl (1, 1, z')) ∧ QA z' n bs (nq n bs q) c (E ++ List.replicate m (-273) ++ List.replicate a (-271) ++ List.replicate b (-272)) r ∧ SK z' (11 :: St) ∧ FN r z z' := by
  obtain ⟨s6, s7, s10, a1, a2, a3, a4, a5, a6, a7, a8⟩ := hd190 h hs ⟨rep_tp ht.1 (by decide), rep_tp ht.2.1 (by decide)⟩ (by rw [List.length_append, List.length_replicate]; omega) (by omega)
  have hb := a6.2.2.1
  obtain ⟨l1, l2⟩ := tL_w (i := 16) hb (by omega) hK
  have l3 : tL n bs q = 2 := l1
  obtain ⟨s17, d1, d2, d3, d4, d5⟩ := m194 (Or.inr (Or.inr ⟨rfl, rfl⟩)) b a6.1 a7 ht.2.2 (by omega) (by rw [List.length_append, List.length_append, List.length_replicate, List.length_replicate]; omega)
  have d6 : QX s17 n bs q c (E ++ List.replicate m (-273) ++ List.replicate a (-271) ++ List.replicate b (-272)) r := by
    refine ⟨d2, ?_⟩
    obtain ⟨g1, g2, g3, g4, g5⟩ := a6.2
    obtain ⟨⟨⟨p, k1, -⟩, -⟩, -⟩ := d2
    exact ⟨k1.1, g2, g3, by rw [d5]; exact g4, g5⟩
  obtain ⟨s13, b1, b2, b3, b4⟩ := m192 (a := 11) d6 d3 (by omega) (Or.inr rfl)
  have hle := b2.1.1.le
  have e3 : jadd (q : Int) 2 = ((q + 2 : Nat) : Int) := by rw [jadd_e (by omega) (by omega)]; rfl
  have b5 := b2.skip l2 l3
  refine ⟨_, ?_, b5, b3.fm (r := r) (FM.st (by omega)), ((a8.tr d4).tr b4).tr (FM.st (by omega)).fn⟩
  show f190_a 0 1 z = _
  unfold f190_a
  simp only [bnd, jn]
  rw [if_neg ne10, h.1.2, if_neg (show ¬ ¬ (0 : Int) = 0 by decide), if_pos trivial, a1, cP_s, a2, cP_s, a3, cP_s, a4, cP_s, a5, cP_s, if_neg (show ¬ tK n bs q = 271 by omega), if_pos hK, if_neg (show ¬ ¬ (0 : Int) = 0 by decide), if_neg ne10, if_neg ne10, d1, cP_s, if_pos rfl, b1, cP_s, if_pos rfl, b2.sign.2, e3]
theorem R_end {z : S2} {n q c m a b : Nat} {bs : Nat → Nat} {E St : List Int} {r : Nat} (h : QA z n bs q c E r) (hs : SK z (List.replicate m 9 ++ (List.replicate a 10 ++ (List.replicate b 11 ++ St)))) (ht : tpS St ≠ 9 ∧ tpS St ≠ 10 ∧ tpS St ≠ 11) (hl : m + a + b + St.length ≤ 400) (hE : E.length + m + a + b < 300) (hK1 : tK n bs q ≠ 271) (hK : tK n bs q ≠ 272) : ∃ s18, QX s18 n bs q c (E ++ List.replicate m (-273) ++ List.replicate a (-271) ++ List.replicate b (-272)) r ∧ SK s18 St ∧ FN r z s18 ∧ (tpS St ≠ 12 → tB (0, 1, z) = some (.inl (0, 0, s18))) ∧ ∀ S1, St = 12 :: S1 → ∃ z', tB (0, 1, z) = some (.inl (0, 1, z')) ∧ FN r z z' ∧ if tK n bs q = 93 then QA z' n bs (nq n bs q) c (E ++ List.replicate m (-273) ++ List.replicate a (-271) ++ List.replicate b (-272)) r ∧ SK z' S1 else QW z' n bs (1 + 8 * (q : Int) + 0) := by
  obtain ⟨s6, s7, s10, a1, a2, a3, a4, a5, a6, a7, a8⟩ := hd190 h hs ⟨rep_tp ht.1 (by decide), rep_tp ht.2.1 (by decide)⟩ (by rw [List.length_append, List.length_replicate]; omega) (by omega)
  have hb := a6.2.2.1
  obtain ⟨s17, d1, d2, d3, d4, d5⟩ := m194 (Or.inr (Or.inr ⟨rfl, rfl⟩)) b a6.1 a7 ht.2.2 (by omega) (by rw [List.length_append, List.length_append, List.length_replicate, List.length_replicate]; omega)
  have d6 : QX s17 n bs q c (E ++ List.replicate m (-273) ++ List.replicate a (-271) ++ List.replicate b (-272)) r := by
    refine ⟨d2, ?_⟩
    obtain ⟨g1, g2, g3, g4, g5⟩ := a6.2
    obtain ⟨⟨⟨p, k1, -⟩, -⟩, -⟩ := d2
    exact ⟨k1.1, g2, g3, by rw [d5]; exact g4, g5⟩
  have hle := d6.1.1.le
  have st : tB (0, 1, z) = cP (f195 s17) fun r19 => if ¬ r19 = 12 then (some (.inl (0, 0, s17))) else cP (f164 s17) fun r20 => if r20 = 93 then (some (.inl (0, 1, st2 (st2 (st2 s17 1570 0 0 (jadd (s17 1570 0 0) 1)) 1577 0 0 (jsub (st2 s17 1570 0 0 (jadd (s17 1570 0 0) 1) 1577 0 0) 1)) 1575 0 0 (jsub (st2 (st2 s17 1570 0 0 (jadd (s17 1570 0 0) 1)) 1577 0 0 (jsub (st2 s17 1570 0 0 (jadd (s17 1570 0 0) 1) 1577 0 0) 1) 1575 0 0) 1)))) else cP (f167 0 (s17 1570 0 0) s17) fun s29 => some (.inl (0, 1, st2 (st2 (st2 s29 1570 0 0 (jadd (s29 1570 0 0) 1)) 1577 0 0 (jsub (st2 s29 1570 0 0 (jadd (s29 1570 0 0) 1) 1577 0 0) 1)) 1575 0 0 (jsub (st2 (st2 s29 1570 0 0 (jadd (s29 1570 0 0) 1)) 1577 0 0 (jsub (st2 s29 1570 0 0 (jadd (s29 1570 0 0) 1) 1577 0 0) 1) 1575 0 0) 1))) := by
    show f190_a 0 1 z = _
    unfold f190_a
    simp only [bnd, jn]
    rw [if_neg ne10, h.1.2, if_neg (show ¬ ¬ (0 : Int) = 0 by decide), if_pos trivial, a1, cP_s, a2, cP_s, a3, cP_s, a4, cP_s, a5, cP_s, if_neg hK1, if_neg hK, if_neg (show ¬ ¬ (0 : Int) = 0 by decide), if_pos rfl, d1, cP_s]
  rw [m195 d3 (by omega), cP_s] at st
  refine ⟨s17, d6, d3, a8.tr d4, fun w => ?_, fun S1 hS => ?_⟩
  · rw [st, if_pos w]
  · subst hS
    have hl2 : S1.length + 1 ≤ 400 := by
      rw [List.length_cons] at hl
      omega
    obtain ⟨k1, k2, k3⟩ := id d3
    rw [List.length_cons] at k1
    have kd : dpt (12 :: S1) = dpt S1 + 1 := rfl
    have kl := dpt_len (St := S1)
    rw [kd] at k3
    have e1 : jadd (q : Int) 1 = ((q + 1 : Nat) : Int) := by rw [jadd_e (by omega) (by omega)]; rfl
    have e2 : jsub ((S1.length + 1 : Nat) : Int) 1 = (S1.length : Int) := by rw [jsub_e (by omega) (by omega)]; omega
    have e3 : jsub ((dpt S1 + 1 : Nat) : Int) 1 = (dpt S1 : Int) := by rw [jsub_e (by omega) (by omega)]; omega
    have t93 := tok1 (b := 93) (n := n) (q := q) (bs := bs) hb (by decide) (by decide)
    rw [if_neg (show ¬ ¬ tpS (12 :: S1) = 12 from fun w => w rfl), d6.sign.1, cP_s] at st
    by_cases y : bt n bs q = 93
    · obtain ⟨y1, y2⟩ := t93.2 y
      have hK3 : tK n bs q = 93 := t93.1.mpr y
      rw [if_pos y, d6.sign.2, e1, st2_ne (f' := 1577) (by omega), k1, e2, st2_ne (f' := 1575) (by omega), st2_ne (f' := 1575) (by omega), k3, e3] at st
      have d7 := d6.skip y1 y2
      refine ⟨_, st, ((a8.tr d4).tr (FM.st (by omega)).fn).tr ((FN.st (by omega)).tr (FN.st (by omega))), ?_⟩
      rw [if_pos hK3]
      refine ⟨(d7.st (by omega)).st (by omega), ?_, ?_, ?_⟩
      · rw [st2_ne (by omega), st2_eq]
      · exact stkA_tl k2 fun j hj => by rw [st2_ne (by omega), st2_ne (by omega), st2_ne (by omega)]
      · rw [st2_eq]
    · have hK3 : ¬ tK n bs q = 93 := fun w => y (t93.1.mp w)
      obtain ⟨t1, o1, o2, o3⟩ := d6.1.1.fail (k := 0) (p := q) (by omega) (by omega)
      have hQ := d6.1.er o3 o2
      have o4 : t1 1570 0 0 = q := by
        rw [m167 (by omega) (by omega)] at o1
        cases o1
        rw [fl_o (by omega)]
        exact d6.sign.2
      have o : ∀ f, f ≠ 1570 → f ≠ 1571 → t1 f 0 0 = s17 f 0 0 := fun f w1 w2 => by rw [o3 _ _ (p70_f.mpr (by omega))]
      rw [if_neg y, d6.sign.2, o1, cP_s, o4, e1, st2_ne (f' := 1577) (by omega), o _ (by omega) (by omega), k1, e2, st2_ne (f' := 1575) (by omega), st2_ne (f' := 1575) (by omega), o _ (by omega) (by omega), k3, e3] at st
      refine ⟨_, st, (((a8.tr d4).tr o3.fm.fn).tr (FM.st (by omega)).fn).tr ((FN.st (by omega)).tr (FN.st (by omega))), ?_⟩
      rw [if_neg hK3]
      exact ((hQ.go1 (q := q + 1) (by omega)).st (by omega)).st (by omega)
