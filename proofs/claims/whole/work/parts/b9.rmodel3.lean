/-! THE MODEL'S COMPARISON -/
def cmM (r2 : Int) (s4 : S2) (K : Int → S2 → Option S2) : Option S2 := bnd (s4 1570 0 0) fun v5 => bnd (st2 s4 1570 0 0 (jadd v5 1)) fun s6 => jn (fun (x7 : Int) => bnd (s6 1570 0 0) fun v8 => jn (fun (x9 : Int) => bnd (st2 s6 1570 0 0 (jadd v8 x9)) fun s10 => K x7 s10) fun j90 => if x7 = 0 then (j90 0) else j90 1) fun j75 => jn (fun (_ : Unit) => j75 0) fun j74 => if r2 = 61 then (j74 ()) else cP (f164 s6) fun r14 => if ¬ r14 = 61 then (j74 ()) else j75 1
def cmK (r2 x7 : Int) (s11 : S2) : Option S2 := jn (fun (x12 : Int) => cP (f187 x12 0 s11) fun s13 => some s13) fun j139 => if ¬ r2 = 61 then (if ¬ r2 = 60 then (if x7 = 0 then (j139 8) else j139 7) else if x7 = 0 then (j139 4) else j139 5) else j139 6
def cmX (r2 : Int) (s1 : S2) : Option S2 := bnd (s1 1570 0 0) fun v3 => cP (f186 v3 s1) fun s4 => cmM r2 s4 fun x7 s10 => cP (f183 s10) fun s11 => cmK r2 x7 s11
def cmT (s1 : S2) : Option S2 := cP (f164 s1) fun r2 => if r2 = 60 then (cmX r2 s1) else if r2 = 61 then (cmX r2 s1) else if r2 = 62 then (cmX r2 s1) else bnd (s1 1570 0 0) fun v15 => cP (f167 0 v15 s1) fun s16 => some s16
theorem f193_e {s : S2} : f193 s = cP (f183 s) cmT := rfl
theorem tokC {n q : Nat} {bs : Nat → Nat} (hb : ∀ k, k < n → bs k < 256) : (bt n bs q = 61 → tK n bs q = 61 ∧ tL n bs q = 1) ∧ (bt n bs q = 60 → bt n bs (q + 1) = 61 → tK n bs q = 3 ∧ tL n bs q = 2) ∧ (bt n bs q = 60 → bt n bs (q + 1) ≠ 61 → tK n bs q = 60 ∧ tL n bs q = 1) ∧ (bt n bs q = 62 → bt n bs (q + 1) = 61 → tK n bs q = 4 ∧ tL n bs q = 2) ∧ (bt n bs q = 62 → bt n bs (q + 1) ≠ 61 → tK n bs q = 62 ∧ tL n bs q = 1) ∧ (bt n bs q ≠ 60 → bt n bs q ≠ 61 → bt n bs q ≠ 62 → isC (tK n bs q) = false) := by
  have two : ∀ b : Int, b = 60 ∨ b = 62 → bt n bs q = b → (bt n bs (q + 1) = 61 → tK n bs q = (if b = 60 then 3 else 4) ∧ tL n bs q = 2) ∧ (bt n bs (q + 1) ≠ 61 → tK n bs q = b ∧ tL n bs q = 1) := fun b hb0 w => by
    have hq : q < n := bt_lt (bs := bs) (by omega)
    have d1 : ¬ isD (bt n bs q) = true := fun y => by have := isD_t y; omega
    have d2 : ¬ isLt (bt n bs q) = true := fun y => by have := isLt_t y; omega
    have w2 := w
    rw [bt_t hq] at w2
    refine ⟨fun y => ?_, fun y => ?_⟩
    · have d3 : dbl n bs q = true := decide_eq_true ⟨by omega, y⟩
      refine ⟨?_, ?_⟩
      · unfold tK
        rw [if_neg (by omega), if_neg d1, if_neg d2, if_pos d3, w]
      · unfold tL
        rw [if_neg d1, if_neg d2, if_pos d3]
    · have d3 : ¬ dbl n bs q = true := fun z => by have := of_decide_eq_true z; omega
      refine ⟨?_, ?_⟩
      · unfold tK
        have hs : sg (bs q) = true := by
          rcases hb0 with h0 | h0
          · rw [show bs q = 60 by omega]; decide
          · rw [show bs q = 62 by omega]; decide
        rw [if_neg (by omega), if_neg d1, if_neg d2, if_neg d3, if_pos hs, w2]
      · unfold tL
        rw [if_neg d1, if_neg d2, if_neg d3]
  have t61 := tok1 (b := 61) (n := n) (q := q) (bs := bs) hb (by decide) (by decide)
  refine ⟨fun w => ⟨t61.1.mpr w, (t61.2 w).2⟩, fun w => (two 60 (Or.inl rfl) w).1, fun w => (two 60 (Or.inl rfl) w).2, fun w => (two 62 (Or.inr rfl) w).1, fun w => (two 62 (Or.inr rfl) w).2, fun w1 w2 w3 => decide_eq_false fun k => ?_⟩
  have hq : q < n := tK_lt (bs := bs) (by omega)
  have hx : bt n bs q = (bs q : Int) := bt_t hq
  have d3 : ¬ dbl n bs q = true := fun z => by have := of_decide_eq_true z; omega
  unfold tK at k
  rw [if_neg (by omega), if_neg d3] at k
  by_cases d1 : isD (bt n bs q) = true
  · rw [if_pos d1] at k; omega
  · rw [if_neg d1] at k
    by_cases d2 : isLt (bt n bs q) = true
    · rw [if_pos d2] at k
      rcases wk_r (n := n) (q := q) (bs := bs) with y | ⟨i, -, y⟩
      · rw [y] at k; omega
      · rw [y] at k; omega
    · rw [if_neg d2] at k
      by_cases d4 : sg (bs q) = true
      · rw [if_pos d4] at k
        have := sg_l ⟨bs q, hb q hq⟩ d4
        dsimp only at this
        omega
      · rw [if_neg d4] at k; omega
theorem cmM_t {s4 : S2} {n p : Nat} {bs : Nat → Nat} {K : Int → S2 → Option S2} {r2 : Int} (h : MRd s4 n bs p) (hr : r2 = 60 ∨ r2 = 61 ∨ r2 = 62) (hb : bt n bs p = r2) : cmM r2 s4 K = K (if ¬ r2 = 61 ∧ bt n bs (p + 1) = 61 then 1 else 0) (st2 s4 1570 0 0 ((p + tL n bs p : Nat) : Int)) ∧ p + tL n bs p ≤ n := by
  obtain ⟨g1, g2, g3, g4, g5⟩ := id h
  have hp : p < n := bt_lt (bs := bs) (by omega)
  obtain ⟨c1, c2, c3, c4, c5, c6⟩ := tokC (q := p) (bs := bs) g2
  have hL := (tL_bd (bs := bs) hp).2
  refine ⟨?_, hL⟩
  have h1 := h.go (q := p + 1) (by omega)
  obtain ⟨k1, k2, k3, k4, k5⟩ := id h1
  have ej : jadd (p : Int) 1 = ((p + 1 : Nat) : Int) := by rw [jadd_e (by omega) (by omega)]; rfl
  have s64 : f164 (st2 s4 1570 0 0 ((p + 1 : Nat) : Int)) = some (bt n bs (p + 1)) := m164 k1 k2 k3 k4
  have e0 : jadd ((p + 1 : Nat) : Int) 0 = ((p + 1 : Nat) : Int) := by rw [jadd_e (by omega) (by omega)]; omega
  have e1 : jadd ((p + 1 : Nat) : Int) 1 = ((p + 2 : Nat) : Int) := by rw [jadd_e (by omega) (by omega)]; rfl
  have at0 : ∀ v : Int, st2 (st2 s4 1570 0 0 ((p + 1 : Nat) : Int)) 1570 0 0 v = st2 s4 1570 0 0 v := fun v => by
    funext f i k
    simp only [st2_d]
    split <;> rfl
  unfold cmM
  simp only [bnd, jn]
  rw [g4, ej, st2_eq, at0, at0, e0, e1, s64, cP_s]
  by_cases w : r2 = 61
  · rw [if_pos w, if_pos trivial, if_neg (show ¬ (¬ r2 = 61 ∧ bt n bs (p + 1) = 61) from fun y => y.1 w), (c1 (by omega)).2]
  · rw [if_neg w]
    by_cases y : bt n bs (p + 1) = 61
    · have hL2 : tL n bs p = 2 := by
        rcases hr with rfl | rfl | rfl
        · exact (c2 hb y).2
        · exact absurd rfl w
        · exact (c4 hb y).2
      rw [if_neg (fun z => z y), if_neg ne10, if_pos ⟨w, y⟩, hL2]
    · have hL1 : tL n bs p = 1 := by
        rcases hr with rfl | rfl | rfl
        · exact (c3 hb y).2
        · exact absurd rfl w
        · exact (c5 hb y).2
      rw [if_pos y, if_pos trivial, if_neg (fun z => y z.2), hL1]
theorem cmK_e {s : S2} {n : Nat} {bs : Nat → Nat} {e r2 x : Int} (h : QE s n bs e) : cmK r2 x s = some s := by
  unfold cmK
  simp only [jn]
  rw [m187e h, m187e h, m187e h, m187e h, m187e h]
  simp only [cP_s]
  repeat' split
  all_goals rfl
theorem cmX_e {s : S2} {n p r : Nat} {bs : Nat → Nat} {e r2 : Int} (h : QE s n bs e) (hp : MRd s n bs p) (hr : r2 = 60 ∨ r2 = 61 ∨ r2 = 62) (hb : bt n bs p = r2) : ∃ t', cmX r2 s = some t' ∧ QE t' n bs e ∧ FM r s t' := by
  obtain ⟨g1, g2, g3, g4, g5⟩ := id hp
  obtain ⟨t1, b1, b2, b3, b4⟩ := m186e (p := p) (r := r) h (by omega)
  have hp1 : MRd t1 n bs p := by
    obtain ⟨⟨⟨p', y1⟩, -⟩, -⟩ := b2
    exact ⟨y1.1, g2, g3, by rw [b4]; exact g4, g5⟩
  obtain ⟨d1, d2⟩ := cmM_t (K := fun x7 s10 => cP (f183 s10) fun s11 => cmK r2 x7 s11) hp1 hr hb
  obtain ⟨t2, l1, l2, l3⟩ := m183e (r := r) (b2.go d2)
  unfold cmX
  rw [bnd, g4, b1, cP_s, d1, l1, cP_s, cmK_e l2]
  exact ⟨t2, rfl, l2, (b3.tr (FM.st (by omega))).tr l3⟩
theorem cmT_e {s : S2} {n r : Nat} {bs : Nat → Nat} {e : Int} (h : QE s n bs e) : ∃ t', cmT s = some t' ∧ QE t' n bs e ∧ FM r s t' := by
  obtain ⟨⟨⟨p, hp⟩, he, he0⟩, h13⟩ := id h
  obtain ⟨g1, g2, g3, g4, g5⟩ := id hp
  unfold cmT
  rw [m164 g1 g2 g3 g4, cP_s]
  by_cases w1 : bt n bs p = 60
  · rw [if_pos w1]
    exact cmX_e h hp (by omega) rfl
  · rw [if_neg w1]
    by_cases w2 : bt n bs p = 61
    · rw [if_pos w2]
      exact cmX_e h hp (by omega) rfl
    · rw [if_neg w2]
      by_cases w3 : bt n bs p = 62
      · rw [if_pos w3]
        exact cmX_e h hp (by omega) rfl
      · have hf : flS s 0 p = s := by
          unfold flS
          rw [if_pos (by omega)]
        rw [if_neg w3, bnd, g4, m167 (by omega) (by omega), hf, cP_s]
        exact ⟨s, rfl, h, FM.rf⟩
theorem cmX_t {s : S2} {n q c r : Nat} {bs : Nat → Nat} {r2 : Int} {E : List Int} (h : QX s n bs q c E r) (hr : r2 = 60 ∨ r2 = 61 ∨ r2 = 62) (hb : bt n bs q = r2) (hc : c ≤ 60) (hE : 3 * E.length ≤ 6 * c + q) : ∃ t', cmX r2 s = some t' ∧ MRs r s t' n bs E (if 60 ≤ c then .inl (1 + 8 * (q : Int) + 3) else bS (aSum n bs (nq n bs q) (c + 1)) fun q2 c2 Y => .inr (q2, c2, Y ++ [-(tK n bs q)])) := by
  obtain ⟨g1, g2, g3, g4, g5⟩ := id h.2
  have hq : q < n := bt_lt (bs := bs) (by omega)
  have hnq := nq_b (bs := bs) hq
  have h6 := m186 (p := q) h.1 (by omega) hc
  by_cases y : 60 ≤ c
  · rw [if_pos y] at h6 ⊢
    obtain ⟨t1, b1, b2, b3, b4⟩ := h6
    have hp1 : MRd t1 n bs q := by
      obtain ⟨⟨⟨p', y1⟩, -⟩, -⟩ := b2
      exact ⟨y1.1, g2, g3, by rw [b4]; exact g4, g5⟩
    obtain ⟨d1, d2⟩ := cmM_t (K := fun x7 s10 => cP (f183 s10) fun s11 => cmK r2 x7 s11) hp1 hr hb
    obtain ⟨t2, l1, l2, l3⟩ := m183e (r := r) (b2.go d2)
    unfold cmX
    rw [bnd, g4, b1, cP_s, d1, l1, cP_s, cmK_e l2]
    exact ⟨t2, rfl, (b3.tr (FM.st (by omega))).tr l3, l2⟩
  · rw [if_neg y] at h6 ⊢
    obtain ⟨b1, b2⟩ := h6
    have b3 : QX (st2 s 1576 0 0 ((c + 1 : Nat) : Int)) n bs q (c + 1) E r := ⟨b2, h.2.st (by omega)⟩
    obtain ⟨d1, d2⟩ := cmM_t (K := fun x7 s10 => cP (f183 s10) fun s11 => cmK r2 x7 s11) b3.2 hr hb
    have b4 := b3.skip hq rfl
    obtain ⟨t2, l1, l2, l3⟩ := m183 b4 (by omega) (by omega)
    have f0 : FM r s (st2 (st2 s 1576 0 0 ((c + 1 : Nat) : Int)) 1570 0 0 ((q + tL n bs q : Nat) : Int)) := (FM.st (by omega)).tr (FM.st (by omega))
    unfold cmX
    rw [bnd, g4, b1, cP_s, d1, l1, cP_s]
    cases hx : aSum n bs (nq n bs q) (c + 1) with
    | inl e =>
      rw [hx] at l3
      have l3 : QE t2 n bs e := l3
      rw [cmK_e l3]
      exact ⟨t2, rfl, f0.tr l2, l3⟩
    | inr p =>
      obtain ⟨q2, c2, Y⟩ := p
      rw [hx] at l3
      have l3 : QX t2 n bs q2 c2 (E ++ Y) r := l3
      have hp := (aSum_p g2 hx).1
      have hlen : (E ++ Y).length < 300 := by
        have := l3.1.1.le
        rw [List.length_append]
        omega
      obtain ⟨c1, c2', c3, c4, c5, c6⟩ := tokC (q := q) (bs := bs) g2
      have fin : ∀ k : Int, tK n bs q = k → (k = 60 ∨ k = 3 ∨ k = 61 ∨ k = 4 ∨ k = 62) → ∃ t', (cP (f187 (mopS (-k)) 0 t2) fun s13 => some s13) = some t' ∧ MRs r s t' n bs E (bS (.inr (q2, c2, Y)) fun q2 c2 Y => .inr (q2, c2, Y ++ [-(tK n bs q)])) := fun k hk hk2 => by
        obtain ⟨t3, o1, o2, o3, o4⟩ := m187 (a := mopS (-k)) (b := 0) (op := -k) l3.1 hlen rfl (fun w => by omega) (fun w => by omega)
        rw [o1, cP_s, bS_r, hk]
        refine ⟨t3, rfl, (f0.tr l2).tr o3, ?_⟩
        rw [List.append_assoc] at o2
        refine ⟨o2, ?_⟩
        obtain ⟨y1, y2, y3, y4, y5⟩ := l3.2
        obtain ⟨⟨⟨p, k1, -⟩, -⟩, -⟩ := o2
        exact ⟨k1.1, y2, y3, by rw [o4]; exact y4, y5⟩
      unfold cmK
      simp only [jn]
      rcases hr with rfl | rfl | rfl
      · rw [if_pos (show ¬ (60 : Int) = 61 by decide), if_neg (show ¬ ¬ (60 : Int) = 60 from fun w => w rfl)]
        by_cases z : bt n bs (q + 1) = 61
        · rw [if_pos (show ¬ (60 : Int) = 61 ∧ bt n bs (q + 1) = 61 from ⟨by decide, z⟩), if_neg ne10]
          exact fin 3 (c2' hb z).1 (by omega)
        · rw [if_neg (show ¬ (¬ (60 : Int) = 61 ∧ bt n bs (q + 1) = 61) from fun w => z w.2), if_pos rfl]
          exact fin 60 (c3 hb z).1 (by omega)
      · rw [if_neg (show ¬ ¬ (61 : Int) = 61 from fun w => w rfl)]
        exact fin 61 (c1 hb).1 (by omega)
      · rw [if_pos (show ¬ (62 : Int) = 61 by decide), if_pos (show ¬ (62 : Int) = 60 by decide)]
        by_cases z : bt n bs (q + 1) = 61
        · rw [if_pos (show ¬ (62 : Int) = 61 ∧ bt n bs (q + 1) = 61 from ⟨by decide, z⟩), if_neg ne10]
          exact fin 4 (c4 hb z).1 (by omega)
        · rw [if_neg (show ¬ (¬ (62 : Int) = 61 ∧ bt n bs (q + 1) = 61) from fun w => z w.2), if_pos rfl]
          exact fin 62 (c5 hb z).1 (by omega)
theorem m193 {t : S2} {n q c : Nat} {bs : Nat → Nat} {E : List Int} {r : Nat} (h : QA t n bs q c E r) (hc : c ≤ 60) (hE : 3 * E.length ≤ 6 * c + q) : ∃ t', f193 t = some t' ∧ MRs r t t' n bs E (aCmp n bs q c) := by
  have hb : ∀ k, k < n → bs k < 256 := by
    obtain ⟨⟨⟨p, k1, -⟩, -⟩, -⟩ := h
    exact k1.2.1
  obtain ⟨t1, a1, a2, a3⟩ := m183 h hc hE
  rw [f193_e, a1, cP_s]
  unfold aCmp
  cases hx : aSum n bs q c with
  | inl e =>
    rw [hx] at a3
    have a3 : QE t1 n bs e := a3
    obtain ⟨t', b1, b2, b3⟩ := cmT_e (r := r) a3
    exact ⟨t', b1, a2.tr b3, b2⟩
  | inr p =>
    obtain ⟨q1, c1, X⟩ := p
    rw [hx] at a3
    have a3 : QX t1 n bs q1 c1 (E ++ X) r := a3
    have hp := (aSum_p hb hx).1
    rw [bS_r]
    obtain ⟨s1, s2⟩ := a3.sign
    obtain ⟨c1', c2', c3', c4', c5', c6'⟩ := tokC (q := q1) (bs := bs) hb
    have yes : bt n bs q1 = 60 ∨ bt n bs q1 = 61 ∨ bt n bs q1 = 62 → ∃ t', cmX (bt n bs q1) t1 = some t' ∧ MRs r t t' n bs E (if isC (tK n bs q1) = true then (if 60 ≤ c1 then .inl (1 + 8 * (q1 : Int) + 3) else bS (aSum n bs (nq n bs q1) (c1 + 1)) fun q2 c2 Y => .inr (q2, c2, X ++ Y ++ [-(tK n bs q1)])) else .inl (1 + 8 * (q1 : Int) + 0)) := fun w => by
      have hC : isC (tK n bs q1) = true := by
        refine decide_eq_true ?_
        by_cases z : bt n bs (q1 + 1) = 61
        · rcases w with w | w | w
          · rw [(c2' w z).1]; omega
          · rw [(c1' w).1]; omega
          · rw [(c4' w z).1]; omega
        · rcases w with w | w | w
          · rw [(c3' w z).1]; omega
          · rw [(c1' w).1]; omega
          · rw [(c5' w z).1]; omega
      obtain ⟨t', b1, b2, b3⟩ := cmX_t a3 w rfl (by omega) (by rw [List.length_append]; omega)
      refine ⟨t', b1, a2.tr b2, ?_⟩
      rw [if_pos hC]
      by_cases z : 60 ≤ c1
      · rw [if_pos z] at b3 ⊢
        exact b3
      · rw [if_neg z] at b3 ⊢
        cases hy : aSum n bs (nq n bs q1) (c1 + 1) with
        | inl e =>
          rw [hy] at b3
          exact b3
        | inr p =>
          obtain ⟨q2, c2, Y⟩ := p
          rw [hy] at b3
          have b3 : QX t' n bs q2 c2 (E ++ X ++ (Y ++ [-(tK n bs q1)])) r := b3
          have eL : E ++ X ++ (Y ++ [-(tK n bs q1)]) = E ++ (X ++ Y ++ [-(tK n bs q1)]) := by simp only [List.append_assoc]
          rw [eL] at b3
          exact b3
    unfold cmT
    rw [s1, cP_s]
    by_cases w1 : bt n bs q1 = 60
    · rw [if_pos w1]
      exact yes (Or.inl w1)
    · rw [if_neg w1]
      by_cases w2 : bt n bs q1 = 61
      · rw [if_pos w2]
        exact yes (Or.inr (Or.inl w2))
      · rw [if_neg w2]
        by_cases w3 : bt n bs q1 = 62
        · rw [if_pos w3]
          exact yes (Or.inr (Or.inr w3))
        · have hle := a3.1.1.le
          obtain ⟨t', d1, d2, d3⟩ := a3.1.1.fail (k := 0) (p := q1) (by omega) (by omega)
          rw [if_neg w3, bnd, s2, d1, cP_s, if_neg (by rw [c6' w1 w2 w3]; decide)]
          exact ⟨t', rfl, a2.tr d3.fm, a3.1.er d3 d2⟩
