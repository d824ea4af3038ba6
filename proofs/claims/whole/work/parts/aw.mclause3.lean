theorem MAt.bl {t : S2} {n q : Nat} {bs : Nat → Nat} (h : MAt t n bs q) : f163 t = some (atP t q) ∧ MAt (atP t q) n bs q ∧ MRd (atP t q) n bs q := by
  obtain ⟨⟨p, a1, a2⟩, a3⟩ := h
  obtain ⟨k1, k2⟩ := a1.bl
  rw [a2] at k1 k2
  refine ⟨k1, ⟨⟨q, k2, ?_⟩, by rw [atP_o (by omega)]; exact a3⟩, k2⟩
  rw [← a2, sk_sk]
theorem MEr.bl {t : S2} {n : Nat} {e : Int} {bs : Nat → Nat} (h : MEr t n bs e) : ∃ t', f163 t = some t' ∧ MEr t' n bs e ∧ Fr p70 t t' := by
  obtain ⟨⟨p, a1⟩, a2, a3⟩ := h
  obtain ⟨k1, k2⟩ := a1.bl
  exact ⟨_, k1, ⟨⟨_, k2⟩, by rw [atP_o (by omega)]; exact a2, a3⟩, atP_fr⟩
theorem MAt.fail {t : S2} {n q p : Nat} {k : Int} {bs : Nat → Nat} (h : MAt t n bs q) (hk : 0 ≤ k ∧ k ≤ 7) (hp : p ≤ 400) : ∃ t', f167 k p t = some t' ∧ MEr t' n bs (1 + 8 * (p : Int) + k) ∧ Fr p70 t t' := by
  obtain ⟨⟨p', a1, a2⟩, a3⟩ := h
  exact ⟨_, m167 hk hp, ⟨⟨p', a1.fl⟩, fl_e a3, by omega⟩, flS_fr⟩
def mlT (k : Int) (s : S2) : Option S2 := cR (f170 1 9 s) fun r12 s13 => sto s13 1561 0 6 k r12 fun s14 => cR (f170 1 99 s14) fun r15 s16 => sto s16 1562 0 6 k r15 fun s17 => ld s17 1557 0 7 3 fun v18 => sto s17 1557 0 7 3 (jadd v18 1) fun s19 => some s19
theorem mlT_e {t : S2} {n k : Nat} {e : Int} {bs : Nat → Nat} (h : MEr t n bs e) (hk : k < 6) (e2 : t 1557 0 3 = k) : ∃ t', mlT k t = some t' ∧ MEr t' n bs e ∧ Fr pMd t t' := by
  unfold mlT
  obtain ⟨t1, a4, a5, a6⟩ := h.num (lo := 1) (hi := 9)
  rw [a4, cR_s, sto_t (by omega) (by omega), Int.toNat_natCast]
  obtain ⟨t2, b4, b5, b6⟩ := (a5.st (g := 1561) (j := k) (v := 0) (by omega)).num (lo := 1) (hi := 99)
  have e3 : st2 t2 1562 0 k 0 1557 0 (Int.toNat 3) = k := by rw [st2_ne (by omega), b6 _ _ (p70_f.mpr (by omega)), st2_ne (by omega), a6 _ _ (p70_f.mpr (by omega)), ← e2]; rfl
  rw [b4, cR_s, sto_t (by omega) (by omega), Int.toNat_natCast, ld_t (by omega) (by omega), e3, jadd_e (by omega) (by omega), sto_t (by omega) (by omega)]
  exact ⟨_, rfl, (b5.st (by omega)).st (by omega), (((((a6.p70).st (pMd_t (by omega))).tr b6.p70).st (pMd_t (by omega))).st (pMd_t (by omega)))⟩
theorem mlT_t {t : S2} {n q k : Nat} {bs : Nat → Nat} (h : MAt t n bs q) (hk : k < 6) (e2 : t 1557 0 3 = k) : ∃ t', mlT k t = some t' ∧ Fr pMd t t' ∧ ((∃ v3 q3 v4 q4, numA n bs 1 9 q = .inr (v3, q3) ∧ numA n bs 1 99 q3 = .inr (v4, q4) ∧ MAt t' n bs q4 ∧ ∀ f j, ¬ (f = 1570 ∨ f = 1571) → t' f 0 j = if f = 1557 ∧ j = 3 then (k : Int) + 1 else if f = 1562 ∧ j = k then v4 else if f = 1561 ∧ j = k then v3 else t f 0 j) ∨ (∃ e, (numA n bs 1 9 q = .inl e ∨ ∃ v3 q3, numA n bs 1 9 q = .inr (v3, q3) ∧ numA n bs 1 99 q3 = .inl e) ∧ MEr t' n bs e)) := by
  unfold mlT
  rcases h.num (lo := 1) (hi := 9) (by omega) (by omega) with ⟨v1, q1, t1, a1, a2, a3, a4, a5, a6⟩ | ⟨e, x, t1, a1, a4, a7, a5, a6⟩
  · rw [a4, cR_s, sto_t (by omega) (by omega), Int.toNat_natCast]
    rcases (a5.st (g := 1561) (j := k) (v := v1) (by omega)).num (lo := 1) (hi := 99) (by omega) (by omega) with ⟨v2, q2, t2, b1, b2, b3, b4, b5, b6⟩ | ⟨e, x, t2, b1, b4, b7, b5, b6⟩
    · have e3 : st2 t2 1562 0 k v2 1557 0 (Int.toNat 3) = k := by rw [st2_ne (by omega), b6 _ _ (p70_f.mpr (by omega)), st2_ne (by omega), a6 _ _ (p70_f.mpr (by omega)), ← e2]; rfl
      rw [b4, cR_s, sto_t (by omega) (by omega), Int.toNat_natCast, ld_t (by omega) (by omega), e3, jadd_e (by omega) (by omega), sto_t (by omega) (by omega)]
      refine ⟨_, rfl, (((((a6.p70).st (pMd_t (by omega))).tr b6.p70).st (pMd_t (by omega))).st (pMd_t (by omega))), Or.inl ⟨v1, q1, v2, q2, a1, b1, (b5.st (by omega)).st (by omega), fun f j w0 => ?_⟩⟩
      by_cases w1 : f = 1557 ∧ j = 3
      · rw [if_pos w1, st2_d, if_pos ⟨w1.1, rfl, w1.2⟩]
      · rw [if_neg w1, st2_d, if_neg (fun w => w1 ⟨w.1, w.2.2⟩)]
        by_cases w2 : f = 1562 ∧ j = k
        · rw [if_pos w2, st2_d, if_pos ⟨w2.1, rfl, w2.2⟩]
        · rw [if_neg w2, st2_d, if_neg (fun w => w2 ⟨w.1, w.2.2⟩), b6 _ _ (p70_f.mpr w0)]
          by_cases w3 : f = 1561 ∧ j = k
          · rw [if_pos w3, st2_d, if_pos ⟨w3.1, rfl, w3.2⟩]
          · rw [if_neg w3, st2_d, if_neg (fun w => w3 ⟨w.1, w.2.2⟩), a6 _ _ (p70_f.mpr w0)]
    · have e3 : st2 t2 1562 0 k x 1557 0 (Int.toNat 3) = k := by rw [st2_ne (by omega), b6 _ _ (p70_f.mpr (by omega)), st2_ne (by omega), a6 _ _ (p70_f.mpr (by omega)), ← e2]; rfl
      rw [b4, cR_s, sto_t (by omega) (by omega), Int.toNat_natCast, ld_t (by omega) (by omega), e3, jadd_e (by omega) (by omega), sto_t (by omega) (by omega)]
      exact ⟨_, rfl, (((((a6.p70).st (pMd_t (by omega))).tr b6.p70).st (pMd_t (by omega))).st (pMd_t (by omega))), Or.inr ⟨e, Or.inr ⟨v1, q1, a1, b1⟩, (b5.st (by omega)).st (by omega)⟩⟩
  · rw [a4, cR_s, sto_t (by omega) (by omega), Int.toNat_natCast]
    obtain ⟨t2, b4, b5, b6⟩ := (a5.st (g := 1561) (j := k) (v := x) (by omega)).num (lo := 1) (hi := 99)
    have e3 : st2 t2 1562 0 k 0 1557 0 (Int.toNat 3) = k := by rw [st2_ne (by omega), b6 _ _ (p70_f.mpr (by omega)), st2_ne (by omega), a6 _ _ (p70_f.mpr (by omega)), ← e2]; rfl
    rw [b4, cR_s, sto_t (by omega) (by omega), Int.toNat_natCast, ld_t (by omega) (by omega), e3, jadd_e (by omega) (by omega), sto_t (by omega) (by omega)]
    exact ⟨_, rfl, (((((a6.p70).st (pMd_t (by omega))).tr b6.p70).st (pMd_t (by omega))).st (pMd_t (by omega))), Or.inr ⟨e, Or.inl a1, (b5.st (by omega)).st (by omega)⟩⟩
theorem mcLine {t : S2} {n q : Nat} {bs : Nat → Nat} {C B : V2} (h : MAt t n bs q) (hM : MC C B t) (hC : CB C) (h0 : C 388 0 < 6) : ∃ t', f169 3 t = some t' ∧ MRes t t' n bs (clLine n bs q C B) := by
  have hcc := hC.1
  obtain ⟨k, hk⟩ := Int.eq_ofNat_of_zero_le hcc.2.2.1
  have hk6 : k < 6 := by omega
  have e2 : t 1557 0 (Int.toNat 3) = k := by rw [← hk]; exact hM.1.2.2.2.1
  have hun : f169 3 t = cP (f175 t) fun s14 => some s14 := rfl
  have h175 : f175 t = cR (f170 0 7 t) fun r2 s3 => sto s3 1559 0 6 k r2 fun s4 => cP (f163 s4) fun s5 => cR (f170 0 7 s5) fun r7 s8 => sto s8 1560 0 6 k r7 fun s9 => if ¬ s9 1571 0 0 = 0 then mlT k s9 else ld s9 1559 0 6 k fun v20 => ld s9 1560 0 6 k fun v21 => if ¬ v20 = v21 then mlT k s9 else cP (f167 1 (s5 1570 0 0) s9) fun s22 => mlT k s22 := by
    unfold f175
    rw [ld_t (by omega) (by omega), e2]
    rfl
  rw [hun, h175]
  unfold clLine
  rcases h.num (lo := 0) (hi := 7) (by omega) (by omega) with ⟨v1, q1, t1, a1, a2, a3, a4, a5, a6⟩ | ⟨e, x, t1, a1, a4, a7, a5, a6⟩
  · obtain ⟨g1, g2, g3⟩ := (a5.st (g := 1559) (j := k) (v := v1) (by omega)).bl
    have hq1 := g2.le
    have g4 : atP (st2 t1 1559 0 k v1) q1 1570 0 0 = q1 := st2_eq
    rw [a1, bN_r, a4, cR_s, sto_t (by omega) (by omega), Int.toNat_natCast, g1, cP_s, g4]
    rcases g2.num (lo := 0) (hi := 7) (by omega) (by omega) with ⟨v2, q2, t2, b1, b2, b3, b4, b5, b6⟩ | ⟨e, x, t2, b1, b4, b7, b5, b6⟩
    · have r9 : ∀ f j, ¬ (f = 1570 ∨ f = 1571) → st2 t2 1560 0 k v2 f 0 j = if f = 1560 ∧ j = k then v2 else if f = 1559 ∧ j = k then v1 else t f 0 j := fun f j w0 => by
        by_cases w2 : f = 1560 ∧ j = k
        · rw [if_pos w2, st2_d, if_pos ⟨w2.1, rfl, w2.2⟩]
        · rw [if_neg w2, st2_d, if_neg (fun w => w2 ⟨w.1, w.2.2⟩), b6 _ _ (p70_f.mpr w0), atP_fr _ _ (p70_f.mpr w0)]
          by_cases w3 : f = 1559 ∧ j = k
          · rw [if_pos w3, st2_d, if_pos ⟨w3.1, rfl, w3.2⟩]
          · rw [if_neg w3, st2_d, if_neg (fun w => w3 ⟨w.1, w.2.2⟩), a6 _ _ (p70_f.mpr w0)]
      have b5' := b5.st (g := 1560) (j := k) (v := v2) (by omega)
      have fr9 : Fr pMd t (st2 t2 1560 0 k v2) := (((((a6.p70).st (pMd_t (by omega))).tr atP_fr.p70).tr b6.p70).st (pMd_t (by omega)))
      have x59 : st2 t2 1560 0 k v2 1559 0 k = v1 := by rw [r9 _ _ (by omega), if_neg (by omega), if_pos (by omega)]
      have x60 : st2 t2 1560 0 k v2 1560 0 k = v2 := st2_eq
      have e3 : st2 t2 1560 0 k v2 1557 0 3 = k := by rw [r9 _ _ (by omega), if_neg (by omega), if_neg (by omega), ← e2]; rfl
      rw [b1, bN_r, b4, cR_s, sto_t (by omega) (by omega), Int.toNat_natCast, if_neg (fun w => w b5'.2), ld_t (by omega) (by omega), ld_t (by omega) (by omega), Int.toNat_natCast, x59, x60]
      by_cases hv : v1 = v2
      · obtain ⟨t3, d1, d2, d3⟩ := b5'.fail (k := 1) (p := q1) (by omega) (by omega)
        obtain ⟨t4, l1, l2, l3⟩ := mlT_e d2 hk6 (by rw [d3 _ _ (p70_f.mpr (by omega))]; exact e3)
        rw [if_pos hv, if_neg (fun w => w hv), d1, cP_s, l1, cP_s]
        exact ⟨t4, rfl, (fr9.tr d3.p70).tr l3, l2⟩
      · rw [if_neg hv, if_pos hv]
        obtain ⟨t4, l1, l2, l3⟩ := mlT_t b5' hk6 e3
        rw [l1, cP_s]
        refine ⟨t4, rfl, fr9.tr l2, ?_⟩
        rcases l3 with ⟨v3, q3, v4, q4, m1, m2, m3, m4⟩ | ⟨e, m1 | ⟨v3, q3, m1, m2⟩, m3⟩
        · rw [m1, bN_r, m2, bN_r, hk, Int.toNat_natCast]
          refine ⟨m3, ?_⟩
          have r0 : ∀ f j, ¬ (f = 1570 ∨ f = 1571) → t4 f 0 j = if f = 1557 ∧ j = 3 then (k : Int) + 1 else if f = 1562 ∧ j = k then v4 else if f = 1561 ∧ j = k then v3 else if f = 1560 ∧ j = k then v2 else if f = 1559 ∧ j = k then v1 else t f 0 j := fun f j w0 => by rw [m4 f j w0, r9 f j w0]
          clear x59 x60 m4 r9 l2 l1 fr9 b5' b6 a6 m3 b5 g1 g2 g3 g4 a5
          have ev : ∀ f j, cr f j → setC (setC (setC (setC (setC C 391 k v1) 392 k v2) 393 k v3) 394 k v4) 388 0 ((k : Int) + 1) f j = if f = 388 ∧ j = 0 then (k : Int) + 1 else if f = 394 ∧ j = k then v4 else if f = 393 ∧ j = k then v3 else if f = 392 ∧ j = k then v2 else if f = 391 ∧ j = k then v1 else C f j := fun f j hr => by
            rw [sC hr, sC hr, sC hr, sC hr, sC hr]
          generalize setC (setC (setC (setC (setC C 391 k v1) 392 k v2) 393 k v3) 394 k v4) 388 0 ((k : Int) + 1) = D at ev
          have z : ∀ f j, cr f j → f ≠ 388 → (f < 391 ∨ 394 < f) → D f j = C f j := fun f j hr w1 w2 => by
            rw [ev f j hr, if_neg (by omega), if_neg (by omega), if_neg (by omega), if_neg (by omega), if_neg (by omega)]
          have d8 : D 388 0 = (k : Int) + 1 := by rw [ev _ _ (by unfold cr; omega), if_pos (by omega)]
          have r1 : ∀ f, ¬ (f = 1557 ∨ 1559 ≤ f ∧ f ≤ 1562 ∨ f = 1570 ∨ f = 1571) → t4 f 0 = t f 0 := fun f w => funext fun j => by
            rw [r0 _ _ (by omega), if_neg (by omega), if_neg (by omega), if_neg (by omega), if_neg (by omega), if_neg (by omega)]
          have r2 : ∀ j, j ≠ 3 → t4 1557 0 j = t 1557 0 j := fun j w => by
            rw [r0 _ _ (by omega), if_neg (by omega), if_neg (by omega), if_neg (by omega), if_neg (by omega), if_neg (by omega)]
          obtain ⟨⟨c1, c2, c3, c4, c5, c6, c7⟩, m2, m3, m4, m5⟩ := hM
          refine ⟨⟨?_, ?_, ?_, ?_, ?_, ?_, ?_⟩, fun l hl w => ?_, m3.ext (z _ _ (by unfold cr; omega) (by omega) (by omega)) (fun f l w1 w2 w3 => z _ _ (by unfold cr; omega) (by omega) (by omega)) (fun l hl => rfl) (fun f w1 w2 => r1 f (by omega)), m4.ext (z _ _ (by unfold cr; omega) (by omega) (by omega)) (fun f l w1 w2 w3 => z _ _ (by unfold cr; omega) (by omega) (by omega)) (fun f w1 w2 => r1 f (by omega)), m5.ext (z _ _ (by unfold cr; omega) (by omega) (by omega)) (fun l hl => rfl) (r1 _ (by omega))⟩
          · rw [r2 _ (by omega), z _ _ (by unfold cr; omega) (by omega) (by omega)]; exact c1
          · rw [r2 _ (by omega), z _ _ (by unfold cr; omega) (by omega) (by omega)]; exact c2
          · rw [r2 _ (by omega), z _ _ (by unfold cr; omega) (by omega) (by omega)]; exact c3
          · rw [r0 _ _ (by omega), if_pos (by omega), d8]
          · rw [r2 _ (by omega), z _ _ (by unfold cr; omega) (by omega) (by omega)]; exact c5
          · rw [r2 _ (by omega), z _ _ (by unfold cr; omega) (by omega) (by omega)]; exact c6
          · rw [r2 _ (by omega)]; exact c7
          · rw [d8] at w
            by_cases e : l = k
            · subst e
              refine ⟨?_, ?_, ?_, ?_⟩
              · rw [r0 _ _ (by omega), if_neg (by omega), if_neg (by omega), if_neg (by omega), if_neg (by omega), if_pos (by omega), ev _ _ (by unfold cr; omega), if_neg (by omega), if_neg (by omega), if_neg (by omega), if_neg (by omega), if_pos (by omega)]
              · rw [r0 _ _ (by omega), if_neg (by omega), if_neg (by omega), if_neg (by omega), if_pos (by omega), ev _ _ (by unfold cr; omega), if_neg (by omega), if_neg (by omega), if_neg (by omega), if_pos (by omega)]
              · rw [r0 _ _ (by omega), if_neg (by omega), if_neg (by omega), if_pos (by omega), ev _ _ (by unfold cr; omega), if_neg (by omega), if_neg (by omega), if_pos (by omega)]
              · rw [r0 _ _ (by omega), if_neg (by omega), if_pos (by omega), ev _ _ (by unfold cr; omega), if_neg (by omega), if_pos (by omega)]
            · have r3 : ∀ f, 1559 ≤ f → f ≤ 1562 → t4 f 0 l = t f 0 l := fun f w1 w2 => by
                rw [r0 _ _ (by omega), if_neg (by omega), if_neg (by omega), if_neg (by omega), if_neg (by omega), if_neg (by omega)]
              have r4 : ∀ f, 391 ≤ f → f ≤ 394 → D f l = C f l := fun f w1 w2 => by
                rw [ev _ _ (by unfold cr; omega), if_neg (by omega), if_neg (by omega), if_neg (by omega), if_neg (by omega), if_neg (by omega)]
              rw [r3 _ (by omega) (by omega), r3 _ (by omega) (by omega), r3 _ (by omega) (by omega), r3 _ (by omega) (by omega), r4 _ (by omega) (by omega), r4 _ (by omega) (by omega), r4 _ (by omega) (by omega), r4 _ (by omega) (by omega)]
              exact m2 l hl (by omega)
        · rw [m1, bN_l]
          exact m3
        · rw [m1, bN_r, m2, bN_l]
          exact m3
    · have e3 : st2 t2 1560 0 k x 1557 0 3 = k := by rw [st2_ne (by omega), b6 _ _ (p70_f.mpr (by omega)), atP_o (by omega), st2_ne (by omega), a6 _ _ (p70_f.mpr (by omega)), ← e2]; rfl
      have b5' := b5.st (g := 1560) (j := k) (v := x) (by omega)
      obtain ⟨t4, l1, l2, l3⟩ := mlT_e b5' hk6 e3
      rw [b1, bN_l, b4, cR_s, sto_t (by omega) (by omega), Int.toNat_natCast, if_pos (by have := b5'.2; omega), l1, cP_s]
      exact ⟨t4, rfl, ((((((a6.p70).st (pMd_t (by omega))).tr atP_fr.p70).tr b6.p70).st (pMd_t (by omega))).tr l3), l2⟩
  · obtain ⟨t2, g1, g2, g3⟩ := (a5.st (g := 1559) (j := k) (v := x) (by omega)).bl
    obtain ⟨t3, b4, b5, b6⟩ := g2.num (lo := 0) (hi := 7)
    have b5' := b5.st (g := 1560) (j := k) (v := 0) (by omega)
    have e3 : st2 t3 1560 0 k 0 1557 0 3 = k := by rw [st2_ne (by omega), b6 _ _ (p70_f.mpr (by omega)), g3 _ _ (p70_f.mpr (by omega)), st2_ne (by omega), a6 _ _ (p70_f.mpr (by omega)), ← e2]; rfl
    obtain ⟨t4, l1, l2, l3⟩ := mlT_e b5' hk6 e3
    rw [a1, bN_l, a4, cR_s, sto_t (by omega) (by omega), Int.toNat_natCast, g1, cP_s, b4, cR_s, sto_t (by omega) (by omega), Int.toNat_natCast, if_pos (by have := b5'.2; omega), l1, cP_s]
    exact ⟨t4, rfl, ((((((a6.p70).st (pMd_t (by omega))).tr g3.p70).tr b6.p70).st (pMd_t (by omega))).tr l3), l2⟩
