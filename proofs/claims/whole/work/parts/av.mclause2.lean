theorem mcLinen {t : S2} {n q : Nat} {bs : Nat → Nat} {C B : V2} (h : MAt t n bs q) (hM : MC C B t) (hC : CB C) (hB : BD C B) (h0 : C 389 0 < 10) : ∃ t', f169 2 t = some t' ∧ MRes t t' n bs (clLinen n bs q C B) := by
  unfold f169 clLinen f174
  obtain ⟨k, hk⟩ := Int.eq_ofNat_of_zero_le hC.1.2.2.2.2.1
  have hcc := hC.1
  have e2 : t 1557 0 (Int.toNat 4) = k := by rw [← hk]; exact hM.1.2.2.2.2.1
  have e7 : t 1557 0 (Int.toNat 2) = C 387 0 := hM.1.2.2.1
  have hon : B 515 k = -1 := by
    have := hB.1.1 k (by omega)
    omega
  rw [if_neg (by omega), if_neg (by omega), if_pos rfl, ld_t (by omega) (by omega), ld_t (by omega) (by omega), e2, e7, hk, Int.toNat_natCast, jsub_e (by omega) (by omega)]
  rcases h.num (lo := 0) (hi := C 387 0 - 1) (by omega) (by omega) with ⟨v1, q1, t1, a1, a2, a3, a4, a5, a6⟩ | ⟨e, x, t1, a1, a4, a7, a5, a6⟩
  · rw [a1, bN_r, a4, cR_s, sto_t (by omega) (by omega), Int.toNat_natCast]
    rcases (a5.st (g := 1563) (j := k) (v := v1) (by omega)).num (lo := 1) (hi := 4) (by omega) (by omega) with ⟨v2, q2, t2, b1, b2, b3, b4, b5, b6⟩ | ⟨e, x, t2, b1, b4, b7, b5, b6⟩
    · rw [b1, bN_r, b4, cR_s, sto_t (by omega) (by omega), Int.toNat_natCast]
      rcases (b5.st (g := 1564) (j := k) (v := v2) (by omega)).num (lo := 0) (hi := 20) (by omega) (by omega) with ⟨v3, q3, t3, c1, c2, c3, c4, c5, c6⟩ | ⟨e, x, t3, c1, c4, c7, c5, c6⟩
      · have e3 : st2 (st2 t3 1565 0 k v3) 1566 0 k (-1) 1557 0 (Int.toNat 4) = k := by rw [st2_ne (by omega), st2_ne (by omega), c6 _ _ (p70_f.mpr (by omega)), st2_ne (by omega), b6 _ _ (p70_f.mpr (by omega)), st2_ne (by omega), a6 _ _ (p70_f.mpr (by omega)), e2]
        rw [c1, bN_r, c4, cR_s, sto_t (by omega) (by omega), Int.toNat_natCast, sto_t (by omega) (by omega), Int.toNat_natCast, ld_t (by omega) (by omega), e3, jadd_e (by omega) (by omega), sto_t (by omega) (by omega), cP_s]
        refine ⟨_, rfl, ((((((((a6.p70).st (pMd_t (by omega))).tr b6.p70).st (pMd_t (by omega))).tr c6.p70).st (pMd_t (by omega))).st (pMd_t (by omega))).st (pMd_t (by omega))), ((c5.st (by omega)).st (by omega)).st (by omega), ?_⟩
        have r0 : ∀ f j, st2 (st2 (st2 t3 1565 0 k v3) 1566 0 k (-1)) 1557 0 (Int.toNat 4) ((k : Int) + 1) f 0 j = if f = 1557 ∧ j = 4 then (k : Int) + 1 else if f = 1566 ∧ j = k then -1 else if f = 1565 ∧ j = k then v3 else if f = 1564 ∧ j = k then v2 else if f = 1563 ∧ j = k then v1 else if f = 1570 ∨ f = 1571 then t3 f 0 j else t f 0 j := fun f j => by
          by_cases w0 : f = 1570 ∨ f = 1571
          · rw [st2_ne (by omega), st2_ne (by omega), st2_ne (by omega), if_neg (by omega), if_neg (by omega), if_neg (by omega), if_neg (by omega), if_neg (by omega), if_pos w0]
          · rw [if_neg w0]
            by_cases w1 : f = 1557 ∧ j = 4
            · rw [if_pos w1, st2_d, if_pos ⟨w1.1, rfl, w1.2⟩]
            · rw [if_neg w1, st2_d, if_neg (fun w => w1 ⟨w.1, w.2.2⟩)]
              by_cases w2 : f = 1566 ∧ j = k
              · rw [if_pos w2, st2_d, if_pos ⟨w2.1, rfl, w2.2⟩]
              · rw [if_neg w2, st2_d, if_neg (fun w => w2 ⟨w.1, w.2.2⟩)]
                by_cases w3 : f = 1565 ∧ j = k
                · rw [if_pos w3, st2_d, if_pos ⟨w3.1, rfl, w3.2⟩]
                · rw [if_neg w3, st2_d, if_neg (fun w => w3 ⟨w.1, w.2.2⟩), c6 _ _ (p70_f.mpr w0)]
                  by_cases w4 : f = 1564 ∧ j = k
                  · rw [if_pos w4, st2_d, if_pos ⟨w4.1, rfl, w4.2⟩]
                  · rw [if_neg w4, st2_d, if_neg (fun w => w4 ⟨w.1, w.2.2⟩), b6 _ _ (p70_f.mpr w0)]
                    by_cases w5 : f = 1563 ∧ j = k
                    · rw [if_pos w5, st2_d, if_pos ⟨w5.1, rfl, w5.2⟩]
                    · rw [if_neg w5, st2_d, if_neg (fun w => w5 ⟨w.1, w.2.2⟩), a6 _ _ (p70_f.mpr w0)]
        generalize st2 (st2 (st2 t3 1565 0 k v3) 1566 0 k (-1)) 1557 0 (Int.toNat 4) ((k : Int) + 1) = u at r0
        have ev : ∀ f j, cr f j → setC (setC (setC (setC C 395 k v1) 396 k v2) 397 k v3) 389 0 ((k : Int) + 1) f j = if f = 389 ∧ j = 0 then (k : Int) + 1 else if f = 397 ∧ j = k then v3 else if f = 396 ∧ j = k then v2 else if f = 395 ∧ j = k then v1 else C f j := fun f j hr => by
          rw [sC hr, sC hr, sC hr, sC hr]
        generalize setC (setC (setC (setC C 395 k v1) 396 k v2) 397 k v3) 389 0 ((k : Int) + 1) = D at ev
        have z : ∀ f j, cr f j → f ≠ 389 → (f < 395 ∨ 397 < f) → D f j = C f j := fun f j hr w1 w2 => by
          rw [ev f j hr, if_neg (by omega), if_neg (by omega), if_neg (by omega), if_neg (by omega)]
        have d9 : D 389 0 = (k : Int) + 1 := by rw [ev _ _ (by unfold cr; omega), if_pos (by omega)]
        have r1 : ∀ f, ¬ (f = 1557 ∨ 1563 ≤ f ∧ f ≤ 1566 ∨ f = 1570 ∨ f = 1571) → u f 0 = t f 0 := fun f w => funext fun j => by
          rw [r0, if_neg (by omega), if_neg (by omega), if_neg (by omega), if_neg (by omega), if_neg (by omega), if_neg (by omega)]
        have r2 : ∀ j, j ≠ 4 → u 1557 0 j = t 1557 0 j := fun j w => by
          rw [r0, if_neg (by omega), if_neg (by omega), if_neg (by omega), if_neg (by omega), if_neg (by omega), if_neg (by omega)]
        obtain ⟨⟨c1, c2, c3, c4, c5, c6, c7⟩, m2, m3, m4, m5⟩ := hM
        refine ⟨⟨?_, ?_, ?_, ?_, ?_, ?_, ?_⟩, m2.ext (z _ _ (by unfold cr; omega) (by omega) (by omega)) (fun f l w1 w2 w3 => z _ _ (by unfold cr; omega) (by omega) (by omega)) (fun f w1 w2 => r1 f (by omega)), fun l hl w => ?_, m4.ext (z _ _ (by unfold cr; omega) (by omega) (by omega)) (fun f l w1 w2 w3 => z _ _ (by unfold cr; omega) (by omega) (by omega)) (fun f w1 w2 => r1 f (by omega)), m5.ext (z _ _ (by unfold cr; omega) (by omega) (by omega)) (fun l hl => setF_o (yr517 hl) (by omega)) (r1 _ (by omega))⟩
        · rw [r2 _ (by omega), z _ _ (by unfold cr; omega) (by omega) (by omega)]; exact c1
        · rw [r2 _ (by omega), z _ _ (by unfold cr; omega) (by omega) (by omega)]; exact c2
        · rw [r2 _ (by omega), z _ _ (by unfold cr; omega) (by omega) (by omega)]; exact c3
        · rw [r2 _ (by omega), z _ _ (by unfold cr; omega) (by omega) (by omega)]; exact c4
        · rw [r0, if_pos (by omega), d9]
        · rw [r2 _ (by omega), z _ _ (by unfold cr; omega) (by omega) (by omega)]; exact c6
        · rw [r2 _ (by omega)]; exact c7
        · rw [d9] at w
          by_cases e : l = k
          · subst e
            refine ⟨?_, ?_, ?_, ?_⟩
            · rw [r0, if_neg (by omega), if_neg (by omega), if_neg (by omega), if_neg (by omega), if_pos (by omega), ev _ _ (by unfold cr; omega), if_neg (by omega), if_neg (by omega), if_neg (by omega), if_pos (by omega)]
            · rw [r0, if_neg (by omega), if_neg (by omega), if_neg (by omega), if_pos (by omega), ev _ _ (by unfold cr; omega), if_neg (by omega), if_neg (by omega), if_pos (by omega)]
            · rw [r0, if_neg (by omega), if_neg (by omega), if_pos (by omega), ev _ _ (by unfold cr; omega), if_neg (by omega), if_pos (by omega)]
            · rw [r0, if_neg (by omega), if_pos (by omega), setF_o (yr515 hl) (by omega), hon]
          · have r3 : ∀ f, 1563 ≤ f → f ≤ 1566 → u f 0 l = t f 0 l := fun f w1 w2 => by
              rw [r0, if_neg (by omega), if_neg (by omega), if_neg (by omega), if_neg (by omega), if_neg (by omega), if_neg (by omega)]
            have r4 : ∀ f, 395 ≤ f → f ≤ 397 → D f l = C f l := fun f w1 w2 => by
              rw [ev _ _ (by unfold cr; omega), if_neg (by omega), if_neg (by omega), if_neg (by omega), if_neg (by omega)]
            rw [r3 _ (by omega) (by omega), r3 _ (by omega) (by omega), r3 _ (by omega) (by omega), r3 _ (by omega) (by omega), r4 _ (by omega) (by omega), r4 _ (by omega) (by omega), r4 _ (by omega) (by omega), setF_o (yr515 hl) (by omega)]
            exact m3 l hl (by omega)
      · have e3 : st2 (st2 t3 1565 0 k x) 1566 0 k (-1) 1557 0 (Int.toNat 4) = k := by rw [st2_ne (by omega), st2_ne (by omega), c6 _ _ (p70_f.mpr (by omega)), st2_ne (by omega), b6 _ _ (p70_f.mpr (by omega)), st2_ne (by omega), a6 _ _ (p70_f.mpr (by omega)), e2]
        rw [c1, bN_l, c4, cR_s, sto_t (by omega) (by omega), Int.toNat_natCast, sto_t (by omega) (by omega), Int.toNat_natCast, ld_t (by omega) (by omega), e3, jadd_e (by omega) (by omega), sto_t (by omega) (by omega), cP_s]
        exact ⟨_, rfl, ((((((((a6.p70).st (pMd_t (by omega))).tr b6.p70).st (pMd_t (by omega))).tr c6.p70).st (pMd_t (by omega))).st (pMd_t (by omega))).st (pMd_t (by omega))), ((c5.st (by omega)).st (by omega)).st (by omega)⟩
    · rw [b1, bN_l, b4, cR_s, sto_t (by omega) (by omega), Int.toNat_natCast]
      obtain ⟨t3, c4, c5, c6⟩ := (b5.st (g := 1564) (j := k) (v := x) (by omega)).num (lo := 0) (hi := 20)
      have e3 : st2 (st2 t3 1565 0 k 0) 1566 0 k (-1) 1557 0 (Int.toNat 4) = k := by rw [st2_ne (by omega), st2_ne (by omega), c6 _ _ (p70_f.mpr (by omega)), st2_ne (by omega), b6 _ _ (p70_f.mpr (by omega)), st2_ne (by omega), a6 _ _ (p70_f.mpr (by omega)), e2]
      rw [c4, cR_s, sto_t (by omega) (by omega), Int.toNat_natCast, sto_t (by omega) (by omega), Int.toNat_natCast, ld_t (by omega) (by omega), e3, jadd_e (by omega) (by omega), sto_t (by omega) (by omega), cP_s]
      exact ⟨_, rfl, ((((((((a6.p70).st (pMd_t (by omega))).tr b6.p70).st (pMd_t (by omega))).tr c6.p70).st (pMd_t (by omega))).st (pMd_t (by omega))).st (pMd_t (by omega))), ((c5.st (by omega)).st (by omega)).st (by omega)⟩
  · rw [a1, bN_l, a4, cR_s, sto_t (by omega) (by omega), Int.toNat_natCast]
    obtain ⟨t2, b4, b5, b6⟩ := (a5.st (g := 1563) (j := k) (v := x) (by omega)).num (lo := 1) (hi := 4)
    rw [b4, cR_s, sto_t (by omega) (by omega), Int.toNat_natCast]
    obtain ⟨t3, c4, c5, c6⟩ := (b5.st (g := 1564) (j := k) (v := 0) (by omega)).num (lo := 0) (hi := 20)
    have e3 : st2 (st2 t3 1565 0 k 0) 1566 0 k (-1) 1557 0 (Int.toNat 4) = k := by rw [st2_ne (by omega), st2_ne (by omega), c6 _ _ (p70_f.mpr (by omega)), st2_ne (by omega), b6 _ _ (p70_f.mpr (by omega)), st2_ne (by omega), a6 _ _ (p70_f.mpr (by omega)), e2]
    rw [c4, cR_s, sto_t (by omega) (by omega), Int.toNat_natCast, sto_t (by omega) (by omega), Int.toNat_natCast, ld_t (by omega) (by omega), e3, jadd_e (by omega) (by omega), sto_t (by omega) (by omega), cP_s]
    exact ⟨_, rfl, ((((((((a6.p70).st (pMd_t (by omega))).tr b6.p70).st (pMd_t (by omega))).tr c6.p70).st (pMd_t (by omega))).st (pMd_t (by omega))).st (pMd_t (by omega))), ((c5.st (by omega)).st (by omega)).st (by omega)⟩
