/-- the draft of a court in the model -/
def MCs (C : V2) (t : S2) : Prop := t 1557 0 0 = C 385 0 ∧ t 1557 0 1 = C 386 0 ∧ t 1557 0 2 = C 387 0 ∧ t 1557 0 3 = C 388 0 ∧ t 1557 0 4 = C 389 0 ∧ t 1557 0 5 = C 390 0 ∧ t 1557 0 6 = 0
def MCl (C : V2) (t : S2) : Prop := ∀ l : Nat, l < 6 → (l : Int) < C 388 0 → t 1559 0 l = C 391 l ∧ t 1560 0 l = C 392 l ∧ t 1561 0 l = C 393 l ∧ t 1562 0 l = C 394 l
def MCn (C B : V2) (t : S2) : Prop := ∀ l : Nat, l < 10 → (l : Int) < C 389 0 → t 1563 0 l = C 395 l ∧ t 1564 0 l = C 396 l ∧ t 1565 0 l = C 397 l ∧ t 1566 0 l = B 515 l
def MCr (C : V2) (t : S2) : Prop := ∀ l : Nat, l < 3 → (l : Int) < C 390 0 → t 1567 0 l = C 398 l ∧ t 1568 0 l = C 399 l
def MCp (C B : V2) (t : S2) : Prop := ∀ l : Nat, l < 4 → (l : Int) < C 387 0 → t 1558 0 l = B 517 l
def MC (C B : V2) (t : S2) : Prop := MCs C t ∧ MCl C t ∧ MCn C B t ∧ MCr C t ∧ MCp C B t
theorem MC.fr {C B : V2} {t t' : S2} (h : MC C B t) (e : ∀ f, 1557 ≤ f → f ≤ 1568 → t' f 0 = t f 0) : MC C B t' := by
  unfold MC MCs MCl MCn MCr MCp
  rw [e 1557 (by omega) (by omega), e 1558 (by omega) (by omega), e 1559 (by omega) (by omega), e 1560 (by omega) (by omega), e 1561 (by omega) (by omega), e 1562 (by omega) (by omega), e 1563 (by omega) (by omega), e 1564 (by omega) (by omega), e 1565 (by omega) (by omega), e 1566 (by omega) (by omega), e 1567 (by omega) (by omega), e 1568 (by omega) (by omega)]
  exact h
theorem MC.f70 {C B : V2} {t t' : S2} (h : MC C B t) (e : Fr p70 t t') : MC C B t' := h.fr fun f g1 g2 => e f 0 (p70_f.mpr (by omega))
theorem MCl.ext {C D : V2} {t t' : S2} (h : MCl C t) (e : D 388 0 = C 388 0) (e1 : ∀ f l, 391 ≤ f → f ≤ 394 → l < 6 → D f l = C f l) (e2 : ∀ f, 1559 ≤ f → f ≤ 1562 → t' f 0 = t f 0) : MCl D t' := fun l hl w => by
  rw [e2 _ (by omega) (by omega), e2 _ (by omega) (by omega), e2 _ (by omega) (by omega), e2 _ (by omega) (by omega), e1 _ _ (by omega) (by omega) hl, e1 _ _ (by omega) (by omega) hl, e1 _ _ (by omega) (by omega) hl, e1 _ _ (by omega) (by omega) hl]
  exact h l hl (by omega)
theorem MCn.ext {C D B E : V2} {t t' : S2} (h : MCn C B t) (e : D 389 0 = C 389 0) (e1 : ∀ f l, 395 ≤ f → f ≤ 397 → l < 10 → D f l = C f l) (e3 : ∀ l, l < 10 → E 515 l = B 515 l) (e2 : ∀ f, 1563 ≤ f → f ≤ 1566 → t' f 0 = t f 0) : MCn D E t' := fun l hl w => by
  rw [e2 _ (by omega) (by omega), e2 _ (by omega) (by omega), e2 _ (by omega) (by omega), e2 _ (by omega) (by omega), e1 _ _ (by omega) (by omega) hl, e1 _ _ (by omega) (by omega) hl, e1 _ _ (by omega) (by omega) hl, e3 l hl]
  exact h l hl (by omega)
theorem MCr.ext {C D : V2} {t t' : S2} (h : MCr C t) (e : D 390 0 = C 390 0) (e1 : ∀ f l, 398 ≤ f → f ≤ 399 → l < 3 → D f l = C f l) (e2 : ∀ f, 1567 ≤ f → f ≤ 1568 → t' f 0 = t f 0) : MCr D t' := fun l hl w => by
  rw [e2 _ (by omega) (by omega), e2 _ (by omega) (by omega), e1 _ _ (by omega) (by omega) hl, e1 _ _ (by omega) (by omega) hl]
  exact h l hl (by omega)
theorem MCp.ext {C D B E : V2} {t t' : S2} (h : MCp C B t) (e : D 387 0 = C 387 0) (e1 : ∀ l, l < 4 → E 517 l = B 517 l) (e2 : t' 1558 0 = t 1558 0) : MCp D E t' := fun l hl w => by
  rw [e2, e1 l hl]
  exact h l hl (by omega)
/-- how a clause of the model ends -/
def MRes (t t' : S2) (n : Nat) (bs : Nat → Nat) (r : Int ⊕ (Nat × V2 × V2)) : Prop := Fr pMd t t' ∧ match r with
  | .inl e => MEr t' n bs e
  | .inr (q, C, B) => MAt t' n bs q ∧ MC C B t'
theorem mcCourt {t : S2} {n q : Nat} {bs : Nat → Nat} {C B : V2} (h : MAt t n bs q) (hM : MC C B t) : ∃ t', f169 0 t = some t' ∧ MRes t t' n bs (clCourt n bs q C B) := by
  unfold f169 clCourt
  rw [if_pos rfl]
  rcases h.num (lo := 1) (hi := 5) (by omega) (by omega) with ⟨v1, q1, t1, a1, a2, a3, a4, a5, a6⟩ | ⟨e, x, t1, a1, a4, a7, a5, a6⟩
  · rw [a1, bN_r, a4, cR_s, sto_t (by omega) (by omega)]
    rcases (a5.st (g := 1557) (j := (0 : Int).toNat) (v := v1) (by omega)).num (lo := 1) (hi := 20) (by omega) (by omega) with ⟨v2, q2, t3, b1, b2, b3, b4, b5, b6⟩ | ⟨e, x, t3, b1, b4, b7, b5, b6⟩
    · rw [b1, bN_r, b4, cR_s, sto_t (by omega) (by omega)]
      refine ⟨_, rfl, (((a6.p70).st (pMd_t (by omega))).tr b6.p70).st (pMd_t (by omega)), b5.st (by omega), ?_⟩
      have ev : ∀ f j, cr f j → setC (setC (setC C 385 0 v1) 386 0 v2) 384 0 1 f j = if f = 384 ∧ j = 0 then 1 else if f = 386 ∧ j = 0 then v2 else if f = 385 ∧ j = 0 then v1 else C f j := fun f j hr => by
        rw [sC hr, sC hr, sC hr]
      generalize setC (setC (setC C 385 0 v1) 386 0 v2) 384 0 1 = D at ev
      have z : ∀ f j, cr f j → 387 ≤ f → D f j = C f j := fun f j hr w1 => by
        rw [ev f j hr, if_neg (by omega), if_neg (by omega), if_neg (by omega)]
      have r1 : ∀ f, 1558 ≤ f → f ≤ 1568 → st2 t3 1557 0 (Int.toNat 1) v2 f 0 = t f 0 := fun f g1 g2 => by
        rw [st2_row (by omega), b6 _ _ (p70_f.mpr (by omega)), st2_row (by omega), a6 _ _ (p70_f.mpr (by omega))]
      have r2 : ∀ j, st2 t3 1557 0 (Int.toNat 1) v2 1557 0 j = if j = 1 then v2 else if j = 0 then v1 else t 1557 0 j := fun j => by
        rw [st2_d, b6 _ _ (p70_f.mpr (by omega)), st2_d, a6 _ _ (p70_f.mpr (by omega))]
        by_cases k1 : j = 1
        · rw [if_pos ⟨rfl, rfl, k1⟩, if_pos k1]
        · rw [if_neg (fun w => k1 w.2.2), if_neg k1]
          by_cases k0 : j = 0
          · rw [if_pos ⟨rfl, rfl, k0⟩, if_pos k0]
          · rw [if_neg (fun w => k0 w.2.2), if_neg k0]
      obtain ⟨⟨c1, c2, c3, c4, c5, c6, c7⟩, m2, m3, m4, m5⟩ := hM
      refine ⟨⟨?_, ?_, ?_, ?_, ?_, ?_, ?_⟩, m2.ext (z _ _ (by unfold cr; omega) (by omega)) (fun f l w1 w2 w3 => z _ _ (by unfold cr; omega) (by omega)) (fun f w1 w2 => r1 f (by omega) (by omega)), m3.ext (z _ _ (by unfold cr; omega) (by omega)) (fun f l w1 w2 w3 => z _ _ (by unfold cr; omega) (by omega)) (fun l hl => rfl) (fun f w1 w2 => r1 f (by omega) (by omega)), m4.ext (z _ _ (by unfold cr; omega) (by omega)) (fun f l w1 w2 w3 => z _ _ (by unfold cr; omega) (by omega)) (fun f w1 w2 => r1 f (by omega) (by omega)), m5.ext (z _ _ (by unfold cr; omega) (by omega)) (fun l hl => rfl) (r1 _ (by omega) (by omega))⟩
      · rw [r2, if_neg (by omega), if_pos rfl, ev _ _ (by unfold cr; omega), if_neg (by omega), if_neg (by omega), if_pos (by omega)]
      · rw [r2, if_pos rfl, ev _ _ (by unfold cr; omega), if_neg (by omega), if_pos (by omega)]
      · rw [r2, if_neg (by omega), if_neg (by omega), z _ _ (by unfold cr; omega) (by omega)]; exact c3
      · rw [r2, if_neg (by omega), if_neg (by omega), z _ _ (by unfold cr; omega) (by omega)]; exact c4
      · rw [r2, if_neg (by omega), if_neg (by omega), z _ _ (by unfold cr; omega) (by omega)]; exact c5
      · rw [r2, if_neg (by omega), if_neg (by omega), z _ _ (by unfold cr; omega) (by omega)]; exact c6
      · rw [r2, if_neg (by omega), if_neg (by omega)]; exact c7
    · rw [b1, bN_l, b4, cR_s, sto_t (by omega) (by omega)]
      exact ⟨_, rfl, (((a6.p70).st (pMd_t (by omega))).tr b6.p70).st (pMd_t (by omega)), b5.st (by omega)⟩
  · rw [a1, bN_l, a4, cR_s, sto_t (by omega) (by omega)]
    obtain ⟨t3, b4, b5, b6⟩ := (a5.st (g := 1557) (j := (0 : Int).toNat) (v := x) (by omega)).num (lo := 1) (hi := 20)
    rw [b4, cR_s, sto_t (by omega) (by omega)]
    exact ⟨_, rfl, (((a6.p70).st (pMd_t (by omega))).tr b6.p70).st (pMd_t (by omega)), b5.st (by omega)⟩
theorem mcFamily {t : S2} {n q : Nat} {bs : Nat → Nat} {C B : V2} (h : MAt t n bs q) (hM : MC C B t) (hC : CB C) (h7 : C 387 0 < 4) : ∃ t', f169 1 t = some t' ∧ MRes t t' n bs (clFamily n bs q C B) := by
  unfold f169 clFamily
  obtain ⟨k, hk⟩ := Int.eq_ofNat_of_zero_le hC.1.1
  have e2 : t 1557 0 (Int.toNat 2) = k := by rw [← hk]; exact hM.1.2.2.1
  rw [if_neg (by omega), if_pos rfl, ld_t (by omega) (by omega), e2, hk, Int.toNat_natCast]
  rcases h.num (lo := 0) (hi := 20) (by omega) (by omega) with ⟨v1, q1, t1, a1, a2, a3, a4, a5, a6⟩ | ⟨e, x, t1, a1, a4, a7, a5, a6⟩
  · have e3 : st2 t1 1558 0 k v1 1557 0 (Int.toNat 2) = k := by rw [st2_ne (by omega), a6 _ _ (p70_f.mpr (by omega)), e2]
    rw [a1, bN_r, a4, cR_s, sto_t (by omega) (by omega), Int.toNat_natCast, ld_t (by omega) (by omega), e3, jadd_e (by omega) (by omega), sto_t (by omega) (by omega)]
    refine ⟨_, rfl, ((a6.p70).st (pMd_t (by omega))).st (pMd_t (by omega)), (a5.st (by omega)).st (by omega), ?_⟩
    have ev : ∀ f j, cr f j → setC C 387 0 ((k : Int) + 1) f j = if f = 387 ∧ j = 0 then (k : Int) + 1 else C f j := fun f j hr => sC hr
    generalize setC C 387 0 ((k : Int) + 1) = D at ev
    have z : ∀ f j, cr f j → f ≠ 387 → D f j = C f j := fun f j hr w1 => by
      rw [ev f j hr, if_neg (by omega)]
    have d7 : D 387 0 = (k : Int) + 1 := by rw [ev _ _ (by unfold cr; omega), if_pos (by omega)]
    have r1 : ∀ f, 1559 ≤ f → f ≤ 1568 → st2 (st2 t1 1558 0 k v1) 1557 0 (Int.toNat 2) ((k : Int) + 1) f 0 = t f 0 := fun f g1 g2 => by
      rw [st2_row (by omega), st2_row (by omega), a6 _ _ (p70_f.mpr (by omega))]
    have r2 : ∀ j, st2 (st2 t1 1558 0 k v1) 1557 0 (Int.toNat 2) ((k : Int) + 1) 1557 0 j = if j = 2 then (k : Int) + 1 else t 1557 0 j := fun j => by
      rw [st2_d, st2_ne (by omega), a6 _ _ (p70_f.mpr (by omega))]
      by_cases k1 : j = 2
      · rw [if_pos ⟨rfl, rfl, k1⟩, if_pos k1]
      · rw [if_neg (fun w => k1 w.2.2), if_neg k1]
    obtain ⟨⟨c1, c2, c3, c4, c5, c6, c7⟩, m2, m3, m4, m5⟩ := hM
    refine ⟨⟨?_, ?_, ?_, ?_, ?_, ?_, ?_⟩, m2.ext (z _ _ (by unfold cr; omega) (by omega)) (fun f l w1 w2 w3 => z _ _ (by unfold cr; omega) (by omega)) (fun f w1 w2 => r1 f (by omega) (by omega)), m3.ext (z _ _ (by unfold cr; omega) (by omega)) (fun f l w1 w2 w3 => z _ _ (by unfold cr; omega) (by omega)) (fun l hl => setF_o (yr515 hl) (by omega)) (fun f w1 w2 => r1 f (by omega) (by omega)), m4.ext (z _ _ (by unfold cr; omega) (by omega)) (fun f l w1 w2 w3 => z _ _ (by unfold cr; omega) (by omega)) (fun f w1 w2 => r1 f (by omega) (by omega)), fun l hl w => ?_⟩
    · rw [r2, if_neg (by omega), z _ _ (by unfold cr; omega) (by omega)]; exact c1
    · rw [r2, if_neg (by omega), z _ _ (by unfold cr; omega) (by omega)]; exact c2
    · rw [r2, if_pos rfl, d7]
    · rw [r2, if_neg (by omega), z _ _ (by unfold cr; omega) (by omega)]; exact c4
    · rw [r2, if_neg (by omega), z _ _ (by unfold cr; omega) (by omega)]; exact c5
    · rw [r2, if_neg (by omega), z _ _ (by unfold cr; omega) (by omega)]; exact c6
    · rw [r2, if_neg (by omega)]; exact c7
    · rw [d7] at w
      rw [st2_ne (by omega), st2_d, setF_e (yr517 hl)]
      by_cases e : l = k
      · rw [if_pos ⟨rfl, rfl, e⟩, if_pos ⟨rfl, e⟩]
      · rw [if_neg (fun w => e w.2.2), if_neg (fun w => e w.2), a6 _ _ (p70_f.mpr (by omega))]
        exact m5 l hl (by omega)
  · have e3 : st2 t1 1558 0 k x 1557 0 (Int.toNat 2) = k := by rw [st2_ne (by omega), a6 _ _ (p70_f.mpr (by omega)), e2]
    rw [a1, bN_l, a4, cR_s, sto_t (by omega) (by omega), Int.toNat_natCast, ld_t (by omega) (by omega), e3, jadd_e (by omega) (by omega), sto_t (by omega) (by omega)]
    exact ⟨_, rfl, ((a6.p70).st (pMd_t (by omega))).st (pMd_t (by omega)), (a5.st (by omega)).st (by omega)⟩
theorem mcRain {t : S2} {n q : Nat} {bs : Nat → Nat} {C B : V2} (h : MAt t n bs q) (hM : MC C B t) (hC : CB C) (h0 : C 390 0 < 3) : ∃ t', f169 5 t = some t' ∧ MRes t t' n bs (clRain n bs q C B) := by
  unfold f169 clRain
  obtain ⟨k, hk⟩ := Int.eq_ofNat_of_zero_le hC.1.2.2.2.2.2.2.1
  have e2 : t 1557 0 (Int.toNat 5) = k := by rw [← hk]; exact hM.1.2.2.2.2.2.1
  rw [if_neg (by omega), if_neg (by omega), if_neg (by omega), if_neg (by omega), if_neg (by omega), ld_t (by omega) (by omega), e2, hk, Int.toNat_natCast]
  rcases h.num (lo := 0) (hi := 99) (by omega) (by omega) with ⟨v1, q1, t1, a1, a2, a3, a4, a5, a6⟩ | ⟨e, x, t1, a1, a4, a7, a5, a6⟩
  · rw [a1, bN_r, a4, cR_s, sto_t (by omega) (by omega), Int.toNat_natCast, ld_t (by omega) (by omega), Int.toNat_natCast, st2_eq]
    rcases (a5.st (g := 1567) (j := k) (v := v1) (by omega)).num (lo := v1) (hi := 99) (by omega) (by omega) with ⟨v2, q2, t3, b1, b2, b3, b4, b5, b6⟩ | ⟨e, x, t3, b1, b4, b7, b5, b6⟩
    · have e3 : st2 t3 1568 0 k v2 1557 0 (Int.toNat 5) = k := by rw [st2_ne (by omega), b6 _ _ (p70_f.mpr (by omega)), st2_ne (by omega), a6 _ _ (p70_f.mpr (by omega)), e2]
      rw [b1, bN_r, b4, cR_s, sto_t (by omega) (by omega), Int.toNat_natCast, ld_t (by omega) (by omega), e3, jadd_e (by omega) (by omega), sto_t (by omega) (by omega)]
      refine ⟨_, rfl, ((((a6.p70).st (pMd_t (by omega))).tr b6.p70).st (pMd_t (by omega))).st (pMd_t (by omega)), (b5.st (by omega)).st (by omega), ?_⟩
      have ev : ∀ f j, cr f j → setC (setC (setC C 398 k v1) 399 k v2) 390 0 ((k : Int) + 1) f j = if f = 390 ∧ j = 0 then (k : Int) + 1 else if f = 399 ∧ j = k then v2 else if f = 398 ∧ j = k then v1 else C f j := fun f j hr => by
        rw [sC hr, sC hr, sC hr]
      generalize setC (setC (setC C 398 k v1) 399 k v2) 390 0 ((k : Int) + 1) = D at ev
      have z : ∀ f j, cr f j → f ≠ 390 → f ≤ 397 → D f j = C f j := fun f j hr w1 w2 => by
        rw [ev f j hr, if_neg (by omega), if_neg (by omega), if_neg (by omega)]
      have d0 : D 390 0 = (k : Int) + 1 := by rw [ev _ _ (by unfold cr; omega), if_pos (by omega)]
      have r0 : ∀ f j, ¬ (f = 1557 ∨ f = 1567 ∨ f = 1568 ∨ f = 1570 ∨ f = 1571) → st2 (st2 t3 1568 0 k v2) 1557 0 (Int.toNat 5) ((k : Int) + 1) f 0 j = t f 0 j := fun f j w => by
        rw [st2_ne (by omega), st2_ne (by omega), b6 _ _ (p70_f.mpr (by omega)), st2_ne (by omega), a6 _ _ (p70_f.mpr (by omega))]
      have r1 : ∀ f, 1558 ≤ f → f ≤ 1566 → st2 (st2 t3 1568 0 k v2) 1557 0 (Int.toNat 5) ((k : Int) + 1) f 0 = t f 0 := fun f g1 g2 => funext fun j => r0 f j (by omega)
      have r2 : ∀ j, st2 (st2 t3 1568 0 k v2) 1557 0 (Int.toNat 5) ((k : Int) + 1) 1557 0 j = if j = 5 then (k : Int) + 1 else t 1557 0 j := fun j => by
        rw [st2_d, st2_ne (by omega), b6 _ _ (p70_f.mpr (by omega)), st2_ne (by omega), a6 _ _ (p70_f.mpr (by omega))]
        by_cases k1 : j = 5
        · rw [if_pos ⟨rfl, rfl, k1⟩, if_pos k1]
        · rw [if_neg (fun w => k1 w.2.2), if_neg k1]
      obtain ⟨⟨c1, c2, c3, c4, c5, c6, c7⟩, m2, m3, m4, m5⟩ := hM
      refine ⟨⟨?_, ?_, ?_, ?_, ?_, ?_, ?_⟩, m2.ext (z _ _ (by unfold cr; omega) (by omega) (by omega)) (fun f l w1 w2 w3 => z _ _ (by unfold cr; omega) (by omega) (by omega)) (fun f w1 w2 => r1 f (by omega) (by omega)), m3.ext (z _ _ (by unfold cr; omega) (by omega) (by omega)) (fun f l w1 w2 w3 => z _ _ (by unfold cr; omega) (by omega) (by omega)) (fun l hl => rfl) (fun f w1 w2 => r1 f (by omega) (by omega)), fun l hl w => ?_, m5.ext (z _ _ (by unfold cr; omega) (by omega) (by omega)) (fun l hl => rfl) (r1 _ (by omega) (by omega))⟩
      · rw [r2, if_neg (by omega), z _ _ (by unfold cr; omega) (by omega) (by omega)]; exact c1
      · rw [r2, if_neg (by omega), z _ _ (by unfold cr; omega) (by omega) (by omega)]; exact c2
      · rw [r2, if_neg (by omega), z _ _ (by unfold cr; omega) (by omega) (by omega)]; exact c3
      · rw [r2, if_neg (by omega), z _ _ (by unfold cr; omega) (by omega) (by omega)]; exact c4
      · rw [r2, if_neg (by omega), z _ _ (by unfold cr; omega) (by omega) (by omega)]; exact c5
      · rw [r2, if_pos rfl, d0]
      · rw [r2, if_neg (by omega)]; exact c7
      · rw [d0] at w
        by_cases e : l = k
        · subst e
          refine ⟨?_, ?_⟩
          · rw [st2_ne (by omega), st2_ne (by omega), b6 _ _ (p70_f.mpr (by omega)), st2_eq, ev _ _ (by unfold cr; omega), if_neg (by omega), if_neg (by omega), if_pos (by omega)]
          · rw [st2_ne (by omega), st2_eq, ev _ _ (by unfold cr; omega), if_neg (by omega), if_pos (by omega)]
        · rw [st2_ne (by omega), st2_ne (by omega), b6 _ _ (p70_f.mpr (by omega)), st2_ne (by omega), a6 _ _ (p70_f.mpr (by omega)), st2_ne (by omega), st2_ne (by omega), b6 _ _ (p70_f.mpr (by omega)), st2_ne (by omega), a6 _ _ (p70_f.mpr (by omega)), ev _ _ (by unfold cr; omega), ev _ _ (by unfold cr; omega), if_neg (by omega), if_neg (by omega), if_neg (by omega), if_neg (by omega), if_neg (by omega), if_neg (by omega)]
          exact m4 l hl (by omega)
    · have e3 : st2 t3 1568 0 k x 1557 0 (Int.toNat 5) = k := by rw [st2_ne (by omega), b6 _ _ (p70_f.mpr (by omega)), st2_ne (by omega), a6 _ _ (p70_f.mpr (by omega)), e2]
      rw [b1, bN_l, b4, cR_s, sto_t (by omega) (by omega), Int.toNat_natCast, ld_t (by omega) (by omega), e3, jadd_e (by omega) (by omega), sto_t (by omega) (by omega)]
      exact ⟨_, rfl, ((((a6.p70).st (pMd_t (by omega))).tr b6.p70).st (pMd_t (by omega))).st (pMd_t (by omega)), (b5.st (by omega)).st (by omega)⟩
  · rw [a1, bN_l, a4, cR_s, sto_t (by omega) (by omega), Int.toNat_natCast, ld_t (by omega) (by omega), Int.toNat_natCast, st2_eq]
    obtain ⟨t3, b4, b5, b6⟩ := (a5.st (g := 1567) (j := k) (v := x) (by omega)).num (lo := x) (hi := 99)
    have e3 : st2 t3 1568 0 k 0 1557 0 (Int.toNat 5) = k := by rw [st2_ne (by omega), b6 _ _ (p70_f.mpr (by omega)), st2_ne (by omega), a6 _ _ (p70_f.mpr (by omega)), e2]
    rw [b4, cR_s, sto_t (by omega) (by omega), Int.toNat_natCast, ld_t (by omega) (by omega), e3, jadd_e (by omega) (by omega), sto_t (by omega) (by omega)]
    exact ⟨_, rfl, ((((a6.p70).st (pMd_t (by omega))).tr b6.p70).st (pMd_t (by omega))).st (pMd_t (by omega)), (b5.st (by omega)).st (by omega)⟩
