/-! KEPT AND ASKED: the model's frame for calls that try things; LAWS -/
def AK (t z : S2) : Prop := Ask t z ∧ Kp t z
theorem AK.keep {t : S2} : ∃ t1, f233 t = some t1 ∧ AK t t1 := by
  obtain ⟨t1, a1, a2, a3, a4⟩ := m233 (t := t)
  have e : ∀ f, f ≠ 1606 → f ≠ 1608 → f ≠ 1609 → t1 f 0 = t f 0 := fun f g1 g2 g3 => a3 _ _ (pI_f.mpr (by omega))
  refine ⟨t1, a1, ⟨a3.mo fun f i q => pI_k q, ⟨?_, ?_, ?_, ?_, ?_, ?_⟩, ?_, a4⟩, a2⟩
  all_goals first | intro k _ | skip
  all_goals rw [e _ (by omega) (by omega) (by omega)]
theorem AK.ms {C Y : V2} {code : List Int} {t z : S2} (h : AK t z) (hM : MS C Y code 0 t) (hC : CB C) : MS C Y code 0 z := hM.sm h.1.2.1 hC h.1.1 (fun f g1 g2 g3 g4 g5 => pAk_f.mpr (by omega)) (by rw [h.1.2.2.1]; exact hM.2.2.2.1)
theorem AK.back {t z z2 : S2} (h : AK t z) (e : Fr pAk z z2) (h6 : z2 1606 0 = z 1606 0) (h9 : z2 1589 0 0 = t 1589 0 0) : ∃ z3, f237 z2 = some z3 ∧ AK t z3 := by
  have hK : Kp t z2 := by
    have := h.2
    unfold Kp at this ⊢
    rw [h6]
    exact this
  obtain ⟨z3, c1, c2, c3⟩ := m237 hK
  refine ⟨z3, c1, ⟨(h.1.1.tr e).tr (c3.mo fun f i q => pJ_k q), c2, ?_, fun k hk => ?_⟩, hK.fr c3 (pJ_f.mpr (by omega))⟩
  · rw [c3 1589 0 (pJ_f.mpr (by omega)), h9]
  · rw [c3 1606 0 (pJ_f.mpr (by omega)), h6, h.1.2.2.2 k hk]
theorem pG_6 : pG 1606 0 = false := pG_f.mpr (by omega)
theorem pG_9 : pG 1589 0 = false := pG_f.mpr (by omega)
theorem CR.ext {C : V2} {t t' : S2} (h : CR C t) (h1 : ∀ k, k < 6 → t' 1537 0 k = t 1537 0 k) (h2 : ∀ f, 1540 ≤ f → f ≤ 1555 → f ≠ 1544 → f ≠ 1547 → f ≠ 1548 → t' f 0 = t f 0) : CR C t' := by
  unfold CR at h ⊢
  rw [h1 0 (by omega), h1 1 (by omega), h1 2 (by omega), h1 3 (by omega), h1 4 (by omega), h1 5 (by omega), h2 1540 (by omega) (by omega) (by omega) (by omega) (by omega), h2 1541 (by omega) (by omega) (by omega) (by omega) (by omega), h2 1542 (by omega) (by omega) (by omega) (by omega) (by omega), h2 1543 (by omega) (by omega) (by omega) (by omega) (by omega), h2 1545 (by omega) (by omega) (by omega) (by omega) (by omega), h2 1546 (by omega) (by omega) (by omega) (by omega) (by omega), h2 1549 (by omega) (by omega) (by omega) (by omega) (by omega), h2 1550 (by omega) (by omega) (by omega) (by omega) (by omega), h2 1555 (by omega) (by omega) (by omega) (by omega) (by omega)]
  exact h
theorem YR.ext {C Y : V2} {t t' : S2} (h : YR C Y t) (h1 : t' 1537 0 6 = t 1537 0 6) (h1b : t' 1537 0 7 = t 1537 0 7) (h2 : ∀ f, (f = 1538 ∨ f = 1539 ∨ f = 1544 ∨ f = 1547 ∨ f = 1548) → t' f 0 = t f 0) : YR C Y t' := by
  unfold YR at h ⊢
  rw [h1, h1b, h2 1538 (by omega), h2 1539 (by omega), h2 1544 (by omega), h2 1547 (by omega), h2 1548 (by omega)]
  exact h
def pSc (f i : Nat) : Bool := Nat.beq f 1537 && Nat.beq i 0
theorem pSc_f {f i : Nat} : pSc f i = false ↔ ¬ (f = 1537 ∧ i = 0) := by
  unfold pSc
  rw [← Bool.not_eq_true, Bool.and_eq_true, Nat.beq_eq, Nat.beq_eq]
/-- another rule in force, in the model -/
theorem MS.force {C Y : V2} {code : List Int} {d : Int} {t : S2} {R : Nat} {K : Nat → List Int} {r : Int} (h : MS C Y code d t) (hB : BK t R K) (h1 : -1 ≤ r) (h2 : r < R) : MS C Y (lawK K r) d (st2 t 1537 0 10 r) := by
  obtain ⟨a1, a2, a3, a4, a5⟩ := h
  have e : ∀ f, f ≠ 1537 → st2 t 1537 0 10 r f 0 = t f 0 := fun f hf => st2_row (by omega)
  have hF : Fr pSc t (st2 t 1537 0 10 r) := Fr.rf.st rfl
  refine ⟨a1.ext (fun k hk => st2_ne (by omega)) (fun f g1 g2 g3 g4 g5 => e f (by omega)), a2.ext (st2_ne (by omega)) (st2_ne (by omega)) (fun f g => e f (by omega)), ?_, by rw [e _ (by omega)]; exact a4, a5⟩
  unfold MF
  rw [st2_eq]
  obtain ⟨-, -, d3⟩ := hB.law h1 h2
  rcases d3 with ⟨b1, b2⟩ | ⟨n, b1, b2⟩
  · exact Or.inl ⟨b1, b2⟩
  · exact Or.inr ⟨n, b1, b2.fr hF (fun f g1 g2 => pSc_f.mpr (by omega))⟩
theorem BK.ak {s s' : S2} {R : Nat} {K : Nat → List Int} (h : BK s R K) (e : Fr pAk s s') : BK s' R K := h.fr e (pAk_f.mpr (by omega)) (pAk_f.mpr (by omega)) (fun r hr => ⟨pAk_f.mpr (by omega), pAk_f.mpr (by omega)⟩) (fun f g1 g2 => pAk_f.mpr (by omega))
theorem pSc_k {f i : Nat} (h : pAk f i = false) : pSc f i = false := by
  have := pAk_f.mp h
  exact pSc_f.mpr (by omega)
/-- trial hours by any rule, the class: from now on, or from the begin on -/
theorem BK.start {s : S2} {R : Nat} {K : Nat → List Int} {r : Int} {b : Nat} (h : BK s R K) (hC : CB (cw s 0)) (h1 : -1 ≤ r) (h2 : r < R) : ∃ s', f77 0 (lawI s r) b s = some s' ∧ Hr s' 0 (lawI s r) (cw s 0) (lawK K r) ∧ yv s' 160 = yv s b ∧ Fr pS s s' := by
  obtain ⟨d1, d2, -⟩ := h.law h1 h2
  obtain ⟨s', a1, a2, a3, a4, a5⟩ := m77 (c := 0) (r := lawI s r) (b := b) (s := s)
  refine ⟨s', a1, ⟨a3, a4, d1.fr (a5 _ _ (pS_f.mpr ⟨by omega, pY_f.mpr (by omega)⟩)) (a5 _ _ (pS_f.mpr ⟨by omega, pY_f.mpr (by omega)⟩)), d2, ?_, hC⟩, a2, a5⟩
  exact a5.cw fun f g1 g2 => pS_f.mpr ⟨by omega, pY_f.mpr (by omega)⟩
def lawsN (F : Nat → Int) : Nat → Int × Int
  | 0 => (-1, -1)
  | n + 1 => if F n ≤ (lawsN F n).2 then lawsN F n else ((n : Int) - 1, F n)
theorem lawsN_s {F : Nat → Int} {n : Nat} : lawsN F (n + 1) = if F n ≤ (lawsN F n).2 then lawsN F n else ((n : Int) - 1, F n) := rfl
def airL (C Y : V2) (K : Nat → List Int) (n fam i : Nat) : Int := passN C (lawK K ((i : Int) - 1)) n Y 518 fam
theorem lawI_ak {s s' : S2} {r : Int} (e : Fr pAk s s') : lawI s' r = lawI s r := by
  unfold lawI
  rw [e 898 0 (pAk_f.mpr (by omega))]
theorem c146 {s : S2} {R : Nat} {K : Nat → List Int} {n fam : Nat} (hB : BK s R K) (hC : CB (cw s 0)) (hY : YB (cw s 0) (yv s 0)) (h9 : yv s 0 512 0 ≤ 999) (hn : n ≤ 60) (hf : fam < 4) : ∃ s1, itr (fun (x5, x6, x7, s8) => f146_a fam n x5 x6 x7 s8) am_fu (-1, -1, -1, s) = some ((lawsN (airL (cw s 0) (yv s 0) K n fam) (R + 1)).1, (lawsN (airL (cw s 0) (yv s 0) K n fam) (R + 1)).2, s1) ∧ Fr pAk s s1 ∧ Fr pCl s s1 := by
  have hR6 := hB.2.2.1
  have hh := hY.2.2.2.2.1
  refine Exists.elim (itr_inv (b := fun (x5, x6, x7, s8) => f146_a fam n x5 x6 x7 s8) (fun (i : Nat) (z : Int × Int × Int × S2) => z.1 = (lawsN (airL (cw s 0) (yv s 0) K n fam) i).1 ∧ z.2.1 = (lawsN (airL (cw s 0) (yv s 0) K n fam) i).2 ∧ z.2.2.1 = (i : Int) - 1 ∧ Fr pAk s z.2.2.2 ∧ Fr pCl s z.2.2.2) (fun (z : Int × Int × S2) => (z.1, z.2.1) = lawsN (airL (cw s 0) (yv s 0) K n fam) (R + 1) ∧ Fr pAk s z.2.2 ∧ Fr pCl s z.2.2) (R + 1) ?_ am_fu (fu_lt (by omega)) (-1, -1, -1, s) ⟨rfl, rfl, rfl, Fr.rf, Fr.rf⟩) ?_
  rotate_left
  · rintro r ⟨hr, q1, q2, q3⟩
    obtain ⟨x, y, s1⟩ := r
    dsimp only at q1
    rw [← q1]
    exact ⟨s1, hr, q2, q3⟩
  · rintro i ⟨x, y, w, z⟩ hi ⟨g1, g2, g3, g4, g5⟩
    dsimp only at g1 g2 g3 g4 g5 ⊢
    subst g1 g2 g3
    have hBz := hB.ak g4
    have cz : cw z 0 = cw s 0 := g4.cw fun f g1 g2 => pAk_f.mpr (by omega)
    have yz : yv z 0 = yv s 0 := g4.yv fun f g1 g2 => pAk_f.mpr (by omega)
    by_cases e : i = R + 1
    · subst e
      refine Or.inr ⟨((lawsN (airL (cw s 0) (yv s 0) K n fam) (R + 1)).1, (lawsN (airL (cw s 0) (yv s 0) K n fam) (R + 1)).2, z), ?_, rfl, g4, g5⟩
      show f146_a fam n _ _ _ z = _
      unfold f146_a
      rw [bnd, hBz.1, if_pos (by omega)]
    · refine Or.inl ⟨by omega, ?_⟩
      obtain ⟨z1, a1, a2, a3, a4⟩ := hBz.start (r := (i : Int) - 1) (b := 0) (by rw [cz]; exact hC) (by omega) (by omega)
      rw [cz] at a2
      rw [yz] at a3
      obtain ⟨z2, b1, b2, b3⟩ := m107 (n := n) a2 a3 hY (by omega) (by omega)
      refine ⟨((lawsN (airL (cw s 0) (yv s 0) K n fam) (i + 1)).1, (lawsN (airL (cw s 0) (yv s 0) K n fam) (i + 1)).2, ((i + 1 : Nat) : Int) - 1, z2), ?_, rfl, rfl, rfl, (g4.tr (a4.mo fun f i q => pS_k q)).tr (b3.mo fun f i q => pP_k q), (g5.tr (a4.mo fun f i q => pS_cl q)).tr (b3.mo fun f i q => pP_cl q)⟩
      show f146_a fam n _ _ _ z = _
      unfold f146_a
      rw [bnd, hBz.1, if_neg (by omega), m76, cP_s, a1, cP_s, b1, cP_s, m115 hf, cP_s, cP_s, b2, bnd, bnd, jadd_e (by omega) (by omega), lawsN_s, show (i : Int) - 1 + 1 = ((i + 1 : Nat) : Int) - 1 by omega]
      rw [show passN (cw s 0) (lawK K ((i : Int) - 1)) n (yv s 0) 518 fam = airL (cw s 0) (yv s 0) K n fam i from rfl]
      by_cases q : airL (cw s 0) (yv s 0) K n fam i ≤ (lawsN (airL (cw s 0) (yv s 0) K n fam) i).2
      · rw [if_pos q, if_pos q]
      · rw [if_neg q, if_neg q]
theorem c263 {t : S2} {C Y : V2} {code : List Int} {R : Nat} {K : Nat → List Int} {n fam : Nat} (hB : BK t R K) (hC : CB C) (hY : YB C Y) (h9 : Y 512 0 ≤ 999) (hM : MS C Y code 0 t) (hn : n ≤ 60) (hf : fam < 4) (hf2 : (fam : Int) < C 387 0) : ∃ t1 t2, f233 t = some t1 ∧ itr (fun (x9, x10, x12, s13) => f263_a fam n x9 x10 x12 s13) am_fu (-1, -1, -1, t1) = some ((lawsN (airL C Y K n fam) (R + 1)).1, (lawsN (airL C Y K n fam) (R + 1)).2, t2) ∧ Ask t t2 := by
  have hR6 := hB.2.2.1
  have hh := hY.2.2.2.2.1
  obtain ⟨t1, k1, k2⟩ := AK.keep (t := t)
  refine Exists.elim (itr_inv (b := fun (x9, x10, x12, s13) => f263_a fam n x9 x10 x12 s13) (fun (i : Nat) (z : Int × Int × Int × S2) => z.1 = (lawsN (airL C Y K n fam) i).1 ∧ z.2.1 = (lawsN (airL C Y K n fam) i).2 ∧ z.2.2.1 = (i : Int) - 1 ∧ AK t z.2.2.2) (fun (z : Int × Int × S2) => (z.1, z.2.1) = lawsN (airL C Y K n fam) (R + 1) ∧ AK t z.2.2) (R + 1) ?_ am_fu (fu_lt (by omega)) (-1, -1, -1, t1) ⟨rfl, rfl, rfl, k2⟩) ?_
  rotate_left
  · rintro r ⟨hr, q1, q2⟩
    obtain ⟨x, y, s1⟩ := r
    dsimp only at q1
    rw [← q1]
    exact ⟨t1, s1, k1, hr, q2.1⟩
  · rintro i ⟨x, y, w, z⟩ hi ⟨g1, g2, g3, g4⟩
    dsimp only at g1 g2 g3 g4 ⊢
    subst g1 g2 g3
    have hBz := hB.ak g4.1.1
    have q1 : z 1573 0 0 = R := hBz.2.1
    by_cases e : i = R + 1
    · subst e
      refine Or.inr ⟨((lawsN (airL C Y K n fam) (R + 1)).1, (lawsN (airL C Y K n fam) (R + 1)).2, z), ?_, rfl, g4⟩
      show f263_a fam n _ _ _ z = _
      unfold f263_a
      rw [bnd, q1, if_pos (by omega)]
    · refine Or.inl ⟨by omega, ?_⟩
      have hMz := (g4.ms hM hC).force hBz (r := (i : Int) - 1) (by omega) (by omega)
      obtain ⟨z2, b1, b2, b3, b4⟩ := m236 (n := n) hC hY hMz (by omega) (by omega)
      have f1 : Fr pSc z (st2 z 1537 0 10 ((i : Int) - 1)) := Fr.rf.st rfl
      obtain ⟨z3, c1, c2⟩ := g4.back ((f1.mo fun f i q => pSc_k q).tr (b3.mo fun f i q => pG_k q)) (by rw [b3 _ _ pG_6, f1 _ _ (pSc_f.mpr (by omega))]) (by rw [b3 _ _ pG_9, f1 _ _ (pSc_f.mpr (by omega)), g4.1.2.2.1])
      have v17 : z2 1539 0 fam = airL C Y K n fam i := (b2.2.1.2.2.2.2 fam hf hf2).2
      refine ⟨((lawsN (airL C Y K n fam) (i + 1)).1, (lawsN (airL C Y K n fam) (i + 1)).2, ((i + 1 : Nat) : Int) - 1, z3), ?_, rfl, rfl, rfl, c2⟩
      show f263_a fam n _ _ _ z = _
      unfold f263_a
      rw [bnd, q1, if_neg (by omega), sto_t (by omega) (by omega), show Int.toNat 10 = 10 from rfl, b1, cP_s, ld_t (by omega) (by omega), Int.toNat_natCast, v17, lawsN_s]
      simp only [jn, c1, cP_s, bnd]
      rw [ld_t (by omega) (by omega), Int.toNat_natCast, v17, jadd_e (by omega) (by omega), show (i : Int) - 1 + 1 = ((i + 1 : Nat) : Int) - 1 by omega]
      by_cases q : airL C Y K n fam i ≤ (lawsN (airL C Y K n fam) i).2
      · rw [if_pos q, if_pos q]
      · rw [if_neg q, if_neg q]
theorem call_laws {s : S2} {a b c : Int} (h : Inv s) (ia : i32 a) (ib : i32 b) (ic : i32 c) : ∃ r s1 s2, f146 a b c s = some (r, s1) ∧ f263 a b c s1 = some (r, s2) ∧ Ask s s2 := by
  obtain ⟨R, K, hB, hW, hR⟩ := h.rel
  have hM := hR.2.2.2.2.2.2.2
  have hC := hR.2.2.1
  have hY := hR.2.2.2.1
  have h9 := hR.2.2.2.2.1
  have hcc := hC.1
  obtain ⟨e1, e2, e3⟩ := cw0f hR.1
  have jb : ji2l b = b := by unfold i32 at ib; exact ji2l_e (by omega) (by omega)
  have jc : ji2l c = c := by unfold i32 at ic; exact ji2l_e (by omega) (by omega)
  by_cases ha : 0 ≤ a ∧ a < cw s 0 387 0
  · obtain ⟨fam, rfl⟩ := Int.eq_ofNat_of_zero_le ha.1
    have hf : fam < 4 := by omega
    by_cases hb : 1 ≤ b ∧ b ≤ 60
    · obtain ⟨n, rfl⟩ := Int.eq_ofNat_of_zero_le (show 0 ≤ b by omega)
      by_cases hc : 0 ≤ c ∧ c ≤ 1
      · obtain ⟨s1, k1, k2, k3⟩ := c146 (n := n) (fam := fam) hB hC hY h9 (by omega) hf
        have hM1 := hM.cl k3
        obtain ⟨t1, t2, l1, l2, l3⟩ := c263 (n := n) (fam := fam) (hB.ak k2) hC hY h9 hM1 (by omega) hf ha.2
        have y1 : yv s1 0 = yv s 0 := k2.yv fun f g1 g2 => pAk_f.mpr (by omega)
        have v4 : s1 1539 0 fam = yv s 0 518 fam := (hM1.2.1.2.2.2.2 fam hf ha.2).2
        refine ⟨if ¬ c = 0 then jsub (lawsN (airL (cw s 0) (yv s 0) K n fam) (R + 1)).2 (yv s 0 518 fam) else (lawsN (airL (cw s 0) (yv s 0) K n fam) (R + 1)).1, s1, t2, ?_, ?_, (Ask.cl k2 k3).tr l3⟩
        · unfold f146
          rw [m51t (by omega), cP_s, if_neg ne10, if_neg (by omega), if_neg (by omega), if_neg (by omega), if_pos hc.2, k1, cP_s]
          show (if ¬ c = 0 then (cP (f115 0 fam s1) _) else _) = _
          rw [m115 hf, cP_s, y1, bnd]
          by_cases q : c = 0
          · rw [if_neg (fun p => p q), if_neg (fun p => p q)]
          · rw [if_pos q, if_pos q]
        · unfold f263
          rw [m198 hC hM1.1 ia, if_pos ha, cP_s, if_neg ne10, jb, m173t hb, cP_s, if_neg ne10, jc, m173t hc, cP_s, if_pos ne10, ld_t (by omega) (by omega), Int.toNat_natCast, v4, l1, cP_s, l2, cP_s]
          show (if ¬ c = 0 then _ else _) = _
          rw [bnd]
          by_cases q : c = 0
          · rw [if_neg (fun p => p q), if_neg (fun p => p q)]
          · rw [if_pos q, if_pos q]
      · refine ⟨-2, s, s, ?_, ?_, Ask.rf⟩
        · unfold f146
          rw [m51t (by omega), cP_s, if_neg ne10, if_neg (by omega), if_neg (by omega)]
          by_cases c0 : c < 0
          · rw [if_pos c0]
          · rw [if_neg c0, if_neg (by omega)]
        · unfold f263
          rw [m198 hC hM.1 ia, if_pos ha, cP_s, if_neg ne10, jb, m173t hb, cP_s, if_neg ne10, jc, m173f hc, cP_s, if_neg (by decide)]
    · refine ⟨-2, s, s, ?_, ?_, Ask.rf⟩
      · unfold f146
        rw [m51t (by omega), cP_s, if_neg ne10]
        by_cases b0 : b < 1
        · rw [if_pos b0]
        · rw [if_neg b0, if_pos (by omega)]
      · unfold f263
        rw [m198 hC hM.1 ia, if_pos ha, cP_s, if_neg ne10, jb, m173f hb, cP_s, if_pos rfl]
  · refine ⟨-2, s, s, ?_, ?_, Ask.rf⟩
    · unfold f146
      rw [m51f (by omega), cP_s, if_pos rfl]
    · unfold f263
      rw [m198 hC hM.1 ia, if_neg ha, cP_s, if_pos rfl]
