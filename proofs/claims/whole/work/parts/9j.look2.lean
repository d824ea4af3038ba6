/-! LOOK on both sides -/
theorem pF5_k {f i : Nat} (h : pAk f i = false) : pF1 1605 f i = false := by
  have := pAk_f.mp h
  exact pF1_f.mpr (by omega)
theorem AK.f5 {t z z' : S2} (h : AK t z) (e : Fr (pF1 1605) z z') : AK t z' := by
  have q : ∀ f, f ≠ 1605 → z' f 0 = z f 0 := fun f hf => e _ _ (pF1_f.mpr (by omega))
  obtain ⟨⟨a1, ⟨b1, b2, b3, b4, b5, b6⟩, a3, a4⟩, a5⟩ := h
  refine ⟨⟨a1.tr (e.mo fun f i w => pF5_k w), ⟨?_, ?_, ?_, ?_, ?_, ?_⟩, by rw [q _ (by omega)]; exact a3, fun k hk => by rw [q _ (by omega)]; exact a4 k hk⟩, a5.fr e (pF1_f.mpr (by omega))⟩
  all_goals rw [q _ (by omega)]; assumption
theorem c262b {t t1 : S2} {C Y B : V2} {code : List Int} {R : Nat} {K : Nat → List Int} {LN hr L : Nat} {lh ll lf : Nat → Int} (hC : CB C) (hBY : YB C B) (hM : MS C Y code 0 t) (hk : AK t t1) (hBK : BK t R K) (hBR : BR C B t) (hLG : LG t C LN lh ll lf) (hhr : hr ≤ 60) (hL : C 388 0 = L) (hT : ∀ k, k < 30 → t1 1605 0 k = 0) : ∃ t2, itr (fun (x14, x15, s16) => f262_b hr x14 x15 s16) am_fu (0, -1, t1) = some (cntB (R + 1) (fitK C B K LN lh ll lf), t2) ∧ AK t t2 ∧ tabK t2 (fitK C B K LN lh ll lf) (heldK C B K hr) (R + 1) L := by
  have hR6 := hBK.2.2.1
  have hcc := hC.1
  generalize hfit : fitK C B K LN lh ll lf = fit
  have hfk : ∀ i : Nat, fitR C B (lawK K ((i : Int) - 1)) LN lh ll lf = fit i := fun i => congrFun hfit i
  refine Exists.elim (itr_inv (b := fun (x14, x15, s16) => f262_b hr x14 x15 s16) (fun (i : Nat) (z : Int × Int × S2) => z.1 = cntB i fit ∧ z.2.1 = (i : Int) - 1 ∧ AK t z.2.2 ∧ tabK z.2.2 fit (heldK C B K hr) i L) (fun (z : Int × S2) => z.1 = cntB (R + 1) fit ∧ AK t z.2 ∧ tabK z.2 fit (heldK C B K hr) (R + 1) L) (R + 1) ?_ am_fu (fu_lt (by omega)) (0, -1, t1) ⟨rfl, rfl, hk, fun l k h1 h2 => hT _ (by omega)⟩) ?_
  rotate_left
  · rintro ⟨x, t2⟩ ⟨hr', b1, b2, b3⟩
    dsimp only at b1 b2 b3
    subst b1
    exact ⟨t2, hr', b2, b3⟩
  · rintro i ⟨x, w, z⟩ hi ⟨g1, g2, g3, g4⟩
    dsimp only at g1 g2 g3 g4 ⊢
    subst g1 g2
    have hBz := hBK.ak g3.1.1
    have hcb := cntB_bd (p := fit) (n := i)
    by_cases e : i = R + 1
    · refine Or.inr ⟨(cntB i fit, z), ?_, by rw [e], g3, by rw [← e]; exact g4⟩
      show f262_b hr _ _ z = _
      unfold f262_b
      rw [bnd, hBz.2.1, if_pos (by omega)]
    · refine Or.inl ⟨by omega, ?_⟩
      obtain ⟨z', a1, a2, a3, a4⟩ := m260 (r := (i : Int) - 1) (hs := (hr : Int)) hC hBY hM g3 hBK hBR hLG (by omega) (by omega) (by omega)
      rw [hfk] at a1
      rw [Int.toNat_natCast] at a3
      have hT' : tabK z' fit (heldK C B K hr) i L := fun l k h1 h2 => by rw [a4]; exact g4 l k h1 h2
      have ej : jadd ((i : Int) - 1) 1 = ((i + 1 : Nat) : Int) - 1 := by rw [jadd_e (by omega) (by omega)]; omega
      have ec : jadd (cntB i fit) 1 = cntB i fit + 1 := jadd_e (by omega) (by omega)
      cases hf : fit i with
      | false =>
        refine ⟨(cntB (i + 1) fit, ((i + 1 : Nat) : Int) - 1, z'), ?_, rfl, rfl, a2, fun l k h1 h2 => ?_⟩
        · show f262_b hr _ _ z = _
          unfold f262_b
          rw [bnd, hBz.2.1, if_neg (by omega), a1, cR_s, cntB_s, hf, i01_f, if_pos rfl, bnd, ej, if_neg (by decide)]
        · show z' 1605 0 (5 * l + k) = _
          rw [hT' l k h1 h2]
          unfold alK
          rw [cntB_s, hf, Bool.false_and, if_neg (by decide)]
      | true =>
        obtain ⟨z2, b1, b2, b3⟩ := c262c (z := z') (i := i) hL (by omega) (a2.ms hM hC).l3 (by omega) hf (fun l hl => a3 (by omega) l hl) (fun l hl => heldK_bd hC hBY hBR.2.2.1 hhr hl) hT'
        refine ⟨(cntB (i + 1) fit, ((i + 1 : Nat) : Int) - 1, z2), ?_, rfl, rfl, a2.f5 b3, b2⟩
        show f262_b hr _ _ z = _
        unfold f262_b
        rw [bnd, hBz.2.1, if_neg (by omega), a1, cR_s, cntB_s, hf, i01_t, if_neg ne10, ec, bnd, b1, cP_s, bnd, ej, if_pos rfl]
theorem c262e {z : S2} {fit : Nat → Bool} {hl : Nat → Nat → Int} {n l L : Nat} (hT : tabK z fit hl n L) (hl6 : l < L) (hL : L ≤ 6) : itr (fun (x50, x51) => f262_e l x50 x51 z) am_fu (0, 5 * (l : Int)) = some (moK fit hl n l) := by
  have e5 : jmul 5 (jadd (l : Int) 1) = 5 * l + 5 := by
    rw [jadd_e (by omega) (by omega), jmul_e (by omega) (by omega)]
    omega
  have e0 : ((0 : Int), 5 * (l : Int)) = (maxN 0 (alK fit hl n l), 5 * (l : Int) + ((0 : Nat) : Int)) := by simp [maxN]
  rw [e0]
  refine itr_seq (fun i => (maxN i (alK fit hl n l), 5 * (l : Int) + i)) 5 (moK fit hl n l) ?_ ?_ am_fu (fu_lt (by decide))
  · intro i hi
    show f262_e l _ _ z = _
    unfold f262_e
    rw [e5, if_neg (by omega), ld_t (by omega) (by omega), show (5 * (l : Int) + i).toNat = 5 * l + i by omega, hT l i hl6 hi, ld_t (by omega) (by omega), show (5 * (l : Int) + i).toNat = 5 * l + i by omega, hT l i hl6 hi, maxN_s, bnd, bnd, jadd_e (by omega) (by omega)]
    by_cases q : maxN i (alK fit hl n l) < alK fit hl n l i
    · rw [if_neg (by omega), if_pos q, Int.add_assoc]
      rfl
    · rw [if_pos (by omega), if_neg q, Int.add_assoc]
      rfl
  · show f262_e l _ _ z = _
    unfold f262_e
    rw [e5, if_pos (by omega)]
    rfl
def fewB (mo : Nat → Int) (n : Nat) : Int := if n = 0 then -2 else (blN mo n : Int)
def fewV (mo : Nat → Int) (n : Nat) : Int := if n = 0 then -2 else mo (blN mo n)
theorem c262d {z : S2} {fit : Nat → Bool} {hl : Nat → Nat → Int} {n L : Nat} {cnt : Int} (hT : tabK z fit hl n L) (hL : L ≤ 6) (h3 : z 1537 0 3 = L) (hc : 0 < cnt) : itr (fun (x39, x40, x41) => f262_d cnt x39 x40 x41 z) am_fu (-2, -2, 0) = some (fewB (moK fit hl n) L, fewV (moK fit hl n) L) := by
  refine itr_seq (fun i => (fewB (moK fit hl n) i, fewV (moK fit hl n) i, (i : Int))) L (fewB (moK fit hl n) L, fewV (moK fit hl n) L) ?_ ?_ am_fu (fu_lt (by omega))
  · intro i hi
    have ej : jadd (i : Int) 1 = ((i + 1 : Nat) : Int) := by rw [jadd_e (by omega) (by omega)]; rfl
    have e5 : jmul 5 (i : Int) = 5 * i := jmul_e (by omega) (by omega)
    have e1 : fewB (moK fit hl n) (i + 1) = (blN (moK fit hl n) (i + 1) : Int) := if_neg (by omega)
    have e2 : fewV (moK fit hl n) (i + 1) = moK fit hl n (blN (moK fit hl n) (i + 1)) := if_neg (by omega)
    show f262_d cnt _ _ _ z = _
    unfold f262_d
    rw [ld_t (by omega) (by omega), show z 1537 0 (Int.toNat 3) = L from h3, if_neg (by omega), if_neg (by omega), e5, bnd, c262e hT hi hL, cP_s, e1, e2, blN_s]
    simp only [jn, bnd, ej]
    by_cases c : i = 0
    · subst c
      rw [if_pos (show fewB (moK fit hl n) 0 = -2 from rfl), if_pos rfl]
    · have f1 : fewB (moK fit hl n) i = (blN (moK fit hl n) i : Int) := if_neg c
      have f2 : fewV (moK fit hl n) i = moK fit hl n (blN (moK fit hl n) i) := if_neg c
      rw [if_neg c, f1, f2, if_neg (by omega)]
      by_cases q : moK fit hl n i < moK fit hl n (blN (moK fit hl n) i)
      · rw [if_neg (by omega), if_pos q]
      · rw [if_pos (by omega), if_neg q]
  · show f262_d cnt _ _ _ z = _
    unfold f262_d
    rw [ld_t (by omega) (by omega), show z 1537 0 (Int.toNat 3) = L from h3, if_pos (by omega)]
theorem c262d0 {z : S2} {L : Nat} (hL : L ≤ 6) (h3 : z 1537 0 3 = L) : itr (fun (x39, x40, x41) => f262_d 0 x39 x40 x41 z) am_fu (-2, -2, 0) = some (-2, -2) := itr_now (by
  show f262_d 0 (-2) (-2) 0 z = _
  unfold f262_d
  rw [ld_t (by omega) (by omega), show z 1537 0 (Int.toNat 3) = L from h3]
  by_cases c : (L : Int) ≤ 0
  · rw [if_pos c]
  · rw [if_neg c, if_pos (by omega)])
theorem call_look {s : S2} {a b : Int} (h : Inv s) (ia : i32 a) (ib : i32 b) : ∃ r s1 s2, f143 a b s = some (r, s1) ∧ f262 a b s1 = some (r, s2) ∧ Ask s s2 := by
  obtain ⟨R, K, hB, hW, hR⟩ := h.rel
  obtain ⟨LN, lh, ll, lf, hL⟩ := hW.lg
  obtain ⟨hBR, hBY⟩ := hW.br
  have hM := hR.2.2.2.2.2.2.2
  have hC := hR.2.2.1
  have hY := hR.2.2.2.1
  have hcc := hC.1
  have hR6 := hB.2.2.1
  have e4 : s 384 0 0 = cw s 0 384 0 := (cw0 (by omega) (by omega)).symm
  have ja : ji2l a = a := by unfold i32 at ia; exact ji2l_e (by omega) (by omega)
  have jb : ji2l b = b := by unfold i32 at ib; exact ji2l_e (by omega) (by omega)
  by_cases hp : ¬ cw s 0 384 0 = 0 ∧ (0 ≤ a ∧ a ≤ 60) ∧ (0 ≤ b ∧ b ≤ 1)
  · obtain ⟨h0, ha, hb⟩ := hp
    obtain ⟨hr, rfl⟩ := Int.eq_ofNat_of_zero_le ha.1
    obtain ⟨s2, k1, k2, k3, k4, k5⟩ := c140 (hr := hr) hB hC rfl rfl hBY hBR.2.2.1 hL (by omega)
    have F1 : Fr pAk s s2 := k5.mo fun f i q => pTr_k q
    have F2 : Fr pCl s s2 := k5.mo fun f i q => pTr_cl q
    have hM2 := hM.cl F2
    have hL2 : LG s2 (cw s 0) LN lh ll lf := hL.fr k5 (fun f h1 h2 => pTr_o (by omega)) (fun f h1 h2 => pTr_o (by omega)) (by rw [k5 _ _ (pTr_o (by omega))])
    obtain ⟨L, hLL⟩ := Int.eq_ofNat_of_zero_le (show 0 ≤ cw s 0 388 0 by omega)
    have c2 : s2 388 0 0 = L := by rw [k5 _ _ (pTr_o (by omega)), ← hLL]; exact (cw0 (by omega) (by omega)).symm
    have hclr : itr (fun (x6, s7) => f262_a x6 s7) am_fu (0, s2) = some (iterS (fun i s => st2 s 1605 0 i 0) 30 s2) := by
      refine itr_seq (fun i => ((i : Int), iterS (fun i s => st2 s 1605 0 i 0) i s2)) 30 _ ?_ rfl am_fu (fu_lt (by decide))
      intro i hi
      show f262_a _ _ = _
      simp (disch := omega) only [f262_a, and_self, and_true, true_and, not_true_eq_false, not_false_eq_true, reduceIte, bnd, jn, se, cP_s, cR_s, if_pos, if_neg, gd_t, ld_t, ldr_t, sto_t, jadd_e, jsub_e, Int.toNat_natCast]
      rfl
    have hz30 : ∀ k, k < 30 → iterS (fun i s => st2 s 1605 0 i 0) 30 s2 1605 0 k = 0 := fun k hk => by rw [fill1, if_pos (by omega)]
    have f5 : Fr (pF1 1605) s2 (iterS (fun i s => st2 s 1605 0 i 0) 30 s2) := fun f i hf => by
      have := pF1_f.mp hf
      funext k
      rw [fill1, if_neg (by omega)]
    generalize iterS (fun i s => st2 s 1605 0 i 0) 30 s2 = s3 at hclr hz30 f5
    have hM3 : MS (cw s 0) (yv s 0) _ 0 s3 := hM2.fr f5 (fun f g1 g2 g3 g4 => pF1_f.mpr (by omega))
    have A3 : Ask s2 s3 := Ask.mo f5 (fun f i q => pF5_k q) (fun f g1 g2 g3 => pF1_f.mpr (by omega))
    have hBR3 : BR (cw s 0) (yv s 1) s3 := by
      obtain ⟨b1, b2, b3⟩ := pTr_br hBR k5
      unfold BR
      rw [f5 _ _ (pF1_f.mpr (show ¬ (1554 = 1605 ∧ 0 = 0) by omega)), f5 _ _ (pF1_f.mpr (show ¬ (1555 = 1605 ∧ 0 = 0) by omega)), f5 _ _ (pF1_f.mpr (show ¬ (1556 = 1605 ∧ 0 = 0) by omega))]
      exact ⟨b1, b2, b3⟩
    have hL3 : LG s3 (cw s 0) LN lh ll lf := hL2.fr f5 (fun f h1 h2 => pF1_f.mpr (by omega)) (fun f h1 h2 => pF1_f.mpr (by omega)) (by rw [f5 _ _ (pF1_f.mpr (by omega))])
    have hB3 : BK s3 R K := (hB.tr k5).ak (f5.mo fun f i q => pF5_k q)
    obtain ⟨t1, l1, l2, l3, -⟩ := m233 (t := s3)
    obtain ⟨t1', l1', l2'⟩ := AK.keep (t := s3)
    have et : t1' = t1 := by rw [l1] at l1'; cases l1'; rfl
    subst et
    obtain ⟨t2, m1, m2, m3⟩ := c262b (hr := hr) (L := L) hC hBY hM3 l2' hB3 hBR3 hL3 (by omega) hLL (fun k hk => by rw [l3 _ _ (pI_f.mpr (by omega))]; exact hz30 k hk)
    have h3 : t2 1537 0 3 = L := by rw [← hLL]; exact (m2.ms hM3 hC).l3
    generalize fitK (cw s 0) (yv s 1) K LN lh ll lf = fit at k2 k3 k4 m1 m3
    have hcb := cntB_bd (p := fit) (n := R + 1)
    refine ⟨if cntB (R + 1) fit = 0 then -2 else if b = 0 then fewB (moK fit (heldK (cw s 0) (yv s 1) K hr) (R + 1)) L else fewV (moK fit (heldK (cw s 0) (yv s 1) K hr) (R + 1)) L, s2, t2, ?_, ?_, ((Ask.cl F1 F2).tr A3).tr m2.1⟩
    · unfold f143
      rw [bnd, e4, if_neg h0, if_neg (by omega), if_neg (by omega), if_neg (by omega), if_pos hb.2, k1, cP_s, bnd, k2]
      by_cases c0 : cntB (R + 1) fit = 0
      · rw [if_pos c0, if_pos c0]
      · rw [if_neg c0, if_neg c0, bnd, c2]
        by_cases hL0 : L = 0
        · rw [if_neg (by omega)]
          unfold fewB fewV
          rw [if_pos hL0, if_pos hL0]
          by_cases b0 : b = 0
          · rw [if_pos b0]
          · rw [if_neg b0]
        · rw [if_pos (by omega), m144 (C := cw s 0) k4 (by omega) k2 c2 (by omega), cP_s]
          have hlt := blN_lt (mo := moK fit (heldK (cw s 0) (yv s 1) K hr) (R + 1)) (n := L) (by omega)
          unfold fewB fewV
          rw [if_neg hL0, if_neg hL0]
          by_cases b0 : b = 0
          · rw [if_neg (fun w => w b0), if_pos b0]
          · rw [if_pos b0, if_neg b0, m145 k4 (by omega) k2 (by omega), cP_s]
    · unfold f262
      rw [m220 hC hM2.1, cP_s, if_neg h0, ja, m173t ha, cP_s, if_neg ne10, jb, m173t hb, cP_s, if_pos ne10, hclr, cP_s, l1, cP_s, m1, cP_s]
      by_cases c0 : cntB (R + 1) fit = 0
      · rw [if_pos c0, c0]
        show cP (itr (fun (x39, x40, x41) => f262_d 0 x39 x40 x41 t2) am_fu (-2, -2, 0)) _ = _
        rw [c262d0 (by omega) h3, cP_s]
        show (if ¬ b = 0 then _ else _) = _
        by_cases b0 : b = 0
        · rw [if_neg (fun w => w b0)]
        · rw [if_pos b0]
      · rw [if_neg c0]
        show cP (itr (fun (x39, x40, x41) => f262_d (cntB (R + 1) fit) x39 x40 x41 t2) am_fu (-2, -2, 0)) _ = _
        rw [c262d m3 (by omega) h3 (by omega), cP_s]
        show (if ¬ b = 0 then _ else _) = _
        by_cases b0 : b = 0
        · rw [if_neg (fun w => w b0), if_pos b0]
        · rw [if_pos b0, if_neg b0]
  · refine ⟨-1, s, s, ?_, ?_, Ask.rf⟩
    · unfold f143
      rw [bnd, e4]
      by_cases h0 : cw s 0 384 0 = 0
      · rw [if_pos h0]
      · rw [if_neg h0]
        by_cases a0 : a < 0
        · rw [if_pos a0]
        · rw [if_neg a0]
          by_cases a6 : 60 < a
          · rw [if_pos a6]
          · rw [if_neg a6]
            by_cases b0 : b < 0
            · rw [if_pos b0]
            · rw [if_neg b0, if_neg (fun w => hp ⟨h0, by omega, by omega⟩)]
    · unfold f262
      rw [m220 hC hM.1, cP_s, ja]
      by_cases h0 : cw s 0 384 0 = 0
      · rw [if_pos h0]
      · rw [if_neg h0]
        by_cases ha : 0 ≤ a ∧ a ≤ 60
        · rw [m173t ha, cP_s, if_neg ne10, jb, m173f (fun w => hp ⟨h0, ha, w⟩), cP_s, if_neg (by decide)]
        · rw [m173f ha, cP_s, if_pos rfl]
