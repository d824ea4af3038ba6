/-! RULED on both sides -/
theorem pTr_br {C B : V2} {s s' : S2} (h : BR C B s) (e : Fr pTr s s') : BR C B s' := by
  obtain ⟨b1, b2, b3⟩ := h
  unfold BR
  rw [e _ _ (pTr_o (f := 1554) (by omega)), e _ _ (pTr_o (f := 1555) (by omega)), e _ _ (pTr_o (f := 1556) (by omega))]
  exact ⟨b1, b2, b3⟩
def fsM (fit : Nat → Bool) (i : Nat) : Int := if cntB i fit = 0 then -2 else fsF fit i
theorem fsM_s {fit : Nat → Bool} {i : Nat} : fsM fit (i + 1) = if fit i = true ∧ cntB i fit = 0 then (i : Int) - 1 else fsM fit i := by
  have hb := cntB_bd (p := fit) (n := i)
  unfold fsM
  rw [cntB_s, fsF_s]
  cases hf : fit i with
  | true =>
    rw [if_pos rfl, if_neg (by omega)]
    by_cases c : cntB i fit = 0
    · rw [if_pos ⟨rfl, c⟩, if_pos ⟨rfl, c⟩]
    · rw [if_neg (fun w => c w.2), if_neg (fun w => c w.2), if_neg c]
  | false =>
    simp
theorem c259 {t t1 : S2} {C Y B : V2} {code : List Int} {R : Nat} {K : Nat → List Int} {LN : Nat} {lh ll lf : Nat → Int} (hC : CB C) (hBY : YB C B) (hM : MS C Y code 0 t) (hk : AK t t1) (hBK : BK t R K) (hBR : BR C B t) (hL : LG t C LN lh ll lf) : ∃ t2, itr (fun (x5, x6, x7, s8) => f259_a x5 x6 x7 s8) am_fu (0, -2, -1, t1) = some (cntB (R + 1) (fitK C B K LN lh ll lf), fsM (fitK C B K LN lh ll lf) (R + 1), t2) ∧ AK t t2 := by
  have hR6 := hBK.2.2.1
  generalize hfit : fitK C B K LN lh ll lf = fit
  have hfk : ∀ i : Nat, fitR C B (lawK K ((i : Int) - 1)) LN lh ll lf = fit i := fun i => congrFun hfit i
  refine Exists.elim (itr_inv (b := fun (x5, x6, x7, s8) => f259_a x5 x6 x7 s8) (fun (i : Nat) (z : Int × Int × Int × S2) => z.1 = cntB i fit ∧ z.2.1 = fsM fit i ∧ z.2.2.1 = (i : Int) - 1 ∧ AK t z.2.2.2) (fun (z : Int × Int × S2) => z.1 = cntB (R + 1) fit ∧ z.2.1 = fsM fit (R + 1) ∧ AK t z.2.2) (R + 1) ?_ am_fu (fu_lt (by omega)) (0, -2, -1, t1) ⟨rfl, rfl, rfl, hk⟩) ?_
  rotate_left
  · rintro ⟨x, y, t2⟩ ⟨hr, b1, b2, b3⟩
    dsimp only at b1 b2 b3
    subst b1 b2
    exact ⟨t2, hr, b3⟩
  · rintro i ⟨x, y, w, z⟩ hi ⟨g1, g2, g3, g4⟩
    dsimp only at g1 g2 g3 g4 ⊢
    subst g1 g2 g3
    have hBz := hBK.ak g4.1.1
    have hcb := cntB_bd (p := fit) (n := i)
    by_cases e : i = R + 1
    · refine Or.inr ⟨(cntB i fit, fsM fit i, z), ?_, by rw [e], by rw [e], g4⟩
      show f259_a _ _ _ z = _
      unfold f259_a
      rw [bnd, hBz.2.1, if_pos (by omega)]
    · refine Or.inl ⟨by omega, ?_⟩
      obtain ⟨z', a1, a2, -, -⟩ := m260 (r := (i : Int) - 1) (hs := -1) hC hBY hM g4 hBK hBR hL (by omega) (by omega) (by omega)
      rw [hfk] at a1
      have ej : jadd ((i : Int) - 1) 1 = ((i + 1 : Nat) : Int) - 1 := by rw [jadd_e (by omega) (by omega)]; omega
      have ec : jadd (cntB i fit) 1 = cntB i fit + 1 := jadd_e (by omega) (by omega)
      refine ⟨(cntB (i + 1) fit, fsM fit (i + 1), ((i + 1 : Nat) : Int) - 1, z'), ?_, rfl, rfl, rfl, a2⟩
      show f259_a _ _ _ z = _
      unfold f259_a
      rw [bnd, hBz.2.1, if_neg (by omega), a1, cR_s, cntB_s, fsM_s]
      simp only [bnd, ej, ec]
      cases hf : fit i with
      | false =>
        rw [i01_f, if_pos rfl, if_neg (by decide), if_neg (fun w => by cases w.1)]
      | true =>
        rw [i01_t, if_neg ne10, if_pos rfl]
        by_cases c : cntB i fit = 0
        · rw [if_neg (fun w => w c), if_pos ⟨rfl, c⟩]
        · rw [if_pos c, if_neg (fun w => c w.2)]
theorem call_ruled {s : S2} {a : Int} (h : Inv s) (ia : i32 a) : ∃ r s1 s2, f139 a s = some (r, s1) ∧ f259 a s1 = some (r, s2) ∧ Ask s s2 := by
  obtain ⟨R, K, hB, hW, hR⟩ := h.rel
  obtain ⟨LN, lh, ll, lf, hL⟩ := hW.lg
  obtain ⟨hBR, hBY⟩ := hW.br
  have hM := hR.2.2.2.2.2.2.2
  have hC := hR.2.2.1
  have hY := hR.2.2.2.1
  have e4 : s 384 0 0 = cw s 0 384 0 := (cw0 (by omega) (by omega)).symm
  have ja : ji2l a = a := by unfold i32 at ia; exact ji2l_e (by omega) (by omega)
  by_cases h0 : cw s 0 384 0 = 0
  · refine ⟨-3, s, s, ?_, ?_, Ask.rf⟩
    · unfold f139
      rw [bnd, e4, if_pos h0]
    · unfold f259
      rw [m220 hC hM.1, cP_s, if_pos h0]
  by_cases ha : 0 ≤ a ∧ a ≤ 1
  · obtain ⟨s2, k1, k2, k3, k4, k5⟩ := c140 (hr := 0) hB hC rfl rfl hBY hBR.2.2.1 hL (by omega)
    have F1 : Fr pAk s s2 := k5.mo fun f i q => pTr_k q
    have F2 : Fr pCl s s2 := k5.mo fun f i q => pTr_cl q
    have hM2 := hM.cl F2
    have hL2 : LG s2 (cw s 0) LN lh ll lf := hL.fr k5 (fun f h1 h2 => pTr_o (by omega)) (fun f h1 h2 => pTr_o (by omega)) (by rw [k5 _ _ (pTr_o (by omega))])
    obtain ⟨t1, l1, l2⟩ := AK.keep (t := s2)
    obtain ⟨t2, l3, l4⟩ := c259 hC hBY hM2 l2 (hB.tr k5) (pTr_br hBR k5) hL2
    generalize fitK (cw s 0) (yv s 1) K LN lh ll lf = fit at k2 k3 k4 l3
    refine ⟨if a = 0 then cntB (R + 1) fit else fsM fit (R + 1), s2, t2, ?_, ?_, (Ask.cl F1 F2).tr l4.1⟩
    · have k1' : f140 0 0 s = some s2 := k1
      unfold f139
      rw [bnd, e4, if_neg h0, if_neg (by omega), if_pos ha.2, k1', cP_s]
      simp only [bnd, k2, k3]
      by_cases a0 : a = 0
      · rw [if_neg (fun w => w a0), if_pos a0]
      · rw [if_pos a0, if_neg a0]
        unfold fsM
        by_cases c : cntB (R + 1) fit = 0
        · rw [if_neg (fun w => w c), if_pos c]
        · rw [if_pos c, if_neg c]
    · unfold f259
      rw [m220 hC hM2.1, cP_s, if_neg h0, ja, m173t ha, cP_s, if_pos ne10, l1, cP_s, l3, cP_s]
      show (if ¬ a = 0 then _ else _) = _
      by_cases a0 : a = 0
      · rw [if_neg (fun w => w a0), if_pos a0]
      · rw [if_pos a0, if_neg a0]
  · refine ⟨-3, s, s, ?_, ?_, Ask.rf⟩
    · unfold f139
      rw [bnd, e4, if_neg h0]
      by_cases a0 : a < 0
      · rw [if_pos a0]
      · rw [if_neg a0, if_neg (by omega)]
    · unfold f259
      rw [m220 hC hM.1, cP_s, if_neg h0, ja, m173f ha, cP_s, if_neg (by decide)]
