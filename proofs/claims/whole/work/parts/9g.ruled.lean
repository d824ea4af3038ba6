/-! RULED, LOOK: the model, and both -/
theorem am_ln4 : am_ln 1554 = 4 ∧ am_ln 1538 = 4 ∧ am_ln 1555 = 10 ∧ am_ln 1547 = 10 ∧ am_ln 1556 = 10 ∧ am_ln 1548 = 10 ∧ am_ln 1544 = 6 ∧ am_ln 1604 = 6 := ⟨rfl, rfl, rfl, rfl, rfl, rfl, rfl, rfl⟩
/-- what the text told of a yard, in the model -/
def BR (C B : V2) (t : S2) : Prop := (∀ f : Nat, f < 4 → (f : Int) < C 387 0 → t 1554 0 f = B 517 f) ∧ (∀ n : Nat, n < 10 → (n : Int) < C 389 0 → t 1555 0 n = B 516 n ∧ t 1556 0 n = B 515 n) ∧ B 512 0 = 0 ∧ (∀ l, l < 6 → B 513 l = -1 ∧ B 514 l = 0) ∧ ∀ f, f < 4 → B 518 f = 0
theorem IW.br {R : Nat} {s : S2} (h : IW R s 0 (live s)) : BR (cw s 0) (yv s 1) s ∧ YB (cw s 0) (yv s 1) := by
  obtain ⟨⟨-, -, -, c1, -⟩, ⟨a1, a2, a3, a4, a5, a6⟩, -⟩ := h
  have c1 := CR_live.mp c1
  refine ⟨⟨fun f hf hf2 => ?_, fun n hn hn2 => ⟨?_, ?_⟩, a2, a3, a4⟩, a1⟩
  · have := a6 f hf hf2
    rw [live_t (by unfold jr; omega)] at this
    exact this
  · rw [(c1.2.2.1 n hn hn2).2.2]; exact (a5 n hn hn2).1.symm
  · have := (a5 n hn hn2).2
    rw [live_t (by unfold jr; omega)] at this
    exact this
def pBg (f i : Nat) : Bool := (Nat.beq f 1537 || Nat.beq f 1538 || Nat.beq f 1539 || Nat.beq f 1544 || Nat.beq f 1547 || Nat.beq f 1548) && Nat.beq i 0
theorem pBg_f {f i : Nat} : pBg f i = false ↔ ¬ ((f = 1537 ∨ f = 1538 ∨ f = 1539 ∨ f = 1544 ∨ f = 1547 ∨ f = 1548) ∧ i = 0) := by
  unfold pBg
  rw [← Bool.not_eq_true, Bool.and_eq_true, Bool.or_eq_true, Bool.or_eq_true, Bool.or_eq_true, Bool.or_eq_true, Bool.or_eq_true, Nat.beq_eq, Nat.beq_eq, Nat.beq_eq, Nat.beq_eq, Nat.beq_eq, Nat.beq_eq, Nat.beq_eq]
  grind
/-- begins, in cells -/
theorem m180 {t : S2} : ∃ t', f180 t = some t' ∧ (∀ k, k < 4 → t' 1538 0 k = t 1554 0 k) ∧ (∀ k, k < 10 → t' 1547 0 k = t 1555 0 k) ∧ (∀ k, k < 10 → t' 1548 0 k = t 1556 0 k) ∧ (∀ k, t' 1537 0 k = if k = 6 ∨ k = 7 then 0 else t 1537 0 k) ∧ (∀ k, k < 4 → t' 1539 0 k = 0) ∧ (∀ k, k < 6 → t' 1544 0 k = -1) ∧ Fr pBg t t' := by
  unfold f180
  rw [m179 (n := 4) rfl rfl (by omega) (by omega), cP_s, m179 (n := 10) rfl rfl (by omega) (by omega), cP_s, m179 (n := 10) rfl rfl (by omega) (by omega), cP_s, sto_t (by omega) (by omega), sto_t (by omega) (by omega)]
  rw [fill_cP 4 (fun i s => st2 s 1539 0 i 0) _ (by decide) (by intro i s hi; show f180_a _ _ = _; simp (disch := omega) only [f180_a, and_self, and_true, true_and, not_true_eq_false, not_false_eq_true, reduceIte, bnd, jn, se, cP_s, cR_s, if_pos, if_neg, gd_t, ld_t, ldr_t, sto_t, jadd_e, jsub_e, Int.toNat_natCast]; rfl) (fun s => rfl)]
  rw [fill_cP 6 (fun i s => st2 s 1544 0 i (-1)) _ (by decide) (by intro i s hi; show f180_b _ _ = _; simp (disch := omega) only [f180_b, and_self, and_true, true_and, not_true_eq_false, not_false_eq_true, reduceIte, bnd, jn, se, cP_s, cR_s, if_pos, if_neg, gd_t, ld_t, ldr_t, sto_t, jadd_e, jsub_e, Int.toNat_natCast]; rfl) (fun s => rfl)]
  refine ⟨_, rfl, fun k hk => ?_, fun k hk => ?_, fun k hk => ?_, fun k => ?_, fun k hk => ?_, fun k hk => ?_, fun f i hf => ?_⟩
  · rw [fill1, if_neg (by omega), fill1, if_neg (by omega), st2_ne (by omega), st2_ne (by omega), cpS_d, if_neg (by omega), cpS_d, if_neg (by omega), cpS_d, if_pos (by omega)]
  · rw [fill1, if_neg (by omega), fill1, if_neg (by omega), st2_ne (by omega), st2_ne (by omega), cpS_d, if_neg (by omega), cpS_d, if_pos (by omega), cpS_d, if_neg (by omega)]
  · rw [fill1, if_neg (by omega), fill1, if_neg (by omega), st2_ne (by omega), st2_ne (by omega), cpS_d, if_pos (by omega), cpS_d, if_neg (by omega), cpS_d, if_neg (by omega)]
  · rw [fill1, if_neg (by omega), fill1, if_neg (by omega), st2_d, st2_d]
    by_cases h7 : k = 7
    · rw [if_pos (by exact ⟨rfl, rfl, h7⟩), if_pos (Or.inr h7)]
    · rw [if_neg (by intro w; exact h7 w.2.2)]
      by_cases h6 : k = 6
      · rw [if_pos (by exact ⟨rfl, rfl, h6⟩), if_pos (Or.inl h6)]
      · rw [if_neg (by intro w; exact h6 w.2.2), if_neg (by omega), cpS_d, if_neg (by omega), cpS_d, if_neg (by omega), cpS_d, if_neg (by omega)]
  · rw [fill1, if_neg (by omega), fill1, if_pos (by omega)]
  · rw [fill1, if_pos (by omega)]
  · have hf := pBg_f.mp hf
    funext k
    rw [fill1, if_neg (by omega), fill1, if_neg (by omega), st2_row (by omega), st2_row (by omega), cpS_d, if_neg (by omega), cpS_d, if_neg (by omega), cpS_d, if_neg (by omega)]
theorem pBg_k {f i : Nat} (h : pAk f i = false) : pBg f i = false := by
  have := pAk_f.mp h
  exact pBg_f.mpr (by omega)
theorem cutV_0 {B : V2} (h : ∀ l, l < 6 → B 514 l = 0) : cutV B = 0 := by
  unfold cutV
  rw [h 0 (by omega), h 1 (by omega), h 2 (by omega), h 3 (by omega), h 4 (by omega), h 5 (by omega)]
  rfl
/-- begun anew, in the model -/
theorem MS.begins {C Y B : V2} {code : List Int} {t : S2} (hC : CB C) (h : MS C Y code 0 t) (hB : BR C B t) : ∃ t', f180 t = some t' ∧ MS C B code 0 t' ∧ Fr pBg t t' ∧ t' 1537 0 8 = t 1537 0 8 := by
  have hcc := hC.1
  obtain ⟨t', a1, a2, a3, a4, a5, a6, a7, a8⟩ := m180 (t := t)
  obtain ⟨b1, b2, b3, b4, b5⟩ := hB
  obtain ⟨h1, h2, h3, h4, h5⟩ := h
  refine ⟨t', a1, ⟨h1.ext (fun k hk => by rw [a5, if_neg (by omega)]) (fun f g1 g2 g3 g4 g5 => a8 _ _ (pBg_f.mpr (by omega))), ⟨?_, ?_, fun l hl hl2 => ?_, fun n hn hn2 => ⟨?_, ?_⟩, fun f hf hf2 => ⟨?_, ?_⟩⟩, h3.fr a8 (by rw [a5, if_neg (by omega)]) (fun f g1 g2 => pBg_f.mpr (by omega)), by rw [a8 _ _ (pBg_f.mpr (by omega))]; exact h4, h5⟩, a8, by rw [a5, if_neg (by omega)]⟩
  · rw [a5, if_pos (by omega), b3]
  · rw [a5, if_pos (by omega), cutV_0 fun l hl => (b4 l hl).2]
  · rw [a7 l hl, (b4 l hl).1]
  · rw [a3 n hn]; exact (b2 n hn hn2).1
  · rw [a4 n hn]; exact (b2 n hn hn2).2
  · rw [a2 f hf]; exact b1 f hf hf2
  · rw [a6 f hf, b5 f hf]
/-- one rule tried, the model: shown at hour hr, or never -/
theorem m260 {t z : S2} {C Y B : V2} {code : List Int} {R : Nat} {K : Nat → List Int} {LN : Nat} {lh ll lf : Nat → Int} {r hs : Int} (hC : CB C) (hBY : YB C B) (hM : MS C Y code 0 t) (hk : AK t z) (hBK : BK t R K) (hBR : BR C B t) (hL : LG t C LN lh ll lf) (h1 : -1 ≤ r) (h2 : r < R) (hhs : -1 ≤ hs ∧ hs ≤ 60) : ∃ z', f260 r hs z = some (if fitR C B (lawK K r) LN lh ll lf = true then 1 else 0, z') ∧ AK t z' ∧ (0 ≤ hs → ∀ l : Nat, (l : Int) < C 388 0 → z' 1604 0 l = passN C (lawK K r) (hs.toNat + 1) B 513 l) ∧ z' 1605 0 = z 1605 0 := by
  have hcc := hC.1
  have hB0 := hBR.2.2.1
  have hMz := (hk.ms hM hC).force (hBK.ak hk.1.1) h1 h2
  have f1 : Fr pSc z (st2 z 1537 0 10 r) := Fr.rf.st rfl
  have hBz : BR C B (st2 z 1537 0 10 r) := by
    obtain ⟨b1, b2, b3⟩ := hBR
    have e4 : st2 z 1537 0 10 r 1554 0 = t 1554 0 := by rw [f1 _ _ (pSc_f.mpr (by omega)), hk.1.1 _ _ (pAk_f.mpr (by omega))]
    have e5 : st2 z 1537 0 10 r 1555 0 = t 1555 0 := by rw [f1 _ _ (pSc_f.mpr (by omega)), hk.1.1 _ _ (pAk_f.mpr (by omega))]
    have e6 : st2 z 1537 0 10 r 1556 0 = t 1556 0 := by rw [f1 _ _ (pSc_f.mpr (by omega)), hk.1.1 _ _ (pAk_f.mpr (by omega))]
    unfold BR
    rw [e4, e5, e6]
    exact ⟨b1, b2, b3⟩
  obtain ⟨z1, a1, a2, a3, a4⟩ := hMz.begins hC hBz
  have q8 : z1 1537 0 8 = t 1537 0 8 := by rw [a4, st2_ne (by omega), hk.1.2.1.1 8 (by omega)]
  generalize hcode : lawK K r = code' at a2 ⊢
  have hPl : ∀ f i, pAk f i = false → (pG f i || (Nat.beq f 1604 && Nat.beq i 0)) = false := fun f i q => by
    have h3 := pAk_f.mp q
    rw [Bool.or_eq_false_iff, ← Bool.not_eq_true (_ && _), Bool.and_eq_true, Nat.beq_eq, Nat.beq_eq]
    exact ⟨pG_k q, by omega⟩
  have hPo : ∀ f, f ≠ 1604 → pG f 0 = false → (pG f 0 || (Nat.beq f 1604 && Nat.beq 0 0)) = false := fun f h1 h2 => by
    rw [Bool.or_eq_false_iff, ← Bool.not_eq_true (_ && _), Bool.and_eq_true, Nat.beq_eq, Nat.beq_eq]
    exact ⟨h2, by omega⟩
  have L : ∃ w, itr (fun (x4, x5, s6) => f260_a hs x4 x5 s6) am_fu (1, 0, z1) = some ((if fitR C B code' LN lh ll lf = true then (1 : Int) else 0), w) ∧ Fr (fun f i => pG f i || (Nat.beq f 1604 && Nat.beq i 0)) z1 w ∧ (0 ≤ hs → ∀ l : Nat, (l : Int) < C 388 0 → w 1604 0 l = passN C code' (hs.toNat + 1) B 513 l) := by
    refine Exists.elim (itr_inv (b := fun (x4, x5, s6) => f260_a hs x4 x5 s6) (fun (n : Nat) (w : Int × Int × S2) => w.1 = (if anyN n (misN C B code' LN lh ll lf) = true then (0 : Int) else 1) ∧ w.2.1 = n ∧ MS C (passN C code' n B) code' 0 w.2.2 ∧ Fr (fun f i => pG f i || (Nat.beq f 1604 && Nat.beq i 0)) z1 w.2.2 ∧ w.2.2 1537 0 8 = t 1537 0 8 ∧ (0 ≤ hs → hs < n → ∀ l : Nat, (l : Int) < C 388 0 → w.2.2 1604 0 l = passN C code' (hs.toNat + 1) B 513 l)) (fun (w : Int × S2) => w.1 = (if anyN 61 (misN C B code' LN lh ll lf) = true then (0 : Int) else 1) ∧ Fr (fun f i => pG f i || (Nat.beq f 1604 && Nat.beq i 0)) z1 w.2 ∧ (0 ≤ hs → ∀ l : Nat, (l : Int) < C 388 0 → w.2 1604 0 l = passN C code' (hs.toNat + 1) B 513 l)) 61 ?_ am_fu (fu_lt (by decide)) (1, 0, z1) ⟨rfl, rfl, a2, Fr.rf, q8, fun h0 h1 => by exfalso; omega⟩) ?_
    rotate_left
    · rintro ⟨x, w⟩ ⟨hr, b1, b2, b3⟩
      dsimp only at b1 b2 b3
      refine ⟨w, ?_, b2, b3⟩
      rw [hr, b1]
      unfold fitR
      cases anyN 61 (misN C B code' LN lh ll lf) <;> rfl
    · rintro n ⟨x, y, w⟩ hn ⟨g1, g2, g3, g4, g5, g6⟩
      dsimp only at g1 g2 g3 g4 g5 g6 ⊢
      subst g1 g2
      by_cases e : n = 61
      · subst e
        refine Or.inr ⟨((if anyN 61 (misN C B code' LN lh ll lf) = true then (0 : Int) else 1), w), ?_, rfl, g4, fun h0 => g6 h0 (by omega)⟩
        show f260_a hs _ (61 : Nat) w = _
        unfold f260_a
        rw [if_pos (by omega)]
      · refine Or.inl ⟨by omega, ?_⟩
        obtain ⟨w1, b1, b2, b3, b4⟩ := m222 hC (passN_YB (code := code') (n := n) hC hBY (by omega)) g3
        have B3 : Fr (fun f i => pG f i || (Nat.beq f 1604 && Nat.beq i 0)) w w1 := b3.mo fun f i q => (Bool.or_eq_false_iff.mp q).1
        have hL1 : LG w1 C LN lh ll lf := by
          refine (hL.fr hk.1.1 (fun f h1 h2 => pAk_f.mpr (by omega)) (fun f h1 h2 => pAk_f.mpr (by omega)) (hk.1.2.1.1 8 (by omega))).fr (((f1.mo fun f i q => pSc_k q).tr (a3.mo fun f i q => pBg_k q)).tr ((g4.tr B3).mo fun f i q => hPl f i q)) (fun f h1 h2 => pAk_f.mpr (by omega)) (fun f h1 h2 => pAk_f.mpr (by omega)) ?_
          rw [b4 8 (by decide), g5, hk.1.2.1.1 8 (by omega)]
        have e261 : f261 n w1 = some (if misN C B code' LN lh ll lf n = true then 0 else 1) := m261 (Y := passN C code' (n + 1) B) hC b2.2.1 hL1
        have ej : jadd (n : Int) 1 = ((n + 1 : Nat) : Int) := by rw [jadd_e (by omega) (by omega)]; rfl
        have ha : anyN (n + 1) (misN C B code' LN lh ll lf) = (anyN n (misN C B code' LN lh ll lf) || misN C B code' LN lh ll lf n) := rfl
        have hst : f260_a hs (if anyN n (misN C B code' LN lh ll lf) = true then (0 : Int) else 1) n w = if ¬ (n : Int) = hs then some (.inl ((if anyN (n + 1) (misN C B code' LN lh ll lf) = true then (0 : Int) else 1), ((n + 1 : Nat) : Int), w1)) else some (.inl ((if anyN (n + 1) (misN C B code' LN lh ll lf) = true then (0 : Int) else 1), ((n + 1 : Nat) : Int), cpS w1 1544 1604 6)) := by
          unfold f260_a
          rw [if_neg (by omega), b1, cR_s, ha]
          simp only [jn, e261, cP_s, bnd, ej, m179 (g := 1544) (h := 1604) (n := 6) rfl rfl (by omega) (by omega)]
          cases anyN n (misN C B code' LN lh ll lf) <;> cases misN C B code' LN lh ll lf n <;> rfl
        by_cases c : (n : Int) = hs
        · rw [if_neg (show ¬ ¬ (n : Int) = hs from fun w => w c)] at hst
          have fc : Fr (pF1 1604) w1 (cpS w1 1544 1604 6) := cpS_fr Fr.rf pF1_t
          refine ⟨((if anyN (n + 1) (misN C B code' LN lh ll lf) = true then (0 : Int) else 1), ((n + 1 : Nat) : Int), cpS w1 1544 1604 6), hst, rfl, rfl, ?_, (g4.tr B3).tr (fc.mo fun f i q => by
            have := (Bool.or_eq_false_iff.mp q).2
            exact this), ?_, fun h0 h1 l hl => ?_⟩
          · exact MS.fr b2 fc (fun f g1 g2 g3 g4 => pF1_f.mpr (by omega))
          · show cpS w1 1544 1604 6 1537 0 8 = _
            rw [fc _ _ (pF1_f.mpr (by omega)), b4 8 (by decide)]
            exact g5
          · show cpS w1 1544 1604 6 1604 0 l = _
            rw [cpS_d, if_pos (by omega), b2.2.1.2.2.1 l (by omega) hl, ← c, Int.toNat_natCast]
            rfl
        · rw [if_pos c] at hst
          refine ⟨((if anyN (n + 1) (misN C B code' LN lh ll lf) = true then (0 : Int) else 1), ((n + 1 : Nat) : Int), w1), hst, rfl, rfl, b2, g4.tr B3, by
            show w1 1537 0 8 = _
            rw [b4 8 (by decide)]
            exact g5, fun h0 h1 l hl => ?_⟩
          show w1 1604 0 l = _
          rw [b3 _ _ (pG_f.mpr (by omega))]
          exact g6 h0 (by omega) l hl
  obtain ⟨w, c1, c2, c3⟩ := L
  obtain ⟨z3, d1, d2, d3⟩ := hk.back2 (((f1.mo fun f i q => pSc_k q).tr (a3.mo fun f i q => pBg_k q)).tr (c2.mo fun f i q => hPl f i q)) (by rw [c2 _ _ (hPo _ (by omega) pG_6), a3 _ _ (pBg_f.mpr (by omega)), f1 _ _ (pSc_f.mpr (by omega))]) (by rw [c2 _ _ (hPo _ (by omega) pG_9), a3 _ _ (pBg_f.mpr (by omega)), f1 _ _ (pSc_f.mpr (by omega)), hk.1.2.2.1])
  refine ⟨z3, ?_, d2, fun h0 l hl => ?_, ?_⟩
  · unfold f260
    rw [sto_t (by omega) (by omega), show Int.toNat 10 = 10 from rfl, a1, cP_s, c1, cP_s]
    show cP (f237 w) _ = _
    rw [d1, cP_s, gd_t]
    cases fitR C B code' LN lh ll lf
    · exact Or.inl rfl
    · exact Or.inr rfl
  · rw [d3 _ _ (pJ_f.mpr (by omega))]
    exact c3 h0 l hl
  · rw [d3 _ _ (pJ_f.mpr (by omega)), c2 _ _ (hPo _ (by omega) (pG_f.mpr (by omega))), a3 _ _ (pBg_f.mpr (by omega)), f1 _ _ (pSc_f.mpr (by omega))]
