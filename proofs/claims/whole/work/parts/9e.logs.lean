/-! RULES TRIED AGAINST THE LOGS -/
/-- the logs: how many, hours, lines, families -/
def LG (s : S2) (C : V2) (LN : Nat) (lh ll lf : Nat → Int) : Prop := LN ≤ 10 ∧ (s 1032 0 0 = LN ∧ s 1537 0 8 = LN) ∧ ∀ i, i < LN → (s 1029 0 i = lh i ∧ s 1551 0 i = lh i ∧ 0 ≤ lh i ∧ lh i ≤ 60) ∧ (s 1030 0 i = ll i ∧ s 1552 0 i = ll i ∧ 0 ≤ ll i ∧ ll i < C 388 0) ∧ (s 1031 0 i = lf i ∧ s 1553 0 i = lf i)
def lgP (Y : V2) (lh ll lf : Nat → Int) (n : Int) (i : Nat) : Bool := decide (lh i = n ∧ ¬ Y 513 (ll i).toNat = lf i)
theorem LG.fr {P : Nat → Nat → Bool} {s s' : S2} {C : V2} {LN : Nat} {lh ll lf : Nat → Int} (h : LG s C LN lh ll lf) (e : Fr P s s') (h1 : ∀ f, 1029 ≤ f → f ≤ 1032 → P f 0 = false) (h2 : ∀ f, 1551 ≤ f → f ≤ 1553 → P f 0 = false) (h3 : s' 1537 0 8 = s 1537 0 8) : LG s' C LN lh ll lf := by
  unfold LG
  rw [e _ _ (h1 1029 (by omega) (by omega)), e _ _ (h1 1030 (by omega) (by omega)), e _ _ (h1 1031 (by omega) (by omega)), e _ _ (h1 1032 (by omega) (by omega)), e _ _ (h2 1551 (by omega) (by omega)), e _ _ (h2 1552 (by omega) (by omega)), e _ _ (h2 1553 (by omega) (by omega)), h3]
  exact h
theorem IW.lg {R : Nat} {s : S2} (h : IW R s 0 (live s)) : ∃ LN lh ll lf, LG s (cw s 0) LN lh ll lf := by
  obtain ⟨-, -, -, ⟨n, a1, a2, a3, a4⟩, -⟩ := h
  rw [uw1 (by omega)] at a2
  rw [live_t (by unfold jr; omega)] at a3
  refine ⟨n, fun i => s 1029 0 i, fun i => s 1030 0 i, fun i => s 1031 0 i, a1, ⟨a2, a3⟩, fun i hi => ?_⟩
  obtain ⟨b1, b2, b3⟩ := a4 i hi
  rw [uw10 (by omega) (by omega) (by omega), live_t (by unfold jr; omega)] at b1 b2 b3
  exact ⟨⟨rfl, b1.1.symm, b1.2.1, b1.2.2⟩, ⟨rfl, b2.1.symm, b2.2.1, b2.2.2⟩, ⟨rfl, b3.1.symm⟩⟩
theorem i01_a : (if (true = true) then (0 : Int) else 1) = 0 := rfl
theorem i01_b : (if (false = true) then (0 : Int) else 1) = 1 := rfl
theorem m142 {z : S2} {C Y : V2} {LN n : Nat} {lh ll lf : Nat → Int} (hC : CB C) (hz : cw z 0 = C) (hy : yv z 160 = Y) (hL : LG z C LN lh ll lf) : f142 0 n 160 z = some (if anyN LN (lgP Y lh ll lf n) = true then 0 else 1) := by
  have hcc := hC.1
  obtain ⟨h10, ⟨h1, -⟩, h2⟩ := hL
  have q1 : z 388 0 0 = C 388 0 := by rw [← hz, cw0 (by omega) (by omega)]
  unfold f142
  rw [scan_cP LN (lgP Y lh ll lf n) (.inl ()) (.inr ()) (by omega)]
  · cases anyN LN (lgP Y lh ll lf n) <;> rfl
  · intro i hi hp
    have hp := of_decide_eq_true hp
    obtain ⟨⟨b1, -, -, -⟩, ⟨b5, -, b6, b7⟩, ⟨b8, -⟩⟩ := h2 i hi
    have q3 : z 513 160 (ll i).toNat = Y 513 (ll i).toNat := by rw [← hy, yv513 (by omega)]
    unfold f142_a
    rw [bnd, h1, if_neg (by omega), if_neg (by omega), ld_t (by omega) (by omega), Int.toNat_natCast, b5, ld_t (by omega) (by omega), Int.toNat_natCast, b1, if_neg (show ¬ ¬ lh i = n from fun w => w hp.1), m50t (by omega), cP_s, if_neg ne10, ld_t (by omega) (by omega), q3, ld_t (by omega) (by omega), Int.toNat_natCast, b8, if_neg hp.2]
  · intro i hi hp
    have hp := of_decide_eq_false hp
    obtain ⟨⟨b1, -, -, -⟩, ⟨b5, -, b6, b7⟩, ⟨b8, -⟩⟩ := h2 i hi
    have q3 : z 513 160 (ll i).toNat = Y 513 (ll i).toNat := by rw [← hy, yv513 (by omega)]
    have ej : jadd (i : Int) 1 = ((i + 1 : Nat) : Int) := by rw [jadd_e (by omega) (by omega)]; rfl
    unfold f142_a
    rw [bnd, h1, if_neg (by omega), if_neg (by omega), ld_t (by omega) (by omega), Int.toNat_natCast, b5, ld_t (by omega) (by omega), Int.toNat_natCast, b1]
    by_cases c : lh i = n
    · have hq : Y 513 (ll i).toNat = lf i := Classical.byContradiction fun w => hp ⟨c, w⟩
      rw [if_neg (show ¬ ¬ lh i = n from fun w => w c), m50t (by omega), cP_s, if_neg ne10, ld_t (by omega) (by omega), q3, ld_t (by omega) (by omega), Int.toNat_natCast, b8, if_pos hq, bnd, ej]
    · rw [if_pos c, bnd, ej]
  · unfold f142_a
    rw [bnd, h1, if_pos (by omega)]
theorem m261 {z : S2} {C Y : V2} {LN n : Nat} {lh ll lf : Nat → Int} (hC : CB C) (hV : YR C Y z) (hL : LG z C LN lh ll lf) : f261 n z = some (if anyN LN (lgP Y lh ll lf n) = true then 0 else 1) := by
  have hcc := hC.1
  obtain ⟨h10, ⟨-, h1⟩, h2⟩ := hL
  unfold f261
  refine seq_cP (fun i => ((if anyN i (lgP Y lh ll lf n) = true then (0 : Int) else 1), (i : Int))) LN (if anyN LN (lgP Y lh ll lf n) = true then (0 : Int) else 1) rfl (by omega) ?_ ?_ ?_
  · intro i hi
    obtain ⟨⟨-, b1, -, -⟩, ⟨-, b5, b6, b7⟩, ⟨-, b8⟩⟩ := h2 i hi
    obtain ⟨l, hl⟩ := Int.eq_ofNat_of_zero_le b6
    have q3 : z 1544 0 l = Y 513 l := hV.2.2.1 l (by omega) (by omega)
    have ej : jadd (i : Int) 1 = ((i + 1 : Nat) : Int) := by rw [jadd_e (by omega) (by omega)]; rfl
    have ea : anyN (i + 1) (lgP Y lh ll lf n) = (anyN i (lgP Y lh ll lf n) || lgP Y lh ll lf n i) := rfl
    show f261_a n _ _ z = _
    unfold f261_a
    rw [ld_t (by omega) (by omega), show z 1537 0 (Int.toNat 8) = LN from h1, if_neg (by omega), ea]
    cases ha : anyN i (lgP Y lh ll lf n) with
    | true =>
      rw [i01_a, if_pos rfl, bnd, ej]
      rfl
    | false =>
      rw [i01_b, if_neg ne10, ld_t (by omega) (by omega), Int.toNat_natCast, b1]
      by_cases c : lh i = n
      · rw [if_neg (show ¬ ¬ lh i = n from fun w => w c), ld_t (by omega) (by omega), Int.toNat_natCast, b5, hl, ld_t (by omega) (by omega), Int.toNat_natCast, q3, ld_t (by omega) (by omega), Int.toNat_natCast, b8]
        by_cases c2 : Y 513 l = lf i
        · have : lgP Y lh ll lf n i = false := decide_eq_false (fun w => w.2 (by rw [hl, Int.toNat_natCast]; exact c2))
          rw [if_neg (show ¬ ¬ Y 513 l = lf i from fun w => w c2), this, bnd, ej]
          rfl
        · have : lgP Y lh ll lf n i = true := decide_eq_true ⟨c, by rw [hl, Int.toNat_natCast]; exact c2⟩
          rw [if_pos c2, this, bnd, ej]
          rfl
      · have : lgP Y lh ll lf n i = false := decide_eq_false (fun w => c w.1)
        rw [if_pos c, this, bnd, ej]
        rfl
  · show f261_a n _ _ z = _
    unfold f261_a
    rw [ld_t (by omega) (by omega), show z 1537 0 (Int.toNat 8) = LN from h1, if_pos (by omega)]
  · rw [gd_t]
    cases anyN LN (lgP Y lh ll lf n)
    · exact Or.inr rfl
    · exact Or.inl rfl
/-- a rule is so as far as n hours -/
def misN (C B : V2) (code : List Int) (LN : Nat) (lh ll lf : Nat → Int) (n : Nat) : Bool := anyN LN (lgP (passN C code (n + 1) B) lh ll lf n)
def fitR (C B : V2) (code : List Int) (LN : Nat) (lh ll lf : Nat → Int) : Bool := !anyN 61 (misN C B code LN lh ll lf)
def pFt (r k f i : Nat) : Bool := pP r f i || (Nat.beq f 3000 && Nat.beq i k)
theorem pFt_f {r k f i : Nat} : pFt r k f i = false ↔ pP r f i = false ∧ ¬ (f = 3000 ∧ i = k) := by
  unfold pFt
  rw [Bool.or_eq_false_iff, ← Bool.not_eq_true (_ && Nat.beq i k), Bool.and_eq_true, Nat.beq_eq, Nat.beq_eq]
theorem pFt_o {r k f i : Nat} (h : f < 512 ∨ (518 < f ∧ f < 770) ∨ (771 < f ∧ f < 1155) ∨ (1161 < f ∧ f ≠ 3000)) : pFt r k f i = false := pFt_f.mpr ⟨pP_o (by omega), by omega⟩
theorem anyN_s {p : Nat → Bool} {n : Nat} : anyN (n + 1) p = (anyN n p || p n) := rfl
theorem anyN_ft {p : Nat → Bool} {i n : Nat} (hi : i < n) (hp : p i = true) : anyN n p = true := anyN_t hp hi
theorem m141 {s : S2} {r : Nat} {C B : V2} {code : List Int} {LN k hr : Nat} {lh ll lf : Nat → Int} (h : Hr s 0 r C code) (hy : yv s 160 = B) (hB : YB C B) (hB0 : B 512 0 = 0) (hL : LG s C LN lh ll lf) (hk : s 1408 0 0 = k) (hk7 : k < 7) (hhr : hr ≤ 60) : ∃ s', f141 0 hr s = some (if fitR C B code LN lh ll lf = true then 1 else 0, s') ∧ (fitR C B code LN lh ll lf = true → ∀ l, l < 6 → s' 3000 k l = passN C code (hr + 1) B 513 l) ∧ Fr (pFt r k) s s' := by
  have hC := h.2.2.2.2.2
  unfold f141
  refine inv_cP (a := ((0 : Int), s)) (P := fun e => ∃ s', e = some (if fitR C B code LN lh ll lf = true then (1 : Int) else 0, s') ∧ (fitR C B code LN lh ll lf = true → ∀ l, l < 6 → s' 3000 k l = passN C code (hr + 1) B 513 l) ∧ Fr (pFt r k) s s') (fun (n : Nat) (z : Int × S2) => z.1 = n ∧ anyN n (misN C B code LN lh ll lf) = false ∧ yv z.2 160 = passN C code n B ∧ (hr < n → ∀ l, l < 6 → z.2 3000 k l = passN C code (hr + 1) B 513 l) ∧ Fr (pFt r k) s z.2) (fun (z : S2 ⊕ S2) => match z with
    | .inl z => anyN 61 (misN C B code LN lh ll lf) = true ∧ Fr (pFt r k) s z
    | .inr z => anyN 61 (misN C B code LN lh ll lf) = false ∧ (∀ l, l < 6 → z 3000 k l = passN C code (hr + 1) B 513 l) ∧ Fr (pFt r k) s z) 61 (by decide) ⟨rfl, rfl, hy, fun q => by omega, Fr.rf⟩ ?_ ?_
  · rintro n ⟨x, z⟩ hn ⟨g1, g2, g3, g4, g5⟩
    dsimp only at g1 g2 g3 g4 g5 ⊢
    subst g1
    by_cases e : n = 61
    · subst e
      refine Or.inr ⟨.inr z, ?_, g2, g4 (by omega), g5⟩
      show f141_a 0 hr (61 : Nat) z = _
      unfold f141_a
      rw [if_pos (by omega)]
    · have hz : Hr z 0 r C code := h.fr g5 (pFt_o (by omega)) (pFt_o (by omega)) (pFt_o (by omega)) (pFt_o (by omega)) (fun f g1 g2 => pFt_o (by omega))
      obtain ⟨z1, a1, a2, a3⟩ := m94h (d := 0) hz g3 (passN_YB (code := code) (n := n) hC hB (by omega))
      have A3 : Fr (pFt r k) z z1 := a3.mo fun f i q => (pFt_f.mp q).1
      have hz1 := hz.pP a3
      have hL1 : LG z1 C LN lh ll lf := hL.fr (g5.tr A3) (fun f h1 h2 => pFt_o (by omega)) (fun f h1 h2 => pFt_o (by omega)) (by rw [(g5.tr A3) _ _ (pFt_o (by omega))])
      have q14 : z1 1408 0 0 = k := by rw [(g5.tr A3) _ _ (pFt_o (by omega))]; exact hk
      have e142 : f142 0 n 160 z1 = some (if misN C B code LN lh ll lf n = true then 0 else 1) := m142 hC hz1.2.2.2.2.1 a2 hL1
      have ej : jadd (n : Int) 1 = ((n + 1 : Nat) : Int) := by rw [jadd_e (by omega) (by omega)]; rfl
      have hst : f141_a 0 hr n z = if ¬ (if misN C B code LN lh ll lf n = true then (0 : Int) else 1) = 0 then (if ¬ (n : Int) = hr then some (.inl (((n + 1 : Nat) : Int), z1)) else some (.inl (((n + 1 : Nat) : Int), cp2 z1 513 160 0 3000 k 0 6))) else some (.inr (.inl z1)) := by
        unfold f141_a
        rw [if_neg (by omega), a1, cR_s, e142, cP_s]
        simp only [bnd, ej, q14]
        rw [if_neg (show ¬ (k : Int) < 0 by omega), if_neg (show ¬ (6 : Int) < k by omega), ldr_t (by omega) (by omega), cpy_t (by omega), Int.toNat_natCast]
        rfl
      cases hm : misN C B code LN lh ll lf n with
      | true =>
        right
        refine ⟨.inl z1, ?_, anyN_ft (by omega) hm, g5.tr A3⟩
        show f141_a 0 hr n z = _
        rw [hst, hm, if_neg (by decide)]
      | false =>
        left
        refine ⟨by omega, ?_⟩
        have hany : anyN (n + 1) (misN C B code LN lh ll lf) = false := by rw [anyN_s, g2, hm]; rfl
        by_cases c : n = hr
        · subst c
          refine ⟨(((n + 1 : Nat) : Int), cp2 z1 513 160 0 3000 k 0 6), ?_, rfl, hany, ?_, fun _ l hl => ?_, (g5.tr A3).cp (by simp [pFt])⟩
          · show f141_a 0 n n z = _
            rw [hst, hm, if_pos (by decide), if_neg (fun w => w rfl)]
          · have : Fr (fun f i => Nat.beq f 3000) z1 (cp2 z1 513 160 0 3000 k 0 6) := Fr.rf.cp rfl
            show yv (cp2 z1 513 160 0 3000 k 0 6) 160 = _
            rw [this.yv fun f g1 g2 => by rw [← Bool.not_eq_true, Nat.beq_eq]; omega]
            exact a2
          · show cp2 z1 513 160 0 3000 k 0 6 3000 k l = _
            rw [cp2_in hl, ← yv513 (s := z1) (y := 160) hl, a2]
            rfl
        · refine ⟨(((n + 1 : Nat) : Int), z1), ?_, rfl, hany, a2, fun q l hl => ?_, g5.tr A3⟩
          · show f141_a 0 hr n z = _
            rw [hst, hm, if_pos (by decide), if_pos (by omega)]
          · show z1 3000 k l = _
            rw [a3 _ _ (pP_o (by omega))]
            exact g4 (by omega) l hl
  · rintro (z | z)
    · rintro ⟨g1, g2⟩
      have hf : fitR C B code LN lh ll lf = false := by unfold fitR; rw [g1]; rfl
      refine ⟨z, ?_, fun q => (by rw [hf] at q; cases q), g2⟩
      rw [hf]
      rfl
    · rintro ⟨g1, g2, g3⟩
      have hf : fitR C B code LN lh ll lf = true := by unfold fitR; rw [g1]; rfl
      refine ⟨z, ?_, fun _ => g2, g3⟩
      rw [hf]
      rfl
