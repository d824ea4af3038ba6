theorem seq_P {α β γ : Type} {b : α → Option (α ⊕ γ)} {k : γ → Option β} {P : Option β → Prop} {a : α} (F : Nat → α) (N : Nat) (r : γ) (h0 : F 0 = a) (hN : N < 1000000) (hs : ∀ i, i < N → b (F i) = some (.inl (F (i + 1)))) (he : b (F N) = some (.inr r)) (hk : P (k r)) : P (cP (itr b am_fu a) k) := by
  rw [seq_cP F N r h0 hN hs he rfl]
  exact hk
def oth (n : Nat) (C Y : V2) (f l : Int) : Int := sumI n (fun i => if Y 515 i = l ∧ ¬ C 395 i = f then C 396 i else 0)
theorem oth_e {n : Nat} {C Y : V2} {f l : Int} : lcl n C Y l = cel n C Y f l + oth n C Y f l := by
  unfold lcl cel oth
  rw [← sumI_add]
  refine sumI_congr fun i hi => ?_
  by_cases h : Y 515 i = l <;> by_cases h2 : C 395 i = f <;> simp [h, h2]
theorem oth_bd {C Y : V2} {f l : Int} {n : Nat} (hn : n ≤ 10) (hC : ∀ i, i < 10 → -1 ≤ C 396 i ∧ C 396 i ≤ 4) : -10 ≤ oth n C Y f l ∧ oth n C Y f l ≤ 40 := by
  have := sumI_bd (f := fun i => if Y 515 i = l ∧ ¬ C 395 i = f then C 396 i else 0) (a := -1) (b := 4) (n := n) (fun j hj => by have := hC j (by omega); grind)
  unfold oth; omega
theorem m203_step {C Y : V2} {t : S2} {f l i : Nat} (hC : CB C) (hY : YB C Y) (hR : CR C t) (hV : YR C Y t) (hi : i < 10) (hi2 : (i : Int) < C 389 0) : f203_a f l (cel i C Y f l) (dmp i C Y f l) (wst i C Y f l) (wns i C Y f l) (oth i C Y f l) i t = some (.inl (cel (i + 1) C Y f l, dmp (i + 1) C Y f l, wst (i + 1) C Y f l, wns (i + 1) C Y f l, oth (i + 1) C Y f l, ((i + 1 : Nat) : Int))) := by
  obtain ⟨a1, a2, a3⟩ := hR.2.2.1 i hi hi2
  obtain ⟨a4, a5⟩ := hV.2.2.2.1 i hi hi2
  have e4 := hR.1.2.2.2.2.1
  have hl := hC.len i hi
  have hw := hY.2.1 i hi
  have b1 := cel_bd (C := C) (Y := Y) (f := f) (l := l) (n := i) (by omega) hC.len
  have b2 := dmp_bd (C := C) (Y := Y) (f := f) (l := l) (n := i) (by omega) hC.len
  have b4 := wns_bd (C := C) (Y := Y) (f := f) (l := l) (n := i) (by omega) hY.2.1
  have b5 := oth_bd (C := C) (Y := Y) (f := f) (l := l) (n := i) (by omega) hC.len
  have w0 := wst_bd (C := C) (Y := Y) (f := f) (l := l) (n := i) (by omega) hY.2.1
  have ej : jadd (i : Int) 1 = ((i + 1 : Nat) : Int) := by rw [jadd_e (by omega) (by omega)]; rfl
  unfold f203_a
  rw [ld_t (by omega) (by omega)]
  show (if t 1537 0 4 ≤ _ then _ else _) = _
  rw [e4, if_neg (by omega), ld_t (by omega) (by omega), Int.toNat_natCast, a5]
  have r1 : cel (i + 1) C Y f l = cel i C Y f l + if Y 515 i = l ∧ C 395 i = f then C 396 i else 0 := rfl
  have r2 : dmp (i + 1) C Y f l = dmp i C Y f l + if Y 515 i = l ∧ C 395 i = f then (if 0 < Y 516 i then C 396 i else 0) else 0 := rfl
  have r3 : wst (i + 1) C Y f l = if wst i C Y f l < (if Y 515 i = l ∧ C 395 i = f then Y 516 i else 0) then (if Y 515 i = l ∧ C 395 i = f then Y 516 i else 0) else wst i C Y f l := rfl
  have r4 : wns (i + 1) C Y f l = wns i C Y f l + if Y 515 i = l ∧ C 395 i = f then Y 516 i else 0 := rfl
  have r5 : oth (i + 1) C Y f l = oth i C Y f l + if Y 515 i = l ∧ ¬ C 395 i = f then C 396 i else 0 := rfl
  rw [r1, r2, r3, r4, r5]
  by_cases h : Y 515 i = l
  · by_cases h2 : C 395 i = f
    · simp only [h, h2, jn, not_true_eq_false, if_false, and_self, and_true, and_false, if_true]
      rw [ld_t (by omega) (by omega), Int.toNat_natCast, a1, if_neg (fun q => q h2)]
      rw [ld_t (by omega) (by omega), Int.toNat_natCast, a2, bnd, ld_t (by omega) (by omega), Int.toNat_natCast, a4]
      by_cases h3 : Y 516 i ≤ 0
      · by_cases h4 : Y 516 i ≤ wst i C Y f l
        · simp (disch := omega) only [if_pos, if_neg, bnd, ld_t, Int.toNat_natCast, a4, ej, jadd_e]
          simp
        · exfalso; omega
      · by_cases h4 : Y 516 i ≤ wst i C Y f l
        · simp (disch := omega) only [if_pos, if_neg, bnd, ld_t, Int.toNat_natCast, a4, a2, ej, jadd_e]
          simp
        · simp (disch := omega) only [if_pos, if_neg, bnd, ld_t, Int.toNat_natCast, a4, a2, ej, jadd_e]
          simp
    · simp only [h, h2, jn, not_true_eq_false, not_false_eq_true, if_false, and_self, and_true, and_false, if_true]
      rw [ld_t (by omega) (by omega), Int.toNat_natCast, a1, if_pos h2, ld_t (by omega) (by omega), Int.toNat_natCast, a5, if_neg (fun q => q h), ld_t (by omega) (by omega), Int.toNat_natCast, a2, bnd, bnd, ej, jadd_e (by omega) (by omega), if_neg (by omega)]
      simp
  · simp only [h, jn, not_false_eq_true, if_false, false_and, if_true]
    rw [ld_t (by omega) (by omega), Int.toNat_natCast, a5, if_pos h, bnd, ej, if_neg (by omega)]
    simp
def pK (f i : Nat) : Bool := Nat.beq f 1587 && Nat.beq i 0
theorem pK_f {f i : Nat} : pK f i = false ↔ ¬ (f = 1587 ∧ i = 0) := by
  unfold pK
  rw [← Bool.not_eq_true, Bool.and_eq_true, Nat.beq_eq, Nat.beq_eq]
theorem CR.fr {C : V2} {t t' : S2} {P : Nat → Nat → Bool} (h : CR C t) (e : Fr P t t') (h1 : P 1537 0 = false ∨ t' 1537 0 = t 1537 0) (h2 : ∀ f, 1540 ≤ f → f ≤ 1543 → P f 0 = false) (h3 : P 1545 0 = false) (h4 : P 1546 0 = false) (h5 : P 1555 0 = false) (h6 : P 1549 0 = false) (h7 : P 1550 0 = false) : CR C t' := by
  have e1 : t' 1537 0 = t 1537 0 := h1.elim (fun q => e _ _ q) id
  unfold CR
  rw [e1, e 1540 0 (h2 1540 (by omega) (by omega)), e 1541 0 (h2 1541 (by omega) (by omega)), e 1542 0 (h2 1542 (by omega) (by omega)), e 1543 0 (h2 1543 (by omega) (by omega)), e 1545 0 h3, e 1546 0 h4, e 1555 0 h5, e 1549 0 h6, e 1550 0 h7]
  exact h
theorem YR.fr {C Y : V2} {t t' : S2} {P : Nat → Nat → Bool} (h : YR C Y t) (e : Fr P t t') (h1 : P 1537 0 = false) (h2 : P 1544 0 = false) (h3 : P 1547 0 = false) (h4 : P 1548 0 = false) (h5 : P 1538 0 = false) (h6 : P 1539 0 = false) : YR C Y t' := by
  unfold YR
  rw [e _ _ h1, e _ _ h2, e _ _ h3, e _ _ h4, e _ _ h5, e _ _ h6]
  exact h
theorem m203 {C Y : V2} {t : S2} {f l : Nat} (hC : CB C) (hY : YB C Y) (hR : CR C t) (hV : YR C Y t) (hd : t 1589 0 0 = 0 ∨ t 1589 0 0 = 1) (hf : f < 4) (hf2 : (f : Int) < C 387 0) (hl : l < 6) (hl2 : (l : Int) < C 388 0) : ∃ t', f203 f l t = some t' ∧ (∀ w : Nat, w < 13 → t' 1587 0 w = vls C Y (rainI C Y (t 1589 0 0)) f l (256 + w)) ∧ Fr pK t t' := by
  have hcc := hC.1
  have hh := hY.2.2.2.2.1
  have c1 : cel 10 C Y f l = cel (C 389 0).toNat C Y f l := sumI_cut (by omega) (fun i h1 h2 => by
    have := hY.1 i h2
    rw [if_neg (by omega)])
  have c2 : dmp 10 C Y f l = dmp (C 389 0).toNat C Y f l := sumI_cut (by omega) (fun i h1 h2 => by
    have := hY.1 i h2
    rw [if_neg (by omega)])
  have c3 : wst 10 C Y f l = wst (C 389 0).toNat C Y f l := maxN_cut (by omega) (fun i h1 h2 => by
    have := hY.1 i h2
    rw [if_neg (by omega)])
  have c4 : wns 10 C Y f l = wns (C 389 0).toNat C Y f l := sumI_cut (by omega) (fun i h1 h2 => by
    have := hY.1 i h2
    rw [if_neg (by omega)])
  have c5 : oth 10 C Y f l = oth (C 389 0).toNat C Y f l := sumI_cut (by omega) (fun i h1 h2 => by
    have := hY.1 i h2
    rw [if_neg (by omega)])
  have c6 : lcl 10 C Y l - cel 10 C Y f l = oth 10 C Y f l := by
    have := oth_e (n := 10) (C := C) (Y := Y) (f := f) (l := l)
    omega
  have b1 := cel_bd (C := C) (Y := Y) (f := f) (l := l) (n := 10) (by omega) hC.len
  have b2 := dmp_bd (C := C) (Y := Y) (f := f) (l := l) (n := 10) (by omega) hC.len
  have b4 := wns_bd (C := C) (Y := Y) (f := f) (l := l) (n := 10) (by omega) hY.2.1
  have b5 := oth_bd (C := C) (Y := Y) (f := f) (l := l) (n := 10) (by omega) hC.len
  have b3 := wst_bd (C := C) (Y := Y) (f := f) (l := l) (n := 10) (by omega) hY.2.1
  have q1 := (hR.2.1 l hl hl2).2.2.1
  have q2 := hV.2.2.1 l hl hl2
  obtain ⟨q3, q4⟩ := hV.2.2.2.2 f hf hf2
  have q5 := hV.1
  have b6 := hC.2.2.2.1 l hl
  have b7 := hY.2.2.2.2.2 f hf
  unfold f203
  have H : ∀ (S : S2), Fr pK t S → (∀ w : Nat, w < 12 → S 1587 0 w = vls C Y (rainI C Y (t 1589 0 0)) f l (256 + w)) → ∃ t', (cP (f204 (Y 512 0) S) fun r54 => jn (fun (x55 : Int) => sto S 1587 0 13 12 x55 fun s56 => some s56) fun j321 => if r54 = 0 then (j321 0) else j321 1) = some t' ∧ (∀ w : Nat, w < 13 → t' 1587 0 w = vls C Y (rainI C Y (t 1589 0 0)) f l (256 + w)) ∧ Fr pK t t' := by
    intro S hF hS
    have hR' := hR.fr hF (Or.inl (by decide)) (fun f h1 h2 => pK_f.mpr (by omega)) (by decide) (by decide) (by decide) (by decide) (by decide)
    have e9 : S 1589 0 0 = t 1589 0 0 := by rw [hF 1589 0 (by decide)]
    rw [m204 hC hR' ⟨by omega, by omega⟩ (by rw [e9]; exact hd), cP_s, e9]
    refine ⟨st2 S 1587 0 12 (rainI C Y (t 1589 0 0)), ?_, fun w hw => ?_, hF.st rfl⟩
    · unfold rainI
      simp only [jn]
      by_cases hq : ¬ t 1589 0 0 = 0 ∨ rainB C (Y 512 0) = true
      · rw [if_pos hq, if_neg ne10, sto_t (by omega) (by omega)]
        rfl
      · rw [if_neg hq, if_pos rfl, sto_t (by omega) (by omega)]
        rfl
    · by_cases h12 : w = 12
      · subst h12
        rw [st2_eq]
        unfold rainI vls
        by_cases hq : ¬ t 1589 0 0 = 0 ∨ rainB C (Y 512 0) = true <;> simp [hq]
      · rw [st2_ne (by omega)]
        exact hS w (by omega)
  refine seq_P (P := fun e => ∃ t', e = some t' ∧ (∀ w : Nat, w < 13 → t' 1587 0 w = vls C Y (rainI C Y (t 1589 0 0)) f l (256 + w)) ∧ Fr pK t t') (fun i => (cel i C Y f l, dmp i C Y f l, wst i C Y f l, wns i C Y f l, oth i C Y f l, (i : Int))) (C 389 0).toNat (cel 10 C Y f l, dmp 10 C Y f l, wst 10 C Y f l, wns 10 C Y f l, oth 10 C Y f l) rfl (by omega) ?_ ?_ ?_
  · intro i hi
    exact m203_step hC hY hR hV (by omega) (by omega)
  · show f203_a f l (cel (C 389 0).toNat C Y f l) (dmp (C 389 0).toNat C Y f l) (wst (C 389 0).toNat C Y f l) (wns (C 389 0).toNat C Y f l) (oth (C 389 0).toNat C Y f l) ((C 389 0).toNat : Int) t = _
    unfold f203_a
    rw [ld_t (by omega) (by omega)]
    show (if t 1537 0 4 ≤ _ then _ else _) = _
    rw [hR.1.2.2.2.2.1, if_pos (by omega), c1, c2, c3, c4, c5]
  · have hv : ∀ (S : S2), Fr pK t S → (∀ w : Nat, w < 8 → S 1587 0 w = vls C Y (rainI C Y (t 1589 0 0)) f l (256 + w)) → ∃ t', (ld S 1544 0 6 l fun v44 => jn (fun (x45 : Int) => sto S 1587 0 13 8 x45 fun s46 => ld s46 1538 0 4 f fun v47 => sto s46 1587 0 13 9 (ji2l v47) fun s48 => ld s48 1539 0 4 f fun v49 => sto s48 1587 0 13 10 (ji2l v49) fun s50 => ld s50 1537 0 11 7 fun v51 => sto s50 1587 0 13 11 (ji2l v51) fun s52 => ld s52 1537 0 11 7 fun v53 => cP (f204 v53 s52) fun r54 => jn (fun (x55 : Int) => sto s52 1587 0 13 12 x55 fun s56 => some s56) fun j321 => if r54 = 0 then (j321 0) else j321 1) fun j252 => if ¬ v44 = f then (j252 0) else j252 1) = some t' ∧ (∀ w : Nat, w < 13 → t' 1587 0 w = vls C Y (rainI C Y (t 1589 0 0)) f l (256 + w)) ∧ Fr pK t t' := by
      intro S hF hS
      have g1 : S 1544 0 l = Y 513 l := by rw [hF 1544 0 (by decide)]; exact q2
      have g2 : S 1538 0 f = Y 517 f := by rw [hF 1538 0 (by decide)]; exact q3
      have g3 : S 1539 0 f = Y 518 f := by rw [hF 1539 0 (by decide)]; exact q4
      have g4 : S 1537 0 7 = Y 512 0 := by rw [hF 1537 0 (by decide)]; exact q5
      have K : ∀ x : Int, x = (if Y 513 l = f then 1 else 0) → ∃ t', (sto S 1587 0 13 8 x fun s46 => ld s46 1538 0 4 f fun v47 => sto s46 1587 0 13 9 (ji2l v47) fun s48 => ld s48 1539 0 4 f fun v49 => sto s48 1587 0 13 10 (ji2l v49) fun s50 => ld s50 1537 0 11 7 fun v51 => sto s50 1587 0 13 11 (ji2l v51) fun s52 => ld s52 1537 0 11 7 fun v53 => cP (f204 v53 s52) fun r54 => jn (fun (x55 : Int) => sto s52 1587 0 13 12 x55 fun s56 => some s56) fun j321 => if r54 = 0 then (j321 0) else j321 1) = some t' ∧ (∀ w : Nat, w < 13 → t' 1587 0 w = vls C Y (rainI C Y (t 1589 0 0)) f l (256 + w)) ∧ Fr pK t t' := by
        intro x hx
        rw [sto_t (by omega) (by omega), ld_t (by omega) (by omega), sto_t (by omega) (by omega), ld_t (by omega) (by omega), sto_t (by omega) (by omega), ld_t (by omega) (by omega), sto_t (by omega) (by omega), ld_t (by omega) (by omega)]
        simp only [Int.toNat_natCast, st2_row (show (1538 : Nat) ≠ 1587 ∨ (0 : Nat) ≠ 0 by omega), st2_row (show (1539 : Nat) ≠ 1587 ∨ (0 : Nat) ≠ 0 by omega), st2_row (show (1537 : Nat) ≠ 1587 ∨ (0 : Nat) ≠ 0 by omega), g2, g3]
        rw [show S 1537 0 (Int.toNat 7) = Y 512 0 from g4]
        refine H _ ((((hF.st rfl).st rfl).st rfl).st rfl) (fun w hw => ?_)
        have e8 : vls C Y (rainI C Y (t 1589 0 0)) f l (256 + (8 : Nat)) = x := by rw [hx]; rfl
        have e9 : vls C Y (rainI C Y (t 1589 0 0)) f l (256 + (9 : Nat)) = ji2l (Y 517 f) := rfl
        have e10 : vls C Y (rainI C Y (t 1589 0 0)) f l (256 + (10 : Nat)) = ji2l (Y 518 f) := by rw [ji2l_e (by omega) (by omega)]; rfl
        have e11 : vls C Y (rainI C Y (t 1589 0 0)) f l (256 + (11 : Nat)) = ji2l (Y 512 0) := by rw [ji2l_e (by omega) (by omega)]; rfl
        have hw4 : w < 8 ∨ w = 8 ∨ w = 9 ∨ w = 10 ∨ w = 11 := by omega
        rcases hw4 with h8 | rfl | rfl | rfl | rfl
        · have h1 : w ≠ 8 := by omega
          have h2 : w ≠ 9 := by omega
          have h3 : w ≠ 10 := by omega
          have h4 : w ≠ 11 := by omega
          simp [st2_d, h1, h2, h3, h4, hS w h8]
        · rw [e8]; simp [st2_d]
        · rw [e9]; simp [st2_d]
        · rw [e10]; simp [st2_d]
        · rw [e11]; simp [st2_d]
      rw [ld_t (by omega) (by omega), Int.toNat_natCast, g1]
      simp only [jn]
      by_cases hh2 : Y 513 l = f
      · rw [if_neg (fun q => q hh2)]
        exact K 1 (by rw [if_pos hh2])
      · rw [if_pos hh2]
        exact K 0 (by rw [if_neg hh2])
    show ∃ t', (sto t 1587 0 13 0 (ji2l f) fun s35 => _) = some t' ∧ _
    rw [sto_t (by omega) (by omega), sto_t (by omega) (by omega), ld_t (by omega) (by omega), sto_t (by omega) (by omega), sto_t (by omega) (by omega), sto_t (by omega) (by omega), sto_t (by omega) (by omega), sto_t (by omega) (by omega), sto_t (by omega) (by omega)]
    simp only [Int.toNat_natCast, st2_row (show (1542 : Nat) ≠ 1587 ∨ (0 : Nat) ≠ 0 by omega), q1]
    refine hv _ ((((((((Fr.rf.st rfl).st rfl).st rfl).st rfl).st rfl).st rfl).st rfl).st rfl) (fun w hw => ?_)
    have hw8 : w = 0 ∨ w = 1 ∨ w = 2 ∨ w = 3 ∨ w = 4 ∨ w = 5 ∨ w = 6 ∨ w = 7 := by omega
    have e0 : vls C Y (rainI C Y (t 1589 0 0)) f l (256 + (0 : Nat)) = ji2l f := by rw [ji2l_e (by omega) (by omega)]; rfl
    have e1 : vls C Y (rainI C Y (t 1589 0 0)) f l (256 + (1 : Nat)) = ji2l l := by rw [ji2l_e (by omega) (by omega)]; rfl
    have e2 : vls C Y (rainI C Y (t 1589 0 0)) f l (256 + (2 : Nat)) = ji2l (C 393 l) := by rw [ji2l_e (by omega) (by omega)]; rfl
    have e3 : vls C Y (rainI C Y (t 1589 0 0)) f l (256 + (3 : Nat)) = ji2l (cel 10 C Y f l) := by rw [ji2l_e (by omega) (by omega)]; rfl
    have e4 : vls C Y (rainI C Y (t 1589 0 0)) f l (256 + (4 : Nat)) = ji2l (dmp 10 C Y f l) := by rw [ji2l_e (by omega) (by omega)]; rfl
    have e5 : vls C Y (rainI C Y (t 1589 0 0)) f l (256 + (5 : Nat)) = ji2l (wst 10 C Y f l) := by rw [ji2l_e (by omega) (by omega)]; rfl
    have e6 : vls C Y (rainI C Y (t 1589 0 0)) f l (256 + (6 : Nat)) = ji2l (wns 10 C Y f l) := by rw [ji2l_e (by omega) (by omega)]; rfl
    have e7 : vls C Y (rainI C Y (t 1589 0 0)) f l (256 + (7 : Nat)) = ji2l (oth 10 C Y f l) := by rw [ji2l_e (by omega) (by omega), ← c6]; rfl
    rcases hw8 with rfl | rfl | rfl | rfl | rfl | rfl | rfl | rfl
    · rw [e0]; simp [st2_d]
    · rw [e1]; simp [st2_d]
    · rw [e2]; simp [st2_d]
    · rw [e3]; simp [st2_d]
    · rw [e4]; simp [st2_d]
    · rw [e5]; simp [st2_d]
    · rw [e6]; simp [st2_d]
    · rw [e7]; simp [st2_d]
