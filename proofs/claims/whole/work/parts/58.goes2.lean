def pGc (f i : Nat) : Bool := Nat.beq f 1547 && Nat.beq i 0
theorem pGc_f {f i : Nat} : pGc f i = false ↔ ¬ (f = 1547 ∧ i = 0) := by
  unfold pGc
  rw [← Bool.not_eq_true, Bool.and_eq_true, Nat.beq_eq, Nat.beq_eq]
theorem m222c {C Y : V2} {rain : Int} {t : S2} (hC : CB C) (hY : YB C Y) (h : CR C t) (h6 : ∀ n : Nat, n < 10 → (n : Int) < C 389 0 → t 1547 0 n = Y 516 n ∧ t 1548 0 n = Y 515 n) : ∃ t', itr (fun (x31, s32) => f222_c rain x31 s32) am_fu (0, t) = some t' ∧ Fr pGc t t' ∧ ∀ n : Nat, n < 10 → (n : Int) < C 389 0 → t' 1547 0 n = wetS C rain (Y 515 n) (Y 516 n) := by
  have hcc := hC.1
  have hss := hC.2.2.2.2.2.2.2.2
  refine itr_inv (fun (i : Nat) (z : Int × S2) => z.1 = i ∧ Fr pGc t z.2 ∧ ∀ n : Nat, n < 10 → (n : Int) < C 389 0 → z.2 1547 0 n = if n < i then wetS C rain (Y 515 n) (Y 516 n) else Y 516 n) (fun (z : S2) => Fr pGc t z ∧ ∀ n : Nat, n < 10 → (n : Int) < C 389 0 → z 1547 0 n = wetS C rain (Y 515 n) (Y 516 n)) (C 389 0).toNat ?_ am_fu (fu_lt (by omega)) (0, t) ⟨rfl, Fr.rf, fun n h1 h2 => by rw [if_neg (by omega)]; exact (h6 n h1 h2).1⟩
  rintro i ⟨x, z⟩ hi ⟨g1, hF, g2⟩
  dsimp only at g1 hF g2 ⊢
  subst g1
  have q0 : z 1537 0 4 = C 389 0 := by rw [hF 1537 0 (pGc_f.mpr (by omega))]; exact h.1.2.2.2.2.1
  by_cases e : i = (C 389 0).toNat
  · refine Or.inr ⟨z, ?_, hF, fun n h1 h2 => ?_⟩
    · show f222_c rain i z = _
      unfold f222_c
      rw [ld_t (by omega) (by omega), show z 1537 0 (Int.toNat 4) = C 389 0 from q0, if_pos (by omega)]
    · rw [g2 n h1 h2, if_pos (by omega)]
  · refine Or.inl ⟨by omega, ?_⟩
    have hi10 : i < 10 := by omega
    have hil : (i : Int) < C 389 0 := by omega
    have q1 : z 1548 0 i = Y 515 i := by rw [hF 1548 0 (pGc_f.mpr (by omega))]; exact (h6 i hi10 hil).2
    have q2 : z 1547 0 i = Y 516 i := by rw [g2 i hi10 hil, if_neg (by omega)]
    have q3 : z 1537 0 0 = C 385 0 := by rw [hF 1537 0 (pGc_f.mpr (by omega))]; exact h.1.1
    have q4 : z 1537 0 1 = C 386 0 := by rw [hF 1537 0 (pGc_f.mpr (by omega))]; exact h.1.2.1
    have hw := hY.2.1 i hi10
    have ej : jadd (i : Int) 1 = ((i + 1 : Nat) : Int) := by rw [jadd_e (by omega) (by omega)]; rfl
    have hst : f222_c rain i z = some (.inl (((i + 1 : Nat) : Int), if Y 515 i = -1 then z else st2 z 1547 0 i (wetS C rain (Y 515 i) (Y 516 i)))) := by
      unfold f222_c
      rw [ld_t (by omega) (by omega), show z 1537 0 (Int.toNat 4) = C 389 0 from q0, if_neg (by omega), ld_t (by omega) (by omega), Int.toNat_natCast, q1]
      by_cases h1 : Y 515 i = -1
      · rw [if_pos h1]
        simp only [jn, h1, if_true]
        rw [ld_t (by omega) (by omega), Int.toNat_natCast, q1, if_pos h1, bnd, ej]
      · rw [if_neg h1]
        unfold wetS
        rw [if_neg h1]
        by_cases h2 : rain = 0
        · rw [if_pos h2]
          simp only [jn, h1, h2, if_true, if_false]
          rw [ld_t (by omega) (by omega), Int.toNat_natCast, q1, if_neg h1, ld_t (by omega) (by omega), Int.toNat_natCast, q2, ld_t (by omega) (by omega), show z 1537 0 (Int.toNat 0) = C 385 0 from q3]
          by_cases h3 : Y 516 i ≤ C 385 0
          · rw [if_pos h3, sto_t (by omega) (by omega), Int.toNat_natCast, bnd, ej, if_neg (by omega)]
          · rw [if_neg h3, ld_t (by omega) (by omega), Int.toNat_natCast, q2, ld_t (by omega) (by omega), show z 1537 0 (Int.toNat 0) = C 385 0 from q3, sto_t (by omega) (by omega), Int.toNat_natCast, bnd, ej, if_pos (by omega), jsub_e (by omega) (by omega)]
        · rw [if_neg h2]
          simp only [jn, h1, h2, if_false]
          rw [ld_t (by omega) (by omega), Int.toNat_natCast, q2, ld_t (by omega) (by omega), show z 1537 0 (Int.toNat 1) = C 386 0 from q4]
          by_cases h3 : C 386 0 ≤ Y 516 i
          · rw [if_pos h3, ld_t (by omega) (by omega), Int.toNat_natCast, q2, sto_t (by omega) (by omega), Int.toNat_natCast, bnd, ej, if_neg (by omega)]
          · rw [if_neg h3, ld_t (by omega) (by omega), show z 1537 0 (Int.toNat 1) = C 386 0 from q4, sto_t (by omega) (by omega), Int.toNat_natCast, bnd, ej, if_pos (by omega)]
    refine ⟨_, hst, rfl, ?_, fun n h1 h2 => ?_⟩
    · dsimp only
      by_cases h1 : Y 515 i = -1
      · rw [if_pos h1]; exact hF
      · rw [if_neg h1]; exact hF.st rfl
    · dsimp only
      by_cases hk2 : n = i
      · subst hk2
        rw [if_pos (show n < n + 1 by omega)]
        by_cases h3 : Y 515 n = -1
        · rw [if_pos h3, q2]
          unfold wetS
          rw [if_pos h3]
        · rw [if_neg h3, st2_eq]
      · have : (if Y 515 i = -1 then z else st2 z 1547 0 i (wetS C rain (Y 515 i) (Y 516 i))) 1547 0 n = z 1547 0 n := by
          by_cases h3 : Y 515 i = -1
          · rw [if_pos h3]
          · rw [if_neg h3, st2_ne (by omega)]
        rw [this, g2 n h1 h2]
        by_cases hk3 : n < i
        · rw [if_pos hk3, if_pos (by omega)]
        · rw [if_neg hk3, if_neg (by omega)]
def pG (f i : Nat) : Bool := (Nat.beq f 1587 || Nat.beq f 1588 || Nat.beq f 1590 || Nat.beq f 1544 || Nat.beq f 1539 || Nat.beq f 1547 || Nat.beq f 1537) && Nat.beq i 0
theorem pG_f {f i : Nat} : pG f i = false ↔ ¬ ((f = 1587 ∨ f = 1588 ∨ f = 1590 ∨ f = 1544 ∨ f = 1539 ∨ f = 1547 ∨ f = 1537) ∧ i = 0) := by
  unfold pG
  rw [← Bool.not_eq_true, Bool.and_eq_true, Bool.or_eq_true, Bool.or_eq_true, Bool.or_eq_true, Bool.or_eq_true, Bool.or_eq_true, Bool.or_eq_true, Nat.beq_eq, Nat.beq_eq, Nat.beq_eq, Nat.beq_eq, Nat.beq_eq, Nat.beq_eq, Nat.beq_eq, Nat.beq_eq]
  grind
theorem m222 {C Y : V2} {code : List Int} {d : Int} {t : S2} (hC : CB C) (hY : YB C Y) (h : MS C Y code d t) : ∃ t', f222 t = some (passG C Y (rainI C Y d) code, t') ∧ MS C (passY C Y (rainI C Y d) code) code d t' ∧ Fr pG t t' ∧ ∀ k, k ≠ 7 → t' 1537 0 k = t 1537 0 k := by
  have hcc := hC.1
  have hh := hY.2.2.2.2.1
  obtain ⟨t1, a1, a2, a3⟩ := m222a hC hY h
  have h1 := h.fr a2 (fun f g1 g2 g3 g4 => pOa_f.mpr (by omega))
  have hO : ∀ k : Nat, (k : Int) < C 388 0 → own C Y (rainI C Y d) code k = -1 ∨ (0 ≤ own C Y (rainI C Y d) code k ∧ own C Y (rainI C Y d) code k < C 387 0) := fun k hk => by
    have := own_bd (C := C) (Y := Y) (rain := rainI C Y d) (code := code) (l := k) hC
    omega
  obtain ⟨⟨g, t2⟩, b1, b2, b3, b4, b5⟩ := m222b hC hY h1.1 h1.2.1 a3 hO
  dsimp only at b2 b3 b4 b5
  have c2 : CR C t2 := h1.1.fr b3 (Or.inl (pGb_f.mpr (by omega))) (fun f g1 g2 => pGb_f.mpr (by omega)) (pGb_f.mpr (by omega)) (pGb_f.mpr (by omega)) (pGb_f.mpr (by omega)) (pGb_f.mpr (by omega)) (pGb_f.mpr (by omega))
  have d2 : t2 1589 0 0 = d := by rw [b3 1589 0 (pGb_f.mpr (by omega))]; exact h1.2.2.2.1
  have e2 : t2 1537 0 7 = Y 512 0 := by rw [b3 1537 0 (pGb_f.mpr (by omega))]; exact h1.2.1.1
  have e204 : f204 (Y 512 0) t2 = some (rainI C Y d) := by
    rw [m204 hC c2 ⟨by omega, by omega⟩ (by rw [d2]; exact h.2.2.2.2), d2]
    rfl
  have hw : ∀ n : Nat, n < 10 → (n : Int) < C 389 0 → t2 1547 0 n = Y 516 n ∧ t2 1548 0 n = Y 515 n := fun n g1 g2 => by
    rw [b3 1547 0 (pGb_f.mpr (by omega)), b3 1548 0 (pGb_f.mpr (by omega))]
    exact h1.2.1.2.2.2.1 n g1 g2
  obtain ⟨t3, k1, k2, k3⟩ := m222c (rain := rainI C Y d) hC hY c2 hw
  have e3 : t3 1537 0 7 = Y 512 0 := by rw [k2 1537 0 (pGc_f.mpr (by omega))]; exact e2
  have hF3 : Fr pG t t3 := ((a2.mo fun f i hp => pOa_f.mpr (by have := pG_f.mp hp; omega)).tr (b3.mo fun f i hp => pGb_f.mpr (by have := pG_f.mp hp; omega))).tr (k2.mo fun f i hp => pGc_f.mpr (by have := pG_f.mp hp; omega))
  have e37 : t3 1537 0 = t 1537 0 := by rw [k2 1537 0 (pGc_f.mpr (by omega)), b3 1537 0 (pGb_f.mpr (by omega)), a2 1537 0 (pOa_f.mpr (by omega))]
  have s1 : sumI (C 388 0).toNat (fun l => if own C Y (rainI C Y d) code l = -1 then 0 else C 393 l) = passG C Y (rainI C Y d) code := by
    refine (sumI_cut (by omega) (fun i g1 g2 => ?_)).symm
    rw [if_pos]
    have := own_bd (C := C) (Y := Y) (rain := rainI C Y d) (code := code) (l := i) hC
    omega
  have s2 : ∀ f : Nat, sumI (C 388 0).toNat (fun l => if own C Y (rainI C Y d) code l = f then C 393 l else 0) = sumI 6 (fun l => if own C Y (rainI C Y d) code l = f then C 393 l else 0) := fun f => by
    refine (sumI_cut (by omega) (fun i g1 g2 => ?_)).symm
    rw [if_neg]
    have := own_bd (C := C) (Y := Y) (rain := rainI C Y d) (code := code) (l := i) hC
    omega
  refine ⟨st2 t3 1537 0 7 (Y 512 0 + 1), ?_, ⟨?_, ⟨?_, ?_, ?_, ?_, ?_⟩, ?_, ?_, h.2.2.2.2⟩, hF3.st rfl, fun k hk => ?_⟩
  · unfold f222
    rw [a1, cP_s, b1, cP_s]
    show (ld t2 1537 0 11 7 fun v27 => _) = _
    rw [ld_t (by omega) (by omega), show t2 1537 0 (Int.toNat 7) = Y 512 0 from e2, e204, cP_s, k1, cP_s, ld_t (by omega) (by omega), show t3 1537 0 (Int.toNat 7) = Y 512 0 from e3, sto_t (by omega) (by omega), jadd_e (by omega) (by omega), b2, s1]
    rfl
  · have hq := h.1
    unfold CR at hq ⊢
    have eq1 : ∀ k, k ≠ 7 → st2 t3 1537 0 7 (Y 512 0 + 1) 1537 0 k = t 1537 0 k := fun k hk => by rw [st2_ne (by omega), e37]
    have eq2 : ∀ f, (1540 ≤ f ∧ f ≤ 1543) ∨ f = 1545 ∨ f = 1546 ∨ f = 1555 ∨ f = 1549 ∨ f = 1550 → st2 t3 1537 0 7 (Y 512 0 + 1) f 0 = t f 0 := fun f hf => by rw [st2_row (by omega), hF3 f 0 (pG_f.mpr (by omega))]
    rw [eq1 0 (by decide), eq1 1 (by decide), eq1 2 (by decide), eq1 3 (by decide), eq1 4 (by decide), eq1 5 (by decide), eq2 1540 (by omega), eq2 1541 (by omega), eq2 1542 (by omega), eq2 1543 (by omega), eq2 1545 (by omega), eq2 1546 (by omega), eq2 1555 (by omega), eq2 1549 (by omega), eq2 1550 (by omega)]
    exact hq
  · rw [st2_eq]
    exact ((nY_t yr512).trans rfl : passY C Y (rainI C Y d) code 512 0 = Y 512 0 + 1).symm
  · rw [st2_ne (by omega), e37, h.2.1.2.1]
    unfold cutV
    have : ∀ l, l < 6 → passY C Y (rainI C Y d) code 514 l = Y 514 l := fun l hl => (nY_t (yr514 hl)).trans rfl
    rw [this 0 (by omega), this 1 (by omega), this 2 (by omega), this 3 (by omega), this 4 (by omega), this 5 (by omega)]
  · intro l hl hl2
    have : passY C Y (rainI C Y d) code 513 l = own C Y (rainI C Y d) code l := (nY_t (yr513 hl)).trans rfl
    rw [this, st2_ne (by omega), k2 1544 0 (pGc_f.mpr (by omega)), b4 l hl2]
  · intro n hn hn2
    have p1 : passY C Y (rainI C Y d) code 516 n = wetS C (rainI C Y d) (Y 515 n) (Y 516 n) := (nY_t (yr516 hn)).trans rfl
    have p2 : passY C Y (rainI C Y d) code 515 n = Y 515 n := (nY_t (yr515 hn)).trans rfl
    rw [p1, p2, st2_ne (by omega), st2_ne (by omega), k3 n hn hn2, k2 1548 0 (pGc_f.mpr (by omega))]
    exact ⟨rfl, (hw n hn hn2).2⟩
  · intro f hf hf2
    have p1 : passY C Y (rainI C Y d) code 517 f = Y 517 f := (nY_t (yr517 hf)).trans rfl
    have p2 : passY C Y (rainI C Y d) code 518 f = Y 518 f + sumI 6 (fun l => if own C Y (rainI C Y d) code l = f then C 393 l else 0) := (nY_t (yr518 hf)).trans rfl
    rw [p1, p2, st2_ne (by omega), st2_ne (by omega), k2 1539 0 (pGc_f.mpr (by omega)), b5 f hf hf2, s2, hF3 1538 0 (pG_f.mpr (by omega))]
    exact ⟨(h.2.1.2.2.2.2 f hf hf2).1, rfl⟩
  · refine h.2.2.1.fr (hF3.st rfl) ?_ (fun f g1 g2 => pG_f.mpr (by omega))
    rw [st2_ne (by omega), e37]
  · rw [st2_ne (by omega), hF3 1589 0 (pG_f.mpr (by omega))]
    exact h.2.2.2.1
  · rw [st2_ne (by omega), e37]
