def pOa (f i : Nat) : Bool := (Nat.beq f 1587 || Nat.beq f 1588 || Nat.beq f 1590) && Nat.beq i 0
theorem pOa_f {f i : Nat} : pOa f i = false ↔ ¬ ((f = 1587 ∨ f = 1588 ∨ f = 1590) ∧ i = 0) := by
  unfold pOa
  rw [← Bool.not_eq_true, Bool.and_eq_true, Bool.or_eq_true, Bool.or_eq_true, Nat.beq_eq, Nat.beq_eq, Nat.beq_eq, Nat.beq_eq]
  grind
theorem m222a {C Y : V2} {code : List Int} {d : Int} {t : S2} (hC : CB C) (hY : YB C Y) (h : MS C Y code d t) : ∃ t', itr (fun (x2, s3) => f222_a x2 s3) am_fu (0, t) = some t' ∧ Fr pOa t t' ∧ ∀ l : Nat, (l : Int) < C 388 0 → t' 1590 0 l = own C Y (rainI C Y d) code l := by
  have hcc := hC.1
  refine itr_inv (fun (i : Nat) (z : Int × S2) => z.1 = i ∧ Fr pOa t z.2 ∧ ∀ k, k < i → z.2 1590 0 k = own C Y (rainI C Y d) code k) (fun (z : S2) => Fr pOa t z ∧ ∀ l : Nat, (l : Int) < C 388 0 → z 1590 0 l = own C Y (rainI C Y d) code l) (C 388 0).toNat ?_ am_fu (fu_lt (by omega)) (0, t) ⟨rfl, Fr.rf, fun k hk => by omega⟩
  rintro i ⟨x, z⟩ hi ⟨g1, hF, g2⟩
  dsimp only at g1 hF g2 ⊢
  subst g1
  have hz := h.fr hF (fun f h1 h2 h3 h4 => pOa_f.mpr (by omega))
  have q1 : z 1537 0 3 = C 388 0 := hz.1.1.2.2.2.1
  by_cases e : i = (C 388 0).toNat
  · refine Or.inr ⟨z, ?_, hF, fun l hl => g2 l (by omega)⟩
    show f222_a i z = _
    unfold f222_a
    rw [ld_t (by omega) (by omega), show z 1537 0 (Int.toNat 3) = C 388 0 from q1, if_pos (by omega)]
  · refine Or.inl ⟨by omega, ?_⟩
    obtain ⟨z', k1, k2⟩ := m200 (l := i) hC hY hz (by omega) (by omega)
    refine ⟨(((i + 1 : Nat) : Int), st2 z' 1590 0 i (own C Y (rainI C Y d) code i)), ?_, rfl, (hF.tr (k2.mo fun f j h => pO_f.mpr (by have := pOa_f.mp h; omega))).st (by simp [pOa]), fun k hk => ?_⟩
    · show f222_a i z = _
      unfold f222_a
      rw [ld_t (by omega) (by omega), show z 1537 0 (Int.toNat 3) = C 388 0 from q1, if_neg (by omega), k1, cR_s, sto_t (by omega) (by omega), Int.toNat_natCast, bnd, jadd_e (by omega) (by omega)]
      rfl
    · dsimp only
      rw [st2_d]
      by_cases hk2 : k = i
      · rw [if_pos ⟨rfl, rfl, hk2⟩, hk2]
      · rw [if_neg (by omega), k2 1590 0 (pO_f.mpr (by omega)), g2 k (by omega)]
def pGb (f i : Nat) : Bool := (Nat.beq f 1544 || Nat.beq f 1539) && Nat.beq i 0
theorem pGb_f {f i : Nat} : pGb f i = false ↔ ¬ ((f = 1544 ∨ f = 1539) ∧ i = 0) := by
  unfold pGb
  rw [← Bool.not_eq_true, Bool.and_eq_true, Bool.or_eq_true, Nat.beq_eq, Nat.beq_eq, Nat.beq_eq]
theorem m222b {C Y : V2} {t : S2} {O : Nat → Int} (hC : CB C) (hY : YB C Y) (h : CR C t) (hV : YR C Y t) (hO : ∀ l : Nat, (l : Int) < C 388 0 → t 1590 0 l = O l) (hOb : ∀ k : Nat, (k : Int) < C 388 0 → O k = -1 ∨ (0 ≤ O k ∧ O k < C 387 0)) : ∃ r, itr (fun (x10, x11, s12) => f222_b x10 x11 s12) am_fu (0, 0, t) = some r ∧ r.1 = sumI (C 388 0).toNat (fun l => if O l = -1 then 0 else C 393 l) ∧ Fr pGb t r.2 ∧ (∀ k : Nat, (k : Int) < C 388 0 → r.2 1544 0 k = O k) ∧ ∀ f : Nat, f < 4 → (f : Int) < C 387 0 → r.2 1539 0 f = Y 518 f + sumI (C 388 0).toNat (fun l => if O l = f then C 393 l else 0) := by
  have hcc := hC.1
  have hb : ∀ i, i ≤ 6 → -6 ≤ sumI i (fun l => if O l = -1 then 0 else C 393 l) ∧ sumI i (fun l => if O l = -1 then 0 else C 393 l) ≤ 54 := by
    intro i hi
    have := sumI_bd (f := fun l => if O l = -1 then 0 else C 393 l) (a := -1) (b := 9) (n := i) (fun j hj => by have := hC.2.2.2.1 j (by omega); grind)
    omega
  have hb2 : ∀ (f : Nat) i, i ≤ 6 → -6 ≤ sumI i (fun l => if O l = f then C 393 l else 0) ∧ sumI i (fun l => if O l = f then C 393 l else 0) ≤ 54 := by
    intro f i hi
    have := sumI_bd (f := fun l => if O l = f then C 393 l else 0) (a := -1) (b := 9) (n := i) (fun j hj => by have := hC.2.2.2.1 j (by omega); grind)
    omega
  refine itr_inv (fun (i : Nat) (z : Int × Int × S2) => z.1 = sumI i (fun l => if O l = -1 then 0 else C 393 l) ∧ z.2.1 = i ∧ Fr pGb t z.2.2 ∧ (∀ k, k < i → z.2.2 1544 0 k = O k) ∧ ∀ f : Nat, f < 4 → (f : Int) < C 387 0 → z.2.2 1539 0 f = Y 518 f + sumI i (fun l => if O l = f then C 393 l else 0)) (fun (r : Int × S2) => r.1 = sumI (C 388 0).toNat (fun l => if O l = -1 then 0 else C 393 l) ∧ Fr pGb t r.2 ∧ (∀ k : Nat, (k : Int) < C 388 0 → r.2 1544 0 k = O k) ∧ ∀ f : Nat, f < 4 → (f : Int) < C 387 0 → r.2 1539 0 f = Y 518 f + sumI (C 388 0).toNat (fun l => if O l = f then C 393 l else 0)) (C 388 0).toNat ?_ am_fu (fu_lt (by omega)) (0, 0, t) ⟨rfl, rfl, Fr.rf, fun k hk => by omega, fun f hf hf2 => by dsimp only; rw [(hV.2.2.2.2 f hf hf2).2]; simp [sumI]⟩
  rintro i ⟨g, x, z⟩ hi ⟨g1, g2, hF, g3, g4⟩
  dsimp only at g1 g2 hF g3 g4 ⊢
  subst g1 g2
  have q0 : z 1537 0 3 = C 388 0 := by rw [hF 1537 0 (pGb_f.mpr (by omega))]; exact h.1.2.2.2.1
  by_cases e : i = (C 388 0).toNat
  · refine Or.inr ⟨(sumI i (fun l => if O l = -1 then 0 else C 393 l), z), ?_, by rw [e], hF, fun k hk => g3 k (by omega), fun f hf hf2 => by rw [← e]; exact g4 f hf hf2⟩
    show f222_b _ i z = _
    unfold f222_b
    rw [ld_t (by omega) (by omega), show z 1537 0 (Int.toNat 3) = C 388 0 from q0, if_pos (by omega)]
  · refine Or.inl ⟨by omega, ?_⟩
    have hi6 : i < 6 := by omega
    have hil : (i : Int) < C 388 0 := by omega
    have q1 : z 1590 0 i = O i := by rw [hF 1590 0 (pGb_f.mpr (by omega))]; exact hO i hil
    have q4 : z 1542 0 i = C 393 i := by rw [hF 1542 0 (pGb_f.mpr (by omega))]; exact (h.2.1 i hi6 hil).2.2.1
    have hl := hC.2.2.2.1 i hi6
    have hs1 := hb i (by omega)
    have ej : jadd (i : Int) 1 = ((i + 1 : Nat) : Int) := by rw [jadd_e (by omega) (by omega)]; rfl
    have t1 : st2 z 1544 0 i (O i) 1590 0 i = O i := by rw [st2_ne (by omega)]; exact q1
    have hpre : ∀ g, f222_b g i z = if O i = -1 then bnd (jadd (i : Int) 1) fun v17 => some (.inl (g, v17, st2 z 1544 0 i (O i))) else ld (st2 z 1544 0 i (O i)) 1590 0 6 i fun v18 => ld (st2 z 1544 0 i (O i)) 1539 0 4 v18 fun v19 => ld (st2 z 1544 0 i (O i)) 1542 0 6 i fun v20 => sto (st2 z 1544 0 i (O i)) 1539 0 4 v18 (jadd v19 v20) fun s21 => ld s21 1542 0 6 i fun v22 => bnd (jadd g v22) fun v23 => bnd (jadd (i : Int) 1) fun v24 => some (.inl (v23, v24, s21)) := by
      intro g
      unfold f222_b
      rw [ld_t (by omega) (by omega), show z 1537 0 (Int.toNat 3) = C 388 0 from q0, if_neg (by omega), ld_t (by omega) (by omega), Int.toNat_natCast, q1, sto_t (by omega) (by omega), Int.toNat_natCast, ld_t (by omega) (by omega), Int.toNat_natCast, t1]
    rcases hOb i hil with hO1 | ⟨h1, h2⟩
    · refine ⟨(sumI (i + 1) (fun l => if O l = -1 then 0 else C 393 l), ((i + 1 : Nat) : Int), st2 z 1544 0 i (O i)), ?_, rfl, rfl, hF.st rfl, fun k hk => ?_, fun f hf hf2 => ?_⟩
      · show f222_b _ i z = _
        rw [hpre, if_pos hO1, bnd, ej, sumI_s, if_pos hO1]
        simp
      · dsimp only
        rw [st2_d]
        by_cases hk2 : k = i
        · rw [if_pos ⟨rfl, rfl, hk2⟩, hk2]
        · rw [if_neg (by omega), g3 k (by omega)]
      · dsimp only
        rw [st2_ne (by omega), g4 f hf hf2, sumI_s, if_neg (by omega)]
        omega
    · obtain ⟨o, ho⟩ := Int.eq_ofNat_of_zero_le h1
      have ho4 : o < 4 := by omega
      have hs2 := hb2 o i (by omega)
      have g5 := g4 o ho4 (by omega)
      have ha := hY.2.2.2.2.2 o ho4
      have hh := hY.2.2.2.2.1
      have t3 : st2 z 1544 0 i (O i) 1542 0 i = C 393 i := by rw [st2_ne (by omega)]; exact q4
      have t4 : st2 z 1544 0 i (O i) 1539 0 o = z 1539 0 o := by rw [st2_ne (by omega)]
      have t6 : st2 (st2 z 1544 0 i (O i)) 1539 0 o (z 1539 0 o + C 393 i) 1542 0 i = C 393 i := by rw [st2_ne (by omega)]; exact t3
      refine ⟨(sumI (i + 1) (fun l => if O l = -1 then 0 else C 393 l), ((i + 1 : Nat) : Int), st2 (st2 z 1544 0 i (O i)) 1539 0 o (z 1539 0 o + C 393 i)), ?_, rfl, rfl, (hF.st rfl).st rfl, fun k hk => ?_, fun f hf hf2 => ?_⟩
      · show f222_b _ i z = _
        rw [hpre, if_neg (by omega), ld_t (by omega) (by omega), Int.toNat_natCast, t1, ho, ld_t (by omega) (by omega), Int.toNat_natCast, ← ho, t4, ld_t (by omega) (by omega), Int.toNat_natCast, t3, jadd_e (x := z 1539 0 o) (by omega) (by omega)]
        rw [ho, sto_t (by omega) (by omega), Int.toNat_natCast, ← ho, ld_t (by omega) (by omega), Int.toNat_natCast, t6, bnd, bnd, ej, jadd_e (by omega) (by omega), sumI_s, if_neg (by omega)]
      · dsimp only
        rw [st2_ne (by omega), st2_d]
        by_cases hk2 : k = i
        · rw [if_pos ⟨rfl, rfl, hk2⟩, hk2]
        · rw [if_neg (by omega), g3 k (by omega)]
      · dsimp only
        rw [sumI_s]
        by_cases hfo : f = o
        · subst hfo
          rw [st2_eq, g5, if_pos ho]
          omega
        · rw [st2_ne (by omega), st2_ne (by omega), g4 f hf hf2, if_neg (by omega)]
          omega
