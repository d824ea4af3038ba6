/-! MOST: the pieces, the rows -/
def cpS (s : S2) (g h n : Nat) : S2 := fun f i k => if f = h ∧ i = 0 ∧ k < n then s g 0 k else s f i k
theorem cpS_d {s : S2} {g h n f i k : Nat} : cpS s g h n f i k = if f = h ∧ i = 0 ∧ k < n then s g 0 k else s f i k := rfl
theorem m179 {s : S2} {g h n : Nat} (hg : am_ln g = n) (hh : am_ln h = n) (hn : n ≤ 1000) (hne : g ≠ h) : f179 g h s = some (cpS s g h n) := by
  unfold f179
  refine seq_cP (fun i => ((i : Int), cpS s g h i)) n (cpS s g h n) ?_ (by omega) ?_ ?_ rfl
  · have : cpS s g h 0 = s := by
      funext f i k
      rw [cpS_d, if_neg (by omega)]
    rw [this]; rfl
  · intro i hi
    have q1 : cpS s g h i g 0 i = s g 0 i := by rw [cpS_d, if_neg (by omega)]
    have q2 : st2 (cpS s g h i) h 0 i (s g 0 i) = cpS s g h (i + 1) := by
      funext f j k
      rw [st2_d, cpS_d, cpS_d]
      by_cases e : f = h ∧ j = 0 ∧ k = i
      · rw [if_pos e, if_pos (by omega), e.2.2]
      · rw [if_neg e]
        by_cases e2 : f = h ∧ j = 0 ∧ k < i
        · rw [if_pos e2, if_pos (by omega)]
        · rw [if_neg e2, if_neg (by omega)]
    show f179_a g h i (cpS s g h i) = _
    unfold f179_a
    rw [hg, hh, if_neg (by omega), ld_t (by omega) (by omega), Int.toNat_natCast, q1, sto_t (by omega) (by omega), Int.toNat_natCast, q2, bnd, jadd_e (by omega) (by omega)]
    rfl
  · show f179_a g h n (cpS s g h n) = _
    unfold f179_a
    rw [hg, if_pos (by omega)]
theorem cpS_fr {P : Nat → Nat → Bool} {s0 s : S2} {g h n : Nat} (e : Fr P s0 s) (hp : P h 0 = true) : Fr P s0 (cpS s g h n) := fun f i hf => by
  rw [← e f i hf]
  funext k
  rw [cpS_d, if_neg]
  rintro ⟨rfl, rfl, -⟩
  rw [hp] at hf; cases hf
/-- the first four pieces of a family that do not hang -/
def pcP (C Y : V2) (fam : Int) (c n : Nat) : Prop := (n : Int) < C 389 0 ∧ C 395 n = fam ∧ Y 515 n = -1 ∧ c < 4
def pcD (C Y : V2) (fam : Int) (c n : Nat) : Decidable (pcP C Y fam c n) := by unfold pcP; exact inferInstance
def pcN (C Y : V2) (fam : Int) : Nat → Nat × (Nat → Nat)
  | 0 => (0, fun _ => 0)
  | n + 1 => @ite _ (pcP C Y fam (pcN C Y fam n).1 n) (pcD C Y fam (pcN C Y fam n).1 n) ((pcN C Y fam n).1 + 1, fun j => if j = (pcN C Y fam n).1 then n else (pcN C Y fam n).2 j) (pcN C Y fam n)
theorem pcN_t {C Y : V2} {fam : Int} {n : Nat} (h : pcP C Y fam (pcN C Y fam n).1 n) : pcN C Y fam (n + 1) = ((pcN C Y fam n).1 + 1, fun j => if j = (pcN C Y fam n).1 then n else (pcN C Y fam n).2 j) := if_pos h
theorem pcN_f {C Y : V2} {fam : Int} {n : Nat} (h : ¬ pcP C Y fam (pcN C Y fam n).1 n) : pcN C Y fam (n + 1) = pcN C Y fam n := if_neg h
theorem pcN_4 {C Y : V2} {fam : Int} : ∀ {n : Nat}, (pcN C Y fam n).1 ≤ 4
  | 0 => by
    show 0 ≤ 4
    decide
  | n + 1 => by
    have := pcN_4 (C := C) (Y := Y) (fam := fam) (n := n)
    by_cases h : pcP C Y fam (pcN C Y fam n).1 n
    · rw [pcN_t h]
      have := h.2.2.2
      show (pcN C Y fam n).1 + 1 ≤ 4
      omega
    · rw [pcN_f h]; exact this
theorem pcN_ok {C Y : V2} {fam : Int} : ∀ {n : Nat}, ∀ j, j < (pcN C Y fam n).1 → (pcN C Y fam n).2 j < n ∧ (((pcN C Y fam n).2 j : Nat) : Int) < C 389 0
  | 0, j, h => by
    have : j < 0 := h
    omega
  | n + 1, j, h => by
    by_cases q : pcP C Y fam (pcN C Y fam n).1 n
    · rw [pcN_t q] at h ⊢
      dsimp only at h ⊢
      by_cases e : j = (pcN C Y fam n).1
      · rw [if_pos e]
        exact ⟨by omega, q.1⟩
      · rw [if_neg e]
        have := pcN_ok (C := C) (Y := Y) (fam := fam) (n := n) j (by omega)
        exact ⟨by omega, this.2⟩
    · rw [pcN_f q] at h ⊢
      have := pcN_ok (n := n) j h
      exact ⟨by omega, this.2⟩
theorem pcN_cut {C Y : V2} {fam : Int} {m : Nat} : ∀ {n : Nat}, m ≤ n → (∀ k, m ≤ k → k < n → ¬ (k : Int) < C 389 0 ∨ 4 ≤ (pcN C Y fam m).1) → pcN C Y fam n = pcN C Y fam m
  | 0, h, _ => by
    have : m = 0 := by omega
    subst this; rfl
  | n + 1, h, h0 => by
    by_cases e : m = n + 1
    · subst e; rfl
    · have ih := pcN_cut (C := C) (Y := Y) (fam := fam) (m := m) (n := n) (by omega) (fun k h1 h2 => h0 k h1 (by omega))
      have h1 := h0 n (by omega) (by omega)
      rw [pcN_f (fun q => ?_), ih]
      have q1 := q.1
      have q4 := q.2.2.2
      rw [ih] at q4
      omega
/-- a row's pieces in a memory -/
def rowP (s : S2) (fc fr : Nat) (p : Nat × (Nat → Nat)) : Prop := s fc 0 0 = p.1 ∧ ∀ j, j < p.1 → s fr 0 j = p.2 j
theorem rowP_add {s : S2} {fc fr n : Nat} {p : Nat × (Nat → Nat)} (h : rowP s fc fr p) (hne : fc ≠ fr) : rowP (st2 (st2 s fr 0 p.1 n) fc 0 0 ((p.1 + 1 : Nat) : Int)) fc fr (p.1 + 1, fun j => if j = p.1 then n else p.2 j) := by
  refine ⟨st2_eq, fun j hj => ?_⟩
  dsimp only at hj ⊢
  rw [st2_ne (by omega), st2_d]
  by_cases e : j = p.1
  · rw [if_pos ⟨rfl, rfl, e⟩, if_pos e]
  · rw [if_neg (by omega), if_neg e]
    exact h.2 j (by omega)
def pPc (f i : Nat) : Bool := (Nat.beq f 1283 || Nat.beq f 1286) && Nat.beq i 0
theorem pPc_f {f i : Nat} : pPc f i = false ↔ ¬ ((f = 1283 ∨ f = 1286) ∧ i = 0) := by
  unfold pPc
  rw [← Bool.not_eq_true, Bool.and_eq_true, Bool.or_eq_true, Nat.beq_eq, Nat.beq_eq, Nat.beq_eq]
theorem m112 {s : S2} {C Y : V2} {fam : Int} (hs : cw s 0 = C) (hy : yv s 0 = Y) : ∃ s', f112 0 0 fam s = some s' ∧ rowP s' 1286 1283 (pcN C Y fam 10) ∧ Fr pPc s s' := by
  unfold f112
  rw [bnd]
  have F0 : Fr pPc s (st2 s 1286 0 0 0) := Fr.rf.st rfl
  refine inv_cP (a := ((0 : Int), st2 s 1286 0 0 0)) (P := fun e => ∃ s', e = some s' ∧ rowP s' 1286 1283 (pcN C Y fam 10) ∧ Fr pPc s s') (fun (i : Nat) (z : Int × S2) => z.1 = i ∧ rowP z.2 1286 1283 (pcN C Y fam i) ∧ Fr pPc s z.2) (fun (z : S2) => rowP z 1286 1283 (pcN C Y fam 10) ∧ Fr pPc s z) 10 (by decide) ⟨rfl, ⟨(st2_eq : st2 s 1286 0 0 0 1286 0 0 = 0), fun j hj => by have : j < 0 := hj; omega⟩, F0⟩ ?_ ?_
  · rintro i ⟨x, z⟩ hi ⟨g1, g2, g3⟩
    dsimp only at g1 g2 g3 ⊢
    subst g1
    by_cases e : i = 10
    · subst e
      exact Or.inr ⟨z, rfl, g2, g3⟩
    · refine Or.inl ⟨by omega, ?_⟩
      have hi10 : i < 10 := by omega
      have h4 := pcN_4 (C := C) (Y := Y) (fam := fam) (n := i)
      have hz : cw z 0 = C := by rw [g3.cw fun f g1 g2 => pPc_f.mpr (by omega)]; exact hs
      have q1 : z 389 0 0 = C 389 0 := by rw [← hz, cw0 (by omega) (by omega)]
      have q2 : z 395 0 i = C 395 i := by rw [← hz, cw10 (by omega) (by omega) hi10]
      have q3 : z 515 0 i = Y 515 i := by rw [g3 _ _ (pPc_f.mpr (by omega)), ← hy, yv515 hi10]
      have ej : jadd (i : Int) 1 = ((i + 1 : Nat) : Int) := by rw [jadd_e (by omega) (by omega)]; rfl
      have ec : jadd ((pcN C Y fam i).1 : Int) 1 = (((pcN C Y fam i).1 + 1 : Nat) : Int) := by rw [jadd_e (by omega) (by omega)]; rfl
      have hskip : ¬ pcP C Y fam (pcN C Y fam i).1 i → f112_a 0 0 fam i z = some (.inl (((i + 1 : Nat) : Int), z)) → ∃ a', (fun (x5, s6) => f112_a 0 0 fam x5 s6) ((i : Int), z) = some (.inl a') ∧ a'.1 = ((i + 1 : Nat) : Int) ∧ rowP a'.2 1286 1283 (pcN C Y fam (i + 1)) ∧ Fr pPc s a'.2 := fun h1 h2 => ⟨(_, z), h2, rfl, by rw [pcN_f h1]; exact g2, g3⟩
      by_cases c1 : (i : Int) < C 389 0
      · by_cases c2 : C 395 i = fam
        · by_cases c3 : Y 515 i = -1
          · by_cases c4 : (pcN C Y fam i).1 < 4
            · have hp : pcP C Y fam (pcN C Y fam i).1 i := ⟨c1, c2, c3, c4⟩
              refine ⟨(_, st2 (st2 z 1283 0 (pcN C Y fam i).1 i) 1286 0 0 (((pcN C Y fam i).1 + 1 : Nat) : Int)), ?_, rfl, by rw [pcN_t hp]; exact rowP_add g2 (by decide), (g3.st rfl).st rfl⟩
              show f112_a 0 0 fam i z = _
              unfold f112_a
              simp only [jn]
              rw [if_neg (by omega), m49t (by omega), cP_s, if_neg ne10, ld_t (by omega) (by omega), Int.toNat_natCast, q2, if_neg (fun w => w c2), if_neg ne10, ld_t (by omega) (by omega), Int.toNat_natCast, q3, if_neg (fun w => w c3), bnd, g2.1, if_neg (by omega), bnd, if_neg (by omega), bnd, sto_t (by omega) (by omega), Int.toNat_natCast, bnd, st2_ne (by omega), g2.1, ec, bnd, bnd, ej]
            · refine hskip (fun w => c4 w.2.2.2) ?_
              unfold f112_a
              simp only [jn]
              rw [if_neg (by omega), m49t (by omega), cP_s, if_neg ne10, ld_t (by omega) (by omega), Int.toNat_natCast, q2, if_neg (fun w => w c2), if_neg ne10, ld_t (by omega) (by omega), Int.toNat_natCast, q3, if_neg (fun w => w c3), bnd, g2.1, if_neg (by omega), bnd, if_pos (by omega), bnd, ej]
          · refine hskip (fun w => c3 w.2.2.1) ?_
            unfold f112_a
            simp only [jn]
            rw [if_neg (by omega), m49t (by omega), cP_s, if_neg ne10, ld_t (by omega) (by omega), Int.toNat_natCast, q2, if_neg (fun w => w c2), if_neg ne10, ld_t (by omega) (by omega), Int.toNat_natCast, q3, if_pos c3, bnd, ej]
        · refine hskip (fun w => c2 w.2.1) ?_
          unfold f112_a
          simp only [jn]
          rw [if_neg (by omega), m49t (by omega), cP_s, if_neg ne10, ld_t (by omega) (by omega), Int.toNat_natCast, q2, if_pos c2, if_pos trivial, bnd, ej]
      · refine hskip (fun w => c1 w.1) ?_
        unfold f112_a
        simp only [jn]
        rw [if_neg (by omega), m49f (by omega), cP_s, if_pos rfl, if_pos trivial, bnd, ej]
  · rintro z ⟨g1, g2⟩
    exact ⟨z, rfl, g1, g2⟩
def pPm (f i : Nat) : Bool := (Nat.beq f 1596 || Nat.beq f 1599) && Nat.beq i 0
theorem pPm_f {f i : Nat} : pPm f i = false ↔ ¬ ((f = 1596 ∨ f = 1599) ∧ i = 0) := by
  unfold pPm
  rw [← Bool.not_eq_true, Bool.and_eq_true, Bool.or_eq_true, Nat.beq_eq, Nat.beq_eq, Nat.beq_eq]
theorem m240 {t : S2} {C Y : V2} {fam : Int} (hC : CB C) (hR : CR C t) (hV : YR C Y t) : ∃ t', f240 fam t = some t' ∧ rowP t' 1599 1596 (pcN C Y fam 10) ∧ Fr pPm t t' := by
  have hcc := hC.1
  have hcut : pcN C Y fam 10 = pcN C Y fam (C 389 0).toNat := pcN_cut (by omega) (fun k h1 h2 => Or.inl (by omega))
  rw [hcut]
  unfold f240
  rw [bnd]
  have F0 : Fr pPm t (st2 t 1599 0 0 0) := Fr.rf.st rfl
  refine inv_cP (a := ((0 : Int), st2 t 1599 0 0 0)) (P := fun e => ∃ s', e = some s' ∧ rowP s' 1599 1596 (pcN C Y fam (C 389 0).toNat) ∧ Fr pPm t s') (fun (i : Nat) (z : Int × S2) => z.1 = i ∧ rowP z.2 1599 1596 (pcN C Y fam i) ∧ Fr pPm t z.2) (fun (z : S2) => rowP z 1599 1596 (pcN C Y fam (C 389 0).toNat) ∧ Fr pPm t z) (C 389 0).toNat (by omega) ⟨rfl, ⟨(st2_eq : st2 t 1599 0 0 0 1599 0 0 = 0), fun j hj => by have : j < 0 := hj; omega⟩, F0⟩ ?_ ?_
  · rintro i ⟨x, z⟩ hi ⟨g1, g2, g3⟩
    dsimp only at g1 g2 g3 ⊢
    subst g1
    have h4 := pcN_4 (C := C) (Y := Y) (fam := fam) (n := i)
    have q4 : z 1537 0 4 = C 389 0 := by rw [g3 _ _ (pPm_f.mpr (by omega))]; exact hR.1.2.2.2.2.1
    by_cases e : i = (C 389 0).toNat
    · refine Or.inr ⟨z, ?_, by rw [← e]; exact g2, g3⟩
      show f240_a fam i z = _
      unfold f240_a
      rw [ld_t (by omega) (by omega), show z 1537 0 (Int.toNat 4) = C 389 0 from q4, if_pos (by omega)]
    · have hi10 : i < 10 := by omega
      have hi9 : (i : Int) < C 389 0 := by omega
      have q2 : z 1545 0 i = C 395 i := by rw [g3 _ _ (pPm_f.mpr (by omega))]; exact (hR.2.2.1 i hi10 hi9).1
      have q3 : z 1548 0 i = Y 515 i := by rw [g3 _ _ (pPm_f.mpr (by omega))]; exact (hV.2.2.2.1 i hi10 hi9).2
      have ej : jadd (i : Int) 1 = ((i + 1 : Nat) : Int) := by rw [jadd_e (by omega) (by omega)]; rfl
      have ec : jadd ((pcN C Y fam i).1 : Int) 1 = (((pcN C Y fam i).1 + 1 : Nat) : Int) := by rw [jadd_e (by omega) (by omega)]; rfl
      by_cases c4 : (pcN C Y fam i).1 < 4
      · refine Or.inl ⟨by omega, ?_⟩
        have hskip : ¬ pcP C Y fam (pcN C Y fam i).1 i → f240_a fam i z = some (.inl (((i + 1 : Nat) : Int), z)) → ∃ a', (fun (x3, s4) => f240_a fam x3 s4) ((i : Int), z) = some (.inl a') ∧ a'.1 = ((i + 1 : Nat) : Int) ∧ rowP a'.2 1599 1596 (pcN C Y fam (i + 1)) ∧ Fr pPm t a'.2 := fun h1 h2 => ⟨(_, z), h2, rfl, by rw [pcN_f h1]; exact g2, g3⟩
        by_cases c2 : C 395 i = fam
        · by_cases c3 : Y 515 i = -1
          · have hp : pcP C Y fam (pcN C Y fam i).1 i := ⟨hi9, c2, c3, c4⟩
            refine ⟨(_, st2 (st2 z 1596 0 (pcN C Y fam i).1 i) 1599 0 0 (((pcN C Y fam i).1 + 1 : Nat) : Int)), ?_, rfl, by rw [pcN_t hp]; exact rowP_add g2 (by decide), (g3.st rfl).st rfl⟩
            show f240_a fam i z = _
            unfold f240_a
            rw [ld_t (by omega) (by omega), show z 1537 0 (Int.toNat 4) = C 389 0 from q4, if_neg (by omega), bnd, g2.1, if_neg (by omega), ld_t (by omega) (by omega), Int.toNat_natCast, q2, if_neg (fun w => w c2), ld_t (by omega) (by omega), Int.toNat_natCast, q3, if_neg (fun w => w c3), bnd, sto_t (by omega) (by omega), Int.toNat_natCast, bnd, st2_ne (by omega), g2.1, ec, bnd, bnd, ej]
          · refine hskip (fun w => c3 w.2.2.1) ?_
            unfold f240_a
            rw [ld_t (by omega) (by omega), show z 1537 0 (Int.toNat 4) = C 389 0 from q4, if_neg (by omega), bnd, g2.1, if_neg (by omega), ld_t (by omega) (by omega), Int.toNat_natCast, q2, if_neg (fun w => w c2), ld_t (by omega) (by omega), Int.toNat_natCast, q3, if_pos c3, bnd, ej]
        · refine hskip (fun w => c2 w.2.1) ?_
          unfold f240_a
          rw [ld_t (by omega) (by omega), show z 1537 0 (Int.toNat 4) = C 389 0 from q4, if_neg (by omega), bnd, g2.1, if_neg (by omega), ld_t (by omega) (by omega), Int.toNat_natCast, q2, if_pos c2, bnd, ej]
      · have hcut2 : pcN C Y fam (C 389 0).toNat = pcN C Y fam i := pcN_cut (by omega) (fun k h1 h2 => Or.inr (by omega))
        refine Or.inr ⟨z, ?_, by rw [hcut2]; exact g2, g3⟩
        show f240_a fam i z = _
        unfold f240_a
        rw [ld_t (by omega) (by omega), show z 1537 0 (Int.toNat 4) = C 389 0 from q4, if_neg (by omega), bnd, g2.1, if_pos (by omega)]
  · rintro z ⟨g1, g2⟩
    exact ⟨z, rfl, g1, g2⟩
