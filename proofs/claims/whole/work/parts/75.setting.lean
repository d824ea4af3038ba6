/-! a piece hung or taken, in the model -/
theorem so512 {Y : V2} {n l fam : Int} {g : Int → Int} : setOn Y n l fam g 512 0 = Y 512 0 := (nY_t yr512).trans rfl
theorem so513 {Y : V2} {n l fam : Int} {g : Int → Int} {k : Nat} (h : k < 6) : setOn Y n l fam g 513 k = Y 513 k := (nY_t (yr513 h)).trans rfl
theorem so514 {Y : V2} {n l fam : Int} {g : Int → Int} {k : Nat} (h : k < 6) : setOn Y n l fam g 514 k = Y 514 k := (nY_t (yr514 h)).trans rfl
theorem so516 {Y : V2} {n l fam : Int} {g : Int → Int} {k : Nat} (h : k < 10) : setOn Y n l fam g 516 k = Y 516 k := (nY_t (yr516 h)).trans rfl
theorem so518 {Y : V2} {n l fam : Int} {g : Int → Int} {k : Nat} (h : k < 4) : setOn Y n l fam g 518 k = Y 518 k := (nY_t (yr518 h)).trans rfl
theorem so515 {Y : V2} {n l fam : Int} {g : Int → Int} {k : Nat} (h : k < 10) : setOn Y n l fam g 515 k = if (k : Int) = n then l else Y 515 k := by
  refine (nY_t (yr515 h)).trans ?_
  by_cases e : (k : Int) = n <;> simp [e]
theorem so517 {Y : V2} {n l fam : Int} {g : Int → Int} {k : Nat} (h : k < 4) : setOn Y n l fam g 517 k = if (k : Int) = fam then g (Y 517 k) else Y 517 k := by
  refine (nY_t (yr517 h)).trans ?_
  by_cases e : (k : Int) = fam <;> simp [e]
theorem so_YB {C Y : V2} {n : Nat} {l fam : Int} {g : Int → Int} (hY : YB C Y) (hn : (n : Int) < C 389 0) (hl : l = -1 ∨ (0 ≤ l ∧ l < C 388 0)) : YB C (setOn Y n l fam g) := by
  refine ⟨fun k hk => ?_, fun k hk => ?_, fun k hk => ?_, fun k hk => ?_, ?_, fun k hk => ?_⟩
  · rw [so515 hk]
    have := hY.1 k hk
    by_cases e : (k : Int) = n
    · rw [if_pos e]; omega
    · rw [if_neg e]; exact this
  · rw [so516 hk]; exact hY.2.1 k hk
  · rw [so514 hk]; exact hY.2.2.1 k hk
  · rw [so513 hk]; exact hY.2.2.2.1 k hk
  · rw [so512]; exact hY.2.2.2.2.1
  · rw [so518 hk, so512]; exact hY.2.2.2.2.2 k hk
def pH (f i : Nat) : Bool := (Nat.beq f 1548 || Nat.beq f 1538) && Nat.beq i 0
theorem pH_f {f i : Nat} : pH f i = false ↔ ¬ ((f = 1548 ∨ f = 1538) ∧ i = 0) := by
  unfold pH
  rw [← Bool.not_eq_true, Bool.and_eq_true, Bool.or_eq_true, Nat.beq_eq, Nat.beq_eq, Nat.beq_eq]
theorem so_MS {C Y : V2} {code : List Int} {d : Int} {t : S2} {n fam : Nat} {l : Int} {g : Int → Int} (h : MS C Y code d t) (hn : n < 10) (hf : fam < 4) (hf2 : (fam : Int) < C 387 0) : MS C (setOn Y n l fam g) code d (st2 (st2 t 1548 0 n l) 1538 0 fam (g (t 1538 0 fam))) := by
  obtain ⟨h1, h2, h3, h4, h5⟩ := h
  have hF : Fr pH t (st2 (st2 t 1548 0 n l) 1538 0 fam (g (t 1538 0 fam))) := (Fr.rf.st rfl).st rfl
  refine ⟨h1.fr hF (Or.inl (pH_f.mpr (by omega))) (fun f g1 g2 => pH_f.mpr (by omega)) (pH_f.mpr (by omega)) (pH_f.mpr (by omega)) (pH_f.mpr (by omega)) (pH_f.mpr (by omega)) (pH_f.mpr (by omega)), ?_, h3.fr hF (by rw [st2_ne (by omega), st2_ne (by omega)]) (fun f g1 g2 => pH_f.mpr (by omega)), ?_, h5⟩
  · obtain ⟨a1, a2, a3, a4, a5⟩ := h2
    refine ⟨?_, ?_, fun k hk hk2 => ?_, fun k hk hk2 => ?_, fun k hk hk2 => ?_⟩
    · rw [so512, st2_ne (by omega), st2_ne (by omega)]; exact a1
    · rw [st2_ne (by omega), st2_ne (by omega), a2]
      unfold cutV
      rw [so514 (by omega), so514 (by omega), so514 (by omega), so514 (by omega), so514 (by omega), so514 (by omega)]
    · rw [so513 hk, st2_ne (by omega), st2_ne (by omega)]; exact a3 k hk hk2
    · obtain ⟨b1, b2⟩ := a4 k hk hk2
      rw [so516 hk, so515 hk, st2_ne (by omega), st2_ne (by omega), st2_ne (by omega)]
      refine ⟨b1, ?_⟩
      by_cases e : k = n
      · subst e
        rw [st2_eq, if_pos rfl]
      · rw [st2_ne (by omega), if_neg (by omega)]; exact b2
    · obtain ⟨b1, b2⟩ := a5 k hk hk2
      rw [so517 hk, so518 hk, st2_ne (f' := 1539) (by omega), st2_ne (f' := 1539) (by omega)]
      refine ⟨?_, b2⟩
      by_cases e : k = fam
      · subst e
        rw [st2_eq, if_pos rfl, b1]
      · rw [st2_ne (by omega), st2_ne (by omega), if_neg (by omega)]; exact b1
  · rw [st2_ne (by omega), st2_ne (by omega)]; exact h4
theorem m227 {C Y : V2} {code : List Int} {d : Int} {t : S2} {n : Nat} (hC : CB C) (h : MS C Y code d t) (hn : n < 10) (hn2 : (n : Int) < C 389 0) (hu : Y 515 n ≠ -1) : ∃ t', f227 n t = some t' ∧ MS C (takeS C Y n) code d t' ∧ Fr pH t t' := by
  have hcc := hC.1
  obtain ⟨f1, f2, -, -⟩ := hC.2.2.1 n hn hn2
  obtain ⟨fam, hfam⟩ := Int.eq_ofNat_of_zero_le f1
  have q1 : t 1545 0 n = fam := by rw [(h.1.2.2.1 n hn hn2).1]; exact hfam
  have hup : upP C Y n := ⟨by omega, by rw [Int.toNat_natCast]; exact hu⟩
  have ht : takeS C Y n = setOn Y n (-1) fam (fun v => jadd v 2) := by
    unfold takeS
    rw [if_pos hup, Int.toNat_natCast, hfam]
  refine ⟨st2 (st2 t 1548 0 n (-1)) 1538 0 fam (jadd (t 1538 0 fam) 2), ?_, ?_, (Fr.rf.st rfl).st rfl⟩
  · unfold f227
    rw [sto_t (by omega) (by omega), Int.toNat_natCast, ld_t (by omega) (by omega), Int.toNat_natCast, st2_ne (by omega), q1, ld_t (by omega) (by omega), Int.toNat_natCast, st2_ne (by omega), sto_t (by omega) (by omega), Int.toNat_natCast]
  · rw [ht]
    exact so_MS (g := fun v => jadd v 2) h hn (by omega) (by omega)
