/-! a yard when a piece is hung, taken down, a line is cut -/
def setOn (Y : V2) (n l fam : Int) (g : Int → Int) : V2 := nY (fun f k => if f = 515 ∧ (k : Int) = n then l else if f = 517 ∧ (k : Int) = fam then g (Y 517 k) else Y f k)
def putS (C Y : V2) (n l : Int) : V2 := @ite _ (mayH C Y n l) (mayD C Y n l) (setOn Y n l (C 395 n.toNat) (fun v => jsub v 2)) Y
def upP (C Y : V2) (n : Int) : Prop := (0 ≤ n ∧ n < C 389 0 ∧ n < 10) ∧ Y 515 n.toNat ≠ -1
def upD (C Y : V2) (n : Int) : Decidable (upP C Y n) := by unfold upP; exact inferInstance
def takeS (C Y : V2) (n : Int) : V2 := @ite _ (upP C Y n) (upD C Y n) (setOn Y n (-1) (C 395 n.toNat) (fun v => jadd v 2)) Y
theorem nY_yv {s : S2} {y : Nat} : nY (yv s y) = yv s y := by
  refine nY_ext fun f k h => ?_
  exact yv_t h
theorem m54 {y c : Nat} {n l : Int} {s : S2} (hC : CB (cw s c)) : ∃ s', f54 y c n l s = some s' ∧ yv s' y = putS (cw s c) (yv s y) n l ∧ Fr (pY y) s s' := by
  unfold f54 putS
  rw [m48n hC, cP_s]
  unfold mayI
  by_cases h : mayH (cw s c) (yv s y) n l
  · rw [if_pos h, if_pos h, if_neg ne10]
    obtain ⟨⟨h1, h2, h3⟩, ⟨h4, h5, h6⟩, h7, h8, ⟨h9, h10, h11⟩, h12, h13⟩ := h
    obtain ⟨n, rfl⟩ := Int.eq_ofNat_of_zero_le h1
    simp only [Int.toNat_natCast] at h7 h9 h10 h11 h12 h13 ⊢
    have e1 : cw s c 395 n = s 395 c n := cw10 (by omega) (by omega) (by omega)
    obtain ⟨fam, hfam⟩ := Int.eq_ofNat_of_zero_le h9
    rw [e1] at hfam
    have q1 : st2 s 515 y n l 395 c n = fam := by rw [st2_ne (by omega)]; exact hfam
    have q2 : st2 s 515 y n l 517 y fam = s 517 y fam := by rw [st2_ne (by omega)]
    rw [sto_t (by omega) (by omega), Int.toNat_natCast, ld_t (by omega) (by omega), Int.toNat_natCast, q1, ld_t (by omega) (by omega), Int.toNat_natCast, q2, sto_t (by omega) (by omega), Int.toNat_natCast]
    refine ⟨_, rfl, nY_ext fun f k hk => ?_, (Fr.rf.st (pY_t (by omega) (by omega))).st (pY_t (by omega) (by omega))⟩
    show st2 (st2 s 515 y n l) 517 y fam (jsub (s 517 y fam) 2) f y k = (if f = 515 ∧ (k : Int) = n then l else if f = 517 ∧ (k : Int) = cw s c 395 n then jsub (yv s y 517 k) 2 else yv s y f k)
    rw [e1, hfam]
    simp only [st2_d]
    by_cases g1 : f = 515 ∧ k = n
    · obtain ⟨rfl, rfl⟩ := g1
      simp
    · by_cases g2 : f = 517 ∧ k = fam
      · obtain ⟨rfl, rfl⟩ := g2
        simp [yv_t hk]
      · have g3 : ¬ (f = 515 ∧ (k : Int) = n) := by omega
        have g4 : ¬ (f = 517 ∧ (k : Int) = fam) := by omega
        simp only [g3, g4, if_false]
        rw [if_neg (by omega), if_neg (by omega), yv_t hk]
  · rw [if_neg h, if_neg h, if_pos rfl]
    exact ⟨s, rfl, rfl, Fr.rf⟩
theorem m99 {y c : Nat} {n : Int} {s : S2} (hC : CB (cw s c)) : ∃ s', f99 y c n s = some s' ∧ yv s' y = takeS (cw s c) (yv s y) n ∧ Fr (pY y) s s' := by
  unfold f99 takeS
  have hcc := hC.1
  by_cases h1 : 0 ≤ n ∧ n < s 389 c 0 ∧ n < 10
  · have h1' : 0 ≤ n ∧ n < cw s c 389 0 ∧ n < 10 := by rw [cw0 (by omega) (by omega)]; exact h1
    obtain ⟨n, rfl⟩ := Int.eq_ofNat_of_zero_le h1.1
    rw [m49t h1, cP_s, if_neg ne10, ld_t (by omega) (by omega), Int.toNat_natCast]
    by_cases h2 : s 515 y n = -1
    · rw [if_pos h2, if_neg (fun q => q.2 (by rw [Int.toNat_natCast, yv515 (by omega)]; exact h2))]
      exact ⟨s, rfl, rfl, Fr.rf⟩
    · have hu : upP (cw s c) (yv s y) n := ⟨h1', by rw [Int.toNat_natCast, yv515 (by omega)]; exact h2⟩
      rw [if_neg h2, if_pos hu]
      have e1 : cw s c 395 n = s 395 c n := cw10 (by omega) (by omega) (by omega)
      obtain ⟨f1, f2, -, -⟩ := hC.2.2.1 n (by omega) h1'.2.1
      obtain ⟨fam, hfam⟩ := Int.eq_ofNat_of_zero_le f1
      rw [cw0 (by omega) (by omega)] at f2 hcc
      rw [e1] at hfam f1 f2
      have q1 : st2 s 515 y n (-1) 395 c n = fam := by rw [st2_ne (by omega)]; exact hfam
      have q2 : st2 s 515 y n (-1) 517 y fam = s 517 y fam := by rw [st2_ne (by omega)]
      rw [ld_t (by omega) (by omega), Int.toNat_natCast, m51t (by omega), cP_s, if_neg ne10, sto_t (by omega) (by omega), Int.toNat_natCast, ld_t (by omega) (by omega), Int.toNat_natCast, q1, ld_t (by omega) (by omega), Int.toNat_natCast, q2, sto_t (by omega) (by omega), Int.toNat_natCast]
      refine ⟨_, rfl, nY_ext fun f k hk => ?_, (Fr.rf.st (pY_t (by omega) (by omega))).st (pY_t (by omega) (by omega))⟩
      show st2 (st2 s 515 y n (-1)) 517 y fam (jadd (s 517 y fam) 2) f y k = (if f = 515 ∧ (k : Int) = n then -1 else if f = 517 ∧ (k : Int) = cw s c 395 n then jadd (yv s y 517 k) 2 else yv s y f k)
      rw [e1, hfam]
      simp only [st2_d]
      by_cases g1 : f = 515 ∧ k = n
      · obtain ⟨rfl, rfl⟩ := g1
        simp
      · by_cases g2 : f = 517 ∧ k = fam
        · obtain ⟨rfl, rfl⟩ := g2
          simp [yv_t hk]
        · have g3 : ¬ (f = 515 ∧ (k : Int) = n) := by omega
          have g4 : ¬ (f = 517 ∧ (k : Int) = fam) := by omega
          simp only [g3, g4, if_false]
          rw [if_neg (by omega), if_neg (by omega), yv_t hk]
  · rw [m49f h1, cP_s, if_pos rfl, if_neg (fun q => h1 (by have := q.1; rw [cw0 (by omega) (by omega)] at this; exact this))]
    exact ⟨s, rfl, rfl, Fr.rf⟩
