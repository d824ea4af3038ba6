theorem m177 {C B : V2} {t : S2} {n l : Nat} (hC : CB C) (hB : BD C B) (hM : MC C B t) (hn : n < 10) (hn2 : (n : Int) < C 389 0) (hl : l < 6) (hl2 : (l : Int) < C 388 0) : f177 n l t = some (if mayI C B n l = 0 then 0 else 1) := by
  have hcc := hC.1
  obtain ⟨hs, hL, hN, hR, hP⟩ := hM
  have hb : ∀ i, i ≤ 10 → -10 ≤ lcl i C B l ∧ lcl i C B l ≤ 40 := fun i hi => lcl_bd hi hC.len
  have h9 := hC.2.2.2.1 l hl
  have hcut : lcl 10 C B l = lcl (C 389 0).toNat C B l := sumI_cut (by omega) (fun i h1 h2 => by
    have := hB.1.1 i h2
    rw [if_neg (by omega)])
  have hleft : left C B l = C 393 l - lcl (C 389 0).toNat C B l := by
    rw [← hcut]
    unfold left
    rw [if_pos (by omega), Int.toNat_natCast]
    rfl
  have e4 : t 1557 0 (Int.toNat 4) = C 389 0 := hs.2.2.2.2.1
  have hnn := hN n hn hn2
  have hf := hC.2.2.1 n hn hn2
  obtain ⟨fam, hfam⟩ := Int.eq_ofNat_of_zero_le hf.1
  have hfm : fam < 4 := by omega
  have hp := hP fam hfm (by omega)
  have hmay : mayI C B n l = if B 515 n = -1 ∧ 2 ≤ B 517 fam ∧ C 396 n ≤ left C B l then 1 else 0 := by
    by_cases q : mayH C B n l
    · obtain ⟨-, -, q1, -, -, q2, q3⟩ := id q
      rw [Int.toNat_natCast] at q1 q2 q3
      rw [hfam, Int.toNat_natCast] at q2
      rw [mayI_n q, if_pos ⟨q1, q2, q3⟩]
    · rw [mayI_z q, if_neg]
      rintro ⟨q1, q2, q3⟩
      refine q ⟨by omega, by omega, ?_, ?_, ?_, ?_, ?_⟩
      · rw [Int.toNat_natCast]; exact q1
      · rw [Int.toNat_natCast]; exact (hB.2.2.1 l hl).2
      · rw [Int.toNat_natCast]; omega
      · rw [Int.toNat_natCast, hfam, Int.toNat_natCast]; exact q2
      · rw [Int.toNat_natCast]; exact q3
  unfold f177
  rw [ld_t (by omega) (by omega), Int.toNat_natCast, (hL l hl hl2).2.2.1]
  refine seq_cP (fun i => (C 393 l - lcl i C B l, (i : Int))) (C 389 0).toNat (left C B l) (by simp [lcl, sumI]) (by omega) ?_ ?_ ?_
  · intro i hi
    have h1 := hb i (by omega)
    have h2 := hC.len i (by omega)
    have h3 := hN i (by omega) (by omega)
    have hs : lcl (i + 1) C B l = lcl i C B l + if B 515 i = l then C 396 i else 0 := rfl
    show f177_a l _ i t = _
    unfold f177_a
    rw [ld_t (by omega) (by omega), e4, if_neg (by omega), ld_t (by omega) (by omega), Int.toNat_natCast, h3.2.2.2, hs]
    by_cases h5 : B 515 i = l
    · simp only [jn, h5, not_true_eq_false, if_false, if_true]
      rw [ld_t (by omega) (by omega), Int.toNat_natCast, h3.2.1, bnd, bnd, jadd_e (by omega) (by omega), jsub_e (by omega) (by omega), show C 393 l - (lcl i C B l + C 396 i) = C 393 l - lcl i C B l - C 396 i by omega]
      rfl
    · simp only [jn, h5, not_false_eq_true, if_false, if_true]
      rw [bnd, bnd, jadd_e (by omega) (by omega), jsub_e (by omega) (by omega), show C 393 l - (lcl i C B l + 0) = C 393 l - lcl i C B l - 0 by omega]
      rfl
  · show f177_a l _ ((C 389 0).toNat : Int) t = _
    unfold f177_a
    rw [ld_t (by omega) (by omega), e4, if_pos (by omega), hleft]
  · rw [ld_t (by omega) (by omega), Int.toNat_natCast, hnn.2.2.2, hmay]
    by_cases q1 : B 515 n = -1
    · rw [if_neg (fun w => w q1), ld_t (by omega) (by omega), Int.toNat_natCast, hnn.2.1]
      by_cases q2 : left C B l < C 396 n
      · rw [if_pos q2, if_neg (show ¬ (B 515 n = -1 ∧ 2 ≤ B 517 fam ∧ C 396 n ≤ left C B l) by omega), if_pos rfl]
      · rw [if_neg q2, ld_t (by omega) (by omega), Int.toNat_natCast, hnn.1, hfam, ld_t (by omega) (by omega), Int.toNat_natCast, hp]
        by_cases q3 : B 517 fam < 2
        · rw [if_pos q3, if_neg (show ¬ (B 515 n = -1 ∧ 2 ≤ B 517 fam ∧ C 396 n ≤ left C B l) by omega), if_pos rfl]
        · rw [if_neg q3, if_pos (show B 515 n = -1 ∧ 2 ≤ B 517 fam ∧ C 396 n ≤ left C B l by omega), if_neg ne10]
    · rw [if_pos q1, if_neg (show ¬ (B 515 n = -1 ∧ 2 ≤ B 517 fam ∧ C 396 n ≤ left C B l) from fun w => q1 w.1), if_pos rfl]
theorem mcHung {t : S2} {n q : Nat} {bs : Nat → Nat} {C B : V2} (h : MAt t n bs q) (hM : MC C B t) (hC : CB C) (hB : BD C B) : ∃ t', f169 4 t = some t' ∧ MRes t t' n bs (clHung n bs q C B) := by
  have hcc := hC.1
  have e4 : t 1557 0 (Int.toNat 4) = C 389 0 := hM.1.2.2.2.2.1
  have e3 : t 1557 0 (Int.toNat 3) = C 388 0 := hM.1.2.2.2.1
  have hun : f169 4 t = cP (f176 t) fun s15 => some s15 := rfl
  rw [hun]
  unfold clHung f176
  rw [ld_t (by omega) (by omega), e4, jsub_e (by omega) (by omega)]
  rcases h.num (lo := 0) (hi := C 389 0 - 1) (by omega) (by omega) with ⟨v1, q1, t1, a1, a2, a3, a4, a5, a6⟩ | ⟨e, x, t1, a1, a4, a7, a5, a6⟩
  · obtain ⟨g1, g2, g3⟩ := a5.bl
    have hq1 := g2.le
    have g4 : atP t1 q1 1570 0 0 = q1 := st2_eq
    have e3' : atP t1 q1 1557 0 (Int.toNat 3) = C 388 0 := by rw [atP_o (by omega), a6 _ _ (p70_f.mpr (by omega))]; exact e3
    rw [a1, bN_r, a4, cR_s, g1, cP_s, g4, bnd, ld_t (by omega) (by omega), e3', jsub_e (by omega) (by omega)]
    rcases g2.num (lo := 0) (hi := C 388 0 - 1) (by omega) (by omega) with ⟨v2, q2, t2, b1, b2, b3, b4, b5, b6⟩ | ⟨e, x, t2, b1, b4, b7, b5, b6⟩
    · obtain ⟨nn, rfl⟩ := Int.eq_ofNat_of_zero_le a2
      obtain ⟨ll, rfl⟩ := Int.eq_ofNat_of_zero_le b2
      have hM2 : MC C B t2 := ((hM.f70 a6).f70 atP_fr).f70 b6
      have h177 := m177 hC hB hM2 (n := nn) (l := ll) (by omega) (by omega) (by omega) (by omega)
      rw [b1, bN_r, b4, cR_s, bnd, b5.2, if_pos (by omega), h177, cP_s]
      have frt : Fr pMd t t2 := (a6.p70.tr atP_fr.p70).tr b6.p70
      by_cases hm : mayI C B nn ll = 0
      · obtain ⟨t3, d1, d2, d3⟩ := b5.fail (k := 1) (p := q1) (by omega) (by omega)
        rw [if_pos hm, if_pos hm, if_neg (by decide), d1, cP_s, cP_s]
        exact ⟨t3, rfl, frt.tr d3.p70, d2⟩
      · have hf := hC.2.2.1 nn (by omega) (by omega)
        obtain ⟨fam, hfam⟩ := Int.eq_ofNat_of_zero_le hf.1
        have n1 := hM2.2.2.1 nn (by omega) (by omega)
        have n2 := hM2.2.2.2.2 fam (by omega) (by omega)
        have w1 : st2 t2 1566 0 nn ll 1563 0 nn = fam := by rw [st2_ne (by omega), n1.1, hfam]
        have w2 : st2 t2 1566 0 nn ll 1558 0 fam = B 517 fam := by rw [st2_ne (by omega), n2]
        rw [if_neg hm, if_neg hm, if_pos ne10, sto_t (by omega) (by omega), Int.toNat_natCast, ld_t (by omega) (by omega), Int.toNat_natCast, w1, ld_t (by omega) (by omega), Int.toNat_natCast, w2, sto_t (by omega) (by omega), Int.toNat_natCast, cP_s]
        refine ⟨_, rfl, (frt.st (pMd_t (by omega))).st (pMd_t (by omega)), (b5.st (by omega)).st (by omega), ?_⟩
        have hput : putS C B nn ll = setOn B nn ll fam (fun v => jsub v 2) := by
          unfold putS
          rw [if_pos (mayI_t hm), Int.toNat_natCast, hfam]
        rw [hput]
        have s5 : ∀ l, l < 10 → setOn B nn ll fam (fun v => jsub v 2) 515 l = if l = nn then (ll : Int) else B 515 l := fun l hl => by
          unfold setOn
          rw [nY_t (yr515 hl)]
          by_cases y : l = nn
          · rw [if_pos ⟨rfl, by omega⟩, if_pos y]
          · rw [if_neg (by omega), if_neg (by omega), if_neg y]
        have s7 : ∀ l, l < 4 → setOn B nn ll fam (fun v => jsub v 2) 517 l = if l = fam then jsub (B 517 fam) 2 else B 517 l := fun l hl => by
          unfold setOn
          rw [nY_t (yr517 hl), if_neg (by omega)]
          by_cases y : l = fam
          · rw [if_pos ⟨rfl, by omega⟩, if_pos y, y]
          · rw [if_neg (by omega), if_neg y]
        have r1 : ∀ f, f ≠ 1566 → f ≠ 1558 → st2 (st2 t2 1566 0 nn ll) 1558 0 fam (jsub (B 517 fam) 2) f 0 = t2 f 0 := fun f y1 y2 => by
          rw [st2_row (by omega), st2_row (by omega)]
        obtain ⟨m1, m2, m3, m4, m5⟩ := hM2
        refine ⟨?_, m2.ext rfl (fun _ _ _ _ _ => rfl) (fun f y1 y2 => r1 f (by omega) (by omega)), fun l hl w => ?_, m4.ext rfl (fun _ _ _ _ _ => rfl) (fun f y1 y2 => r1 f (by omega) (by omega)), fun l hl w => ?_⟩
        · unfold MCs
          rw [r1 _ (by omega) (by omega)]
          exact m1
        · obtain ⟨o1, o2, o3, o4⟩ := m3 l hl w
          refine ⟨by rw [r1 _ (by omega) (by omega)]; exact o1, by rw [r1 _ (by omega) (by omega)]; exact o2, by rw [r1 _ (by omega) (by omega)]; exact o3, ?_⟩
          rw [s5 l hl, st2_ne (by omega), st2_d]
          by_cases y : l = nn
          · rw [if_pos ⟨rfl, rfl, y⟩, if_pos y]
          · rw [if_neg (fun w => y w.2.2), if_neg y]; exact o4
        · rw [s7 l hl, st2_d]
          by_cases y : l = fam
          · rw [if_pos ⟨rfl, rfl, y⟩, if_pos y]
          · rw [if_neg (fun w => y w.2.2), if_neg y, st2_ne (by omega)]; exact m5 l hl w
    · rw [b1, bN_l, b4, cR_s, bnd, if_neg (by have := b5.2; omega), cP_s]
      exact ⟨t2, rfl, (a6.p70.tr atP_fr.p70).tr b6.p70, b5⟩
  · obtain ⟨t2, g1, g2, g3⟩ := a5.bl
    have e3' : t2 1557 0 (Int.toNat 3) = C 388 0 := by rw [g3 _ _ (p70_f.mpr (by omega)), a6 _ _ (p70_f.mpr (by omega))]; exact e3
    obtain ⟨t3, b4, b5, b6⟩ := g2.num (lo := 0) (hi := C 388 0 - 1)
    rw [a1, bN_l, a4, cR_s, g1, cP_s, bnd, ld_t (by omega) (by omega), e3', jsub_e (by omega) (by omega), b4, cR_s, bnd, if_neg (by have := b5.2; omega), cP_s]
    exact ⟨t3, rfl, (a6.p70.tr g3.p70).tr b6.p70, b5⟩
