/-! GAME on both sides, the calls -/
theorem play_exit0 {z1 : S2} {f g n : Int} {K L : Int} (t4 : z1 1600 0 0 = K - 2) (hK : K = 10 * L + 1) (hL : 0 ≤ L ∧ L ≤ 6) (t2 : z1 1537 0 3 = L) : f243_a f g n 0 z1 = some (.inl (-1, st2 z1 1600 0 0 (K - 1))) := by
  have e1 : jadd (K - 2) 1 = K - 1 := by
    rw [jadd_e (by omega) (by omega)]
    omega
  have e2 : jadd (0 : Int) (-1) = -1 := by decide
  have q0 : st2 z1 1600 0 0 (K - 1) 1600 0 0 = K - 1 := st2_eq
  have q3 : st2 z1 1600 0 0 (K - 1) 1537 0 3 = L := by rw [st2_ne (Or.inl (by decide))]; exact t2
  unfold f243_a
  rw [if_neg (by omega), ld_t (by omega) (by omega), show z1 1600 0 (Int.toNat 0) = K - 2 from t4, e1, sto_t (by omega) (by omega), show Int.toNat 0 = 0 from rfl]
  generalize st2 z1 1600 0 0 (K - 1) = S at q0 q3 ⊢
  rw [ld_t (by omega) (by omega), show S 1600 0 (Int.toNat 0) = K - 1 from q0, ld_t (by omega) (by omega), show S 1537 0 (Int.toNat 3) = L from q3, jmul_e (by omega) (by omega), if_neg (by omega), e2, bnd, if_pos (by omega)]
theorem play_end {f g n : Int} {S : S2} : f243_a f g n (-1) S = some (.inr S) := by
  unfold f243_a
  rw [if_pos (by decide)]
theorem m243 {t : S2} {C Y : V2} {code : List Int} {f g n : Nat} {p : Int × Int} (hC : CB C) (hY : YB C Y) (h9 : Y 512 0 ≤ 999) (hM : MS C Y code 0 t) (hf : f < 4) (hg : g < 4) (hf2 : (f : Int) < C 387 0) (hg2 : (g : Int) < C 387 0) (hn : 1 ≤ n ∧ n ≤ 3) (hp : gB C Y code f g n = some p) : ∃ t', f243 f g n t = some t' ∧ t' 1601 0 0 = p.1 ∧ t' 1602 0 0 = p.2 ∧ Ask t t' := by
  have hcc := hC.1
  obtain ⟨t1, k1, k2⟩ := AK.keep (t := t)
  have f0 : Fr (fun f i => Nat.beq f 1600 || Nat.beq f 1601) t1 (st2 (st2 t1 1600 0 0 (-2)) 1601 0 0 1000000) := (Fr.rf.st rfl).st rfl
  have hno : ∀ f, f ≠ 1600 → f ≠ 1601 → (Nat.beq f 1600 || Nat.beq f 1601) = false := fun f h1 h2 => by
    rw [← Bool.not_eq_true, Bool.or_eq_true, Nat.beq_eq, Nat.beq_eq]
    omega
  have hT : Top t C (fun _ => 0) 0 0 none (st2 (st2 t1 1600 0 0 (-2)) 1601 0 0 1000000) := by
    refine ⟨k2.kf.fr f0 (fun f i q => hno f (by have := pAk_f.mp q; omega) (by have := pAk_f.mp q; omega)) (hno _ (by decide) (by decide)) (hno _ (by decide) (by decide)), ?_, fun j hj => by omega, ?_, st2_eq⟩
    · rw [st2_ne (by omega), st2_ne (by omega)]; exact (k2.ms hM hC).l3
    · rw [st2_ne (by omega), st2_eq]
      rfl
  obtain ⟨K, hK⟩ := Int.eq_ofNat_of_zero_le (show 0 ≤ 10 * C 388 0 + 1 by omega)
  obtain ⟨m, z1, a1, a2, a3, a4, a5⟩ := turn_all (steps_all hC hY h9 hM hf hg hf2 hg2 hn) (fun j hj => by omega) hT (k := K) (by omega)
  obtain ⟨b1, b2, b3, b4, b5⟩ := a3
  have hbk : bK C Y code f g (fun _ => 0) (n - 1) 0 K = some p := by
    rw [bK_all hC (by omega)]
    exact hp
  rw [hbk] at b5 a4
  have f1 : Fr (pF1 1600) z1 (st2 z1 1600 0 0 ((K : Int) - 1)) := Fr.rf.st pF1_t
  obtain ⟨z3, c1, c2, c3⟩ := (b1.fr f1 (fun f i q => pF1_f.mpr (by have := pAk_f.mp q; omega)) (pF1_f.mpr (by omega)) (pF1_f.mpr (by omega))).back
  have hlast : bPl f g n (0, z1) = some (.inl (-1, st2 z1 1600 0 0 ((K : Int) - 1))) := play_exit0 b4 hK.symm (by omega) b2
  have hend : bPl f g n (-1, st2 z1 1600 0 0 ((K : Int) - 1)) = some (.inr (st2 z1 1600 0 0 ((K : Int) - 1))) := play_end
  have hfu : m + 1 < am_fu := by
    have hm : K * 4000 ≤ 61 * 4000 := Nat.mul_le_mul_right 4000 (by omega)
    exact fu_lt (by omega)
  have a2' : stp (bPl f g n) m (0, st2 (st2 t1 1600 0 0 (-2)) 1601 0 0 1000000) (0, z1) := a2
  have hrun : ∀ N, m + 1 < N → itr (bPl f g n) N (0, st2 (st2 t1 1600 0 0 (-2)) 1601 0 0 1000000) = some (st2 z1 1600 0 0 ((K : Int) - 1)) := fun N hN => itr_stp (stp_tr a2' (stp_1 hlast)) hend hN
  refine ⟨z3, ?_, ?_, ?_, c2.1⟩
  · unfold f243
    rw [k1, cP_s, sto_t (by omega) (by omega), sto_t (by omega) (by omega)]
    show cP (itr (bPl f g n) am_fu (0, st2 (st2 t1 1600 0 0 (-2)) 1601 0 0 1000000)) _ = _
    rw [hrun am_fu hfu, cP_s, c1, cP_s]
  · rw [c3 _ _ (pJ_f.mpr (by omega)), st2_ne (by omega)]; exact b5
  · rw [c3 _ _ (pJ_f.mpr (by omega)), st2_ne (by omega)]; exact a4 rfl p rfl
theorem call_game {s : S2} {C Y : V2} {code : List Int} {a b c d : Int} (h : Rel s C Y code) (ia : i32 a) (ib : i32 b) (ic : i32 c) (id : i32 d) : ∃ r s1 s2, f117 a b c d s = some (r, s1) ∧ f242 a b c d s1 = some (r, s2) ∧ Ask s s2 := by
  have hM := h.2.2.2.2.2.2.2
  have hC := h.2.2.1
  have hY := h.2.2.2.1
  have h9 := h.2.2.2.2.1
  have hcc := hC.1
  obtain ⟨e1, e2, e3⟩ := cw0f h.1
  have jc : ji2l c = c := by unfold i32 at ic; exact ji2l_e (by omega) (by omega)
  have jd : ji2l d = d := by unfold i32 at id; exact ji2l_e (by omega) (by omega)
  by_cases hp : (0 ≤ a ∧ a < C 387 0) ∧ (0 ≤ b ∧ b < C 387 0) ∧ ¬ a = b ∧ (1 ≤ c ∧ c ≤ 3) ∧ (0 ≤ d ∧ d ≤ 1)
  · obtain ⟨ha, hb, hab, hc, hd⟩ := hp
    obtain ⟨f, rfl⟩ := Int.eq_ofNat_of_zero_le ha.1
    obtain ⟨g, rfl⟩ := Int.eq_ofNat_of_zero_le hb.1
    obtain ⟨n, rfl⟩ := Int.eq_ofNat_of_zero_le (show 0 ≤ c by omega)
    obtain ⟨p, hp⟩ := gB_ex (C := C) (Y := Y) (code := code) (f := f) (g := g) (n := n)
    obtain ⟨s1, k1, k2, k3, k4⟩ := h.start
    obtain ⟨s2, l1, l2, l3, l4⟩ := c118 k2 k3 hY h9 (show f < 4 by omega) (show g < 4 by omega) (show 1 ≤ n ∧ n ≤ 3 by omega) hp
    have F1 : Fr pAk s s2 := (k4.mo fun f i q => pS_k q).tr (l4.mo fun f i q => pGa_f.mpr ⟨pGt_f.mpr ⟨pP_k q, by have := pAk_f.mp q; omega, by have := pAk_f.mp q; omega⟩, by have := pAk_f.mp q; omega⟩)
    have F2 : Fr pCl s s2 := (k4.mo fun f i q => pS_cl q).tr (l4.mo fun f i q => pGa_f.mpr ⟨pGt_f.mpr ⟨pP_cl q, by have := pCl_f.mp q; omega, by have := pCl_f.mp q; omega⟩, by have := pCl_f.mp q; omega⟩)
    have hM2 := hM.cl F2
    obtain ⟨t2, m1, m2, m3, m4⟩ := m243 hC hY h9 hM2 (show f < 4 by omega) (show g < 4 by omega) ha.2 hb.2 (show 1 ≤ n ∧ n ≤ 3 by omega) hp
    refine ⟨if d = 0 then p.1 else p.2, s2, t2, ?_, ?_, (Ask.cl F1 F2).tr m4⟩
    · unfold f117
      simp only [jn]
      rw [m51t (by omega), cP_s, if_neg ne10, m51t (by omega), cP_s, if_neg ne10, if_neg hab, if_neg ne10, if_neg (by omega), if_neg (by omega), if_neg (by omega), if_pos hd.2, k1, cP_s, l1, cP_s]
      by_cases d0 : d = 0
      · rw [if_neg (show ¬ ¬ d = 0 from fun w => w d0), if_pos d0, bnd, l2]
      · rw [if_pos d0, if_neg d0, bnd, l3]
    · unfold f242
      rw [m198 hC hM2.1 ia, if_pos ha, cP_s, if_neg ne10, m198 hC hM2.1 ib, if_pos hb, cP_s, if_neg ne10, if_neg hab, jc, m173t hc, cP_s, if_neg ne10, jd, m173t hd, cP_s, if_pos ne10, m1, cP_s]
      by_cases d0 : d = 0
      · rw [if_neg (show ¬ ¬ d = 0 from fun w => w d0), if_pos d0, ld_t (by omega) (by omega), show t2 1601 0 (Int.toNat 0) = p.1 from m2]
      · rw [if_pos d0, if_neg d0, bnd, m3]
  · refine ⟨-100000, s, s, ?_, ?_, Ask.rf⟩
    · unfold f117
      simp only [jn]
      by_cases ha : 0 ≤ a ∧ a < C 387 0
      · rw [m51t (by omega), cP_s, if_neg ne10]
        by_cases hb : 0 ≤ b ∧ b < C 387 0
        · rw [m51t (by omega), cP_s, if_neg ne10]
          by_cases hab : a = b
          · rw [if_pos hab, if_pos trivial]
          · rw [if_neg hab, if_neg ne10]
            by_cases c1 : c < 1
            · rw [if_pos c1]
            · rw [if_neg c1]
              by_cases c3 : 3 < c
              · rw [if_pos c3]
              · rw [if_neg c3]
                by_cases d0 : d < 0
                · rw [if_pos d0]
                · rw [if_neg d0, if_neg (fun w => hp ⟨ha, hb, hab, by omega, by omega⟩)]
        · rw [m51f (by omega), cP_s, if_pos rfl, if_pos trivial]
      · rw [m51f (by omega), cP_s, if_pos rfl, if_pos trivial]
    · unfold f242
      by_cases ha : 0 ≤ a ∧ a < C 387 0
      · rw [m198 hC hM.1 ia, if_pos ha, cP_s, if_neg ne10]
        by_cases hb : 0 ≤ b ∧ b < C 387 0
        · rw [m198 hC hM.1 ib, if_pos hb, cP_s, if_neg ne10]
          by_cases hab : a = b
          · rw [if_pos hab]
          · rw [if_neg hab, jc]
            by_cases hc : 1 ≤ c ∧ c ≤ 3
            · rw [m173t hc, cP_s, if_neg ne10, jd, m173f (fun w => hp ⟨ha, hb, hab, hc, w⟩), cP_s, if_neg (by decide)]
            · rw [m173f hc, cP_s, if_pos rfl]
        · rw [m198 hC hM.1 ib, if_neg hb, cP_s, if_pos rfl]
      · rw [m198 hC hM.1 ia, if_neg ha, cP_s, if_pos rfl]
