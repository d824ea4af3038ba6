/-! GAME on both sides -/
theorem avB_no {C Y : V2} {f : Int} {k : Nat} (h : 10 * C 388 0 < k) (h0 : 0 ≤ C 388 0) : avB C Y f k = false := by
  have h2 : mayI C Y (((k - 1) % 10 : Nat) : Int) (((k - 1) / 10 : Nat) : Int) = 0 := by
    rcases mayI_01 (C := C) (Y := Y) (n := (((k - 1) % 10 : Nat) : Int)) (l := (((k - 1) / 10 : Nat) : Int)) with w | w
    · exact w
    · have := (mayI_t (by omega) : mayH C Y (((k - 1) % 10 : Nat) : Int) (((k - 1) / 10 : Nat) : Int)).2.1.2.1
      omega
  unfold avB
  rw [decide_eq_true h2, decide_eq_false (by omega)]
  cases decide (C 395 ((k - 1) % 10) = f) <;> rfl
theorem bK_all {C Y : V2} {code : List Int} {f g : Nat} {ks : Nat → Nat} {d at' K : Nat} (hC : CB C) (hK : (K : Int) = 10 * C 388 0 + 1) : bK C Y code f g ks d at' K = bK C Y code f g ks d at' 61 := by
  have hcc := hC.1
  exact (bst_cut (by omega) (fun k h1 h2 => avB_no (by omega) (by omega))).symm
theorem bK_V {C Y : V2} {code : List Int} {f g : Nat} {ks : Nat → Nat} {d at' : Nat} : vE (bK C Y code f g ks d at' 61) = gV C code f g (d + 1) at' (pathY C Y code ks at') := by
  obtain ⟨p, hp⟩ := bst_ex (ev := evT at') (av := avB C (pathY C Y code ks at') (famT f g at')) (val := valK C Y code f g ks d at') rfl (k := 61) (by omega)
  show vE (bst _ _ _ 61) = bV (bst _ _ _ 61)
  have e : bst (evT at') (avB C (pathY C Y code ks at') (famT f g at')) (fun k => gV C code f g d (at' + 1) (nxY C code (pathY C Y code ks at') k)) 61 = some p := hp
  rw [hp, e]
  rfl
/-- a turn gone through, its value told to the one ahead -/
theorem turn_up {t z : S2} {C Y : V2} {code : List Int} {f g n d a B : Nat} {ks : Nat → Nat} (hC : CB C) (hY : YB C Y) (h9 : Y 512 0 ≤ 999) (hf : f < 4) (hg : g < 4) (hd : d + 1 ≤ 3) (ha : a + 1 < 3) (hS : StepOK t C Y code f g n d (a + 1) B) (hp : pathOK C Y code f g ks (a + 1)) (hT : Top t C ks (a + 1) 0 none z) : ∃ m z', m ≤ 61 * B + 1 ∧ stp (bPl f g n) m (((a + 1 : Nat) : Int), z) ((a : Int), z') ∧ KF t z' ∧ z' 1537 0 3 = C 388 0 ∧ (∀ j, j ≤ a → z' 1600 0 j = z 1600 0 j) ∧ TV a (gV C code f g (d + 1) (a + 1) (pathY C Y code ks (a + 1))) z z' := by
  have hcc := hC.1
  obtain ⟨K, hK⟩ := Int.eq_ofNat_of_zero_le (show 0 ≤ 10 * C 388 0 + 1 by omega)
  obtain ⟨m, z1, a1, a2, a3, a4, a5⟩ := turn_all hS hp hT (k := K) (by omega)
  obtain ⟨t1, t2, t3, t4, t5⟩ := a3
  rw [bK_all hC (by omega), bK_V] at t5
  have hv := gV_rng (code := code) (t := a + 1) hC hf hg (pathY_YB (code := code) (ks := ks) hC hY h9 (j := a + 1) (by omega)) (show pathY C Y code ks (a + 1) 512 0 + ((d + 1 : Nat) : Int) ≤ 1100 by rw [pathY_h]; omega)
  have f0 : Fr (pF1 1600) z1 (st2 z1 1600 0 (a + 1) ((K : Int) - 1)) := Fr.rf.st pF1_t
  obtain ⟨z2, b1, b2, b3⟩ := m244 (z := st2 z1 1600 0 (a + 1) ((K : Int) - 1)) (at' := a) (v := gV C code f g (d + 1) (a + 1) (pathY C Y code ks (a + 1))) (by omega) (by omega)
  have hm : K * B ≤ 61 * B := Nat.mul_le_mul_right B (by omega)
  refine ⟨m + 1, z2, by omega, stp_tr a2 (stp_1 ?_), (t1.fr f0 (fun f i q => pF1_f.mpr (by have := pAk_f.mp q; omega)) (pF1_f.mpr (by omega)) (pF1_f.mpr (by omega))).fr b3 (fun f i q => pTV_f.mpr (by have := pAk_f.mp q; omega)) (pTV_f.mpr (by omega)) (pTV_f.mpr (by omega)), ?_, fun j hj => ?_, ?_⟩
  · show f243_a f g n _ z1 = _
    have e1 : jadd ((K : Int) - 2) 1 = (K : Int) - 1 := by rw [jadd_e (by omega) (by omega)]; omega
    have e2 : jadd ((a + 1 : Nat) : Int) (-1) = (a : Int) := by rw [jadd_e (by omega) (by omega)]; omega
    have e3 : jadd (a : Int) 1 = ((a + 1 : Nat) : Int) := by rw [jadd_e (by omega) (by omega)]; rfl
    unfold f243_a
    rw [if_neg (by omega), ld_t (by omega) (by omega), Int.toNat_natCast, t4, e1, sto_t (by omega) (by omega), Int.toNat_natCast, ld_t (by omega) (by omega), Int.toNat_natCast, st2_eq, ld_t (by omega) (by omega), show st2 z1 1600 0 (a + 1) ((K : Int) - 1) 1537 0 (Int.toNat 3) = C 388 0 from (st2_ne (by omega)).trans t2, jmul_e (by omega) (by omega), if_neg (by omega), e2, bnd, if_neg (by omega), e3, ld_t (by omega) (by omega), Int.toNat_natCast, st2_ne (by omega), t5, b1, cP_s]
  · rw [b3 _ _ (pTV_f.mpr (by omega)), st2_ne (by omega)]; exact t2
  · rw [b3 _ _ (pTV_f.mpr (by omega)), st2_ne (by omega)]; exact (a5.1 j (by omega)).1
  · exact b2.of (fun j hj => by rw [st2_ne (by omega)]; exact (a5.1 j (by omega)).2) (by rw [st2_ne (by omega)]; exact a5.2 (by omega)) (by rw [st2_ne (by omega)]; exact (a5.1 0 (by omega)).1)
theorem pathY_congr {C Y : V2} {code : List Int} {ks ks' : Nat → Nat} : ∀ {j : Nat}, (∀ i, i < j → ks i = ks' i) → pathY C Y code ks j = pathY C Y code ks' j
  | 0, _ => rfl
  | j + 1, h => by
    show nxY C code (pathY C Y code ks j) (ks j) = nxY C code (pathY C Y code ks' j) (ks' j)
    rw [pathY_congr (j := j) (fun i hi => h i (by omega)), h j (by omega)]
/-- a turn with d + 1 behind it -/
theorem step_more {t : S2} {C Y : V2} {code : List Int} {f g n d a B : Nat} (hC : CB C) (hY : YB C Y) (h9 : Y 512 0 ≤ 999) (hM : MS C Y code 0 t) (hf : f < 4) (hg : g < 4) (hn : n ≤ 3) (hat : a + 1 + d + 1 = n) (hS : StepOK t C Y code f g n d (a + 1) B) : StepOK t C Y code f g n (d + 1) a (61 * B + 2) := by
  intro ks k z hp hk hT hFA
  obtain ⟨s13, a1, a2, a3, a4⟩ := play_head (n := n) hC hY h9 hM (by omega) hp hk hT
  rcases a4 with ⟨hav, hst⟩ | ⟨hav, s19, b1, b2, b3, hst⟩
  · refine ⟨1, s13, by omega, stp_1 hst, ⟨a2, a1.l3, fun j hj => ?_, ?_, ?_⟩, ?_, Un.pl a3⟩
    · rw [((Un.pl a3).1 j hj).1]; exact hT.2.2.1 j hj
    · rw [a3 _ _ (pPl_o (by omega)), st2_eq]; omega
    · rw [bK_f hav, a3 _ _ (pPl_o (by omega)), st2_ne (by omega)]; exact hT.2.2.2.2
    · rw [bK_f hav]
      intro h0 p hp'
      rw [a3 _ _ (pPl_o (by omega)), st2_ne (by omega)]
      exact hFA h0 p hp'
  · have hU := Un.pl b3
    obtain ⟨ks', hks, hka⟩ : ∃ ks' : Nat → Nat, (∀ i, i < a → ks' i = ks i) ∧ ks' a = k := ⟨fun i => if i = a then k else ks i, fun i hi => if_neg (by omega), if_pos rfl⟩
    have hpa : pathY C Y code ks' a = pathY C Y code ks a := pathY_congr hks
    have hp' : pathOK C Y code f g ks' (a + 1) := fun j hj => by
      by_cases e : j = a
      · subst e
        rw [hka, hpa]
        exact ⟨hav, hk⟩
      · rw [hks j (by omega), pathY_congr (ks := ks') (ks' := ks) (fun i hi => hks i (by omega))]
        exact hp j (by omega)
    have hpath : pathY C Y code ks' (a + 1) = nxY C code (pathY C Y code ks a) k := by
      show nxY C code (pathY C Y code ks' a) (ks' a) = _
      rw [hpa, hka]
    have f0 : Fr (fun f i => Nat.beq f 1600 || Nat.beq f 1601) s19 (st2 (st2 s19 1600 0 (a + 1) (-2)) 1601 0 (a + 1) 1000000) := (Fr.rf.st rfl).st rfl
    have hno : ∀ f, f ≠ 1600 → f ≠ 1601 → (Nat.beq f 1600 || Nat.beq f 1601) = false := fun f h1 h2 => by
      rw [← Bool.not_eq_true, Bool.or_eq_true, Nat.beq_eq, Nat.beq_eq]
      omega
    have hT' : Top t C ks' (a + 1) 0 none (st2 (st2 s19 1600 0 (a + 1) (-2)) 1601 0 (a + 1) 1000000) := by
      refine ⟨b2.fr f0 (fun f i q => hno f (by have := pAk_f.mp q; omega) (by have := pAk_f.mp q; omega)) (hno _ (by decide) (by decide)) (hno _ (by decide) (by decide)), ?_, fun j hj => ?_, ?_, st2_eq⟩
      · rw [st2_ne (by omega), st2_ne (by omega)]; exact b1.l3
      · rw [st2_ne (by omega), st2_ne (by omega), b3 _ _ (pPl_o (by omega))]
        by_cases e : j = a
        · subst e
          rw [st2_eq, hka]
        · rw [st2_ne (by omega), hks j (by omega)]
          exact hT.2.2.1 j (by omega)
      · rw [st2_ne (by omega), st2_eq]
        rfl
    obtain ⟨m, z', c1, c2, c3, c4, c5, c6⟩ := turn_up (f := f) (g := g) hC hY h9 hf hg (by omega) (by omega) hS hp' hT'
    rw [hpath] at c6
    obtain ⟨d1, d2, d3⟩ := play_took (t := t) (z := z) (s := st2 (st2 s19 1600 0 (a + 1) (-2)) 1601 0 (a + 1) 1000000) (z' := z') (code := code) (d := d + 1) hC hY h9 hf hg (by omega) (show a < 3 by omega) hav hT hFA (fun j hj => by rw [st2_ne (by omega), st2_ne (by omega)]; exact (hU.1 j hj).1) (fun j hj => by rw [st2_ne (by omega), st2_ne (by omega), b3 _ _ (pPl_o (by omega)), st2_ne (by omega)]) (by rw [st2_ne (by omega), st2_ne (by omega), b3 _ _ (pPl_o (by omega)), st2_ne (by omega)]) (by rw [st2_ne (by omega), st2_ne (by omega), b3 _ _ (pPl_o (by omega)), st2_eq]) c6 c5 c3 c4
    refine ⟨1 + m, z', by omega, stp_tr (stp_1 ?_) c2, d1, d2, d3⟩
    show f243_a f g n a z = _
    have e3 : jadd (a : Int) 1 = ((a + 1 : Nat) : Int) := by rw [jadd_e (by omega) (by omega)]; rfl
    rw [hst, if_pos (by rw [jsub_e (by omega) (by omega)]; omega), e3, bnd, sto_t (by omega) (by omega), Int.toNat_natCast, sto_t (by omega) (by omega), Int.toNat_natCast]
theorem steps_all {t : S2} {C Y : V2} {code : List Int} {f g n : Nat} (hC : CB C) (hY : YB C Y) (h9 : Y 512 0 ≤ 999) (hM : MS C Y code 0 t) (hf : f < 4) (hg : g < 4) (hf2 : (f : Int) < C 387 0) (hg2 : (g : Int) < C 387 0) (hn : 1 ≤ n ∧ n ≤ 3) : StepOK t C Y code f g n (n - 1) 0 4000 := by
  have weak : ∀ {d a B B' : Nat}, B ≤ B' → StepOK t C Y code f g n d a B → StepOK t C Y code f g n d a B' := fun hB h ks k z h1 h2 h3 h4 => by
    obtain ⟨m, z', a1, a2⟩ := h ks k z h1 h2 h3 h4
    exact ⟨m, z', by omega, a2⟩
  have h1 : n = 1 ∨ n = 2 ∨ n = 3 := by omega
  rcases h1 with rfl | rfl | rfl
  · exact weak (by omega) (step_last hC hY h9 hM hf hg hf2 hg2 (by omega) rfl)
  · exact weak (by omega) (step_more (d := 0) (a := 0) hC hY h9 hM hf hg (by omega) rfl (step_last hC hY h9 hM hf hg hf2 hg2 (by omega) rfl))
  · exact weak (by omega) (step_more (d := 1) (a := 0) hC hY h9 hM hf hg (by omega) rfl (step_more (d := 0) (a := 1) hC hY h9 hM hf hg (by omega) rfl (step_last hC hY h9 hM hf hg hf2 hg2 (by omega) rfl)))
theorem m243 {t : S2} {C Y : V2} {code : List Int} {f g n : Nat} {p : Int × Int} (hC : CB C) (hY : YB C Y) (h9 : Y 512 0 ≤ 999) (hM : MS C Y code 0 t) (hf : f < 4) (hg : g < 4) (hf2 : (f : Int) < C 387 0) (hg2 : (g : Int) < C 387 0) (hn : 1 ≤ n ∧ n ≤ 3) (hp : gB C Y code f g n = some p) : ∃ t', f243 f g n t = some t' ∧ t' 1601 0 0 = p.1 ∧ t' 1602 0 0 = p.2 ∧ Ask t t' := by
  have hcc := hC.1
  obtain ⟨t1, k1, k2⟩ := AK.keep (t := t)
  have f0 : Fr (fun f i => Nat.beq f 1600 || Nat.beq f 1601) t1 (st2 (st2 t1 1600 0 0 (-2)) 1601 0 0 1000000) := (Fr.rf.st rfl).st rfl
  have hno : ∀ f, f ≠ 1600 → f ≠ 1601 → (Nat.beq f 1600 || Nat.beq f 1601) = false := fun f h1 h2 => by
    rw [← Bool.not_eq_true, Bool.or_eq_true, Nat.beq_eq, Nat.beq_eq]
    omega
  have hT : Top t C (fun _ => 0) 0 0 none (st2 (st2 t1 1600 0 0 (-2)) 1601 0 0 1000000) := by
    refine ⟨k2.kf.fr f0 (fun f i q => hno f (by have := pAk_f.mp q; omega) (by have := pAk_f.mp q; omega)) (hno _ (by decide) (by decide)) (hno _ (by decide) (by decide)), ?_, fun j hj => by omega, ?_, st2_eq⟩
    · rw [st2_ne (by omega), st2_ne (by omega)]; exact (k2.ms hM hC).l3
    · rw [st2_ne (by omega), st2_eq]
      rfl
  obtain ⟨K, hK⟩ := Int.eq_ofNat_of_zero_le (show 0 ≤ 10 * C 388 0 + 1 by omega)
  obtain ⟨m, z1, a1, a2, a3, a4, a5⟩ := turn_all (steps_all hC hY h9 hM hf hg hf2 hg2 hn) (fun j hj => by omega) hT (k := K) (by omega)
  obtain ⟨b1, b2, b3, b4, b5⟩ := a3
  have hbk : bK C Y code f g (fun _ => 0) (n - 1) 0 K = some p := by
    rw [bK_all hC (by omega)]
    exact hp
  rw [hbk] at b5 a4
  have f1 : Fr (pF1 1600) z1 (st2 z1 1600 0 0 ((K : Int) - 1)) := Fr.rf.st pF1_t
  obtain ⟨z3, c1, c2, c3⟩ := (b1.fr f1 (fun f i q => pF1_f.mpr (by have := pAk_f.mp q; omega)) (pF1_f.mpr (by omega)) (pF1_f.mpr (by omega))).back
  have hlast : bPl f g n (0, z1) = some (.inl (-1, st2 z1 1600 0 0 ((K : Int) - 1))) := by
    show f243_a f g n 0 z1 = _
    have e1 : jadd ((K : Int) - 2) 1 = (K : Int) - 1 := by rw [jadd_e (by omega) (by omega)]; omega
    have e2 : jadd (0 : Int) (-1) = -1 := by decide
    unfold f243_a
    rw [if_neg (by omega), ld_t (by omega) (by omega), show z1 1600 0 (Int.toNat 0) = (K : Int) - 2 from b4, e1, sto_t (by omega) (by omega), ld_t (by omega) (by omega), show st2 z1 1600 0 (Int.toNat 0) ((K : Int) - 1) 1600 0 (Int.toNat 0) = (K : Int) - 1 from st2_eq, ld_t (by omega) (by omega), show st2 z1 1600 0 (Int.toNat 0) ((K : Int) - 1) 1537 0 (Int.toNat 3) = C 388 0 from (st2_ne (by omega)).trans b2, jmul_e (by omega) (by omega), if_neg (by omega), e2, bnd, if_pos (by omega)]
    rfl
  have hend : bPl f g n (-1, st2 z1 1600 0 0 ((K : Int) - 1)) = some (.inr (st2 z1 1600 0 0 ((K : Int) - 1))) := by
    show f243_a f g n (-1) _ = _
    unfold f243_a
    rw [if_pos (by omega)]
  have hm : K * 4000 ≤ 61 * 4000 := Nat.mul_le_mul_right 4000 (by omega)
  have hrun := itr_stp (n := am_fu) (stp_tr a2 (stp_1 hlast)) hend (fu_lt (by omega))
  refine ⟨z3, ?_, ?_, ?_, c2.1⟩
  · unfold f243
    rw [k1, cP_s, sto_t (by omega) (by omega), sto_t (by omega) (by omega)]
    show cP (itr (bPl f g n) am_fu (0, st2 (st2 t1 1600 0 0 (-2)) 1601 0 0 1000000)) _ = _
    have hrun' : itr (bPl f g n) am_fu (0, st2 (st2 t1 1600 0 0 (-2)) 1601 0 0 1000000) = some (st2 z1 1600 0 0 ((K : Int) - 1)) := hrun
    rw [hrun', cP_s, c1, cP_s]
  · rw [c3 _ _ (pJ_f.mpr (by omega)), st2_ne (by omega)]; exact b5
  · rw [c3 _ _ (pJ_f.mpr (by omega)), st2_ne (by omega)]; exact a4 rfl p rfl
theorem call_game {s : S2} {C Y : V2} {code : List Int} {a b c d : Int} (h : Rel s C Y code) (ia : i32 a) (ib : i32 b) (ic : i32 c) (id : i32 d) : ∃ r s1 s2, f117 a b c d s = some (r, s1) ∧ f242 a b c d s1 = some (r, s2) ∧ Ask s s2 := by
  have hM := h.2.2.2.2.2.2.2
  have hC := h.2.2.1
  have hY := h.2.2.2.1
  have h9 := h.2.2.2.2.1
  have hcc := hC.1
  obtain ⟨e1, e2, e3⟩ := cw0f h.1
  have jc : ji2l c = c := by unfold i32 at ic; exact ji2l_e (by omega) (by omega)
  have jd : ji2l d = d := by unfold i32 at id; exact ji2l_e (by omega) (by omega)
  by_cases hp : (0 ≤ a ∧ a < C 387 0) ∧ (0 ≤ b ∧ b < C 387 0) ∧ ¬ a = b ∧ (1 ≤ c ∧ c ≤ 3) ∧ (0 ≤ d ∧ d ≤ 1)
  · obtain ⟨ha, hb, hab, hc, hd⟩ := hp
    obtain ⟨f, rfl⟩ := Int.eq_ofNat_of_zero_le ha.1
    obtain ⟨g, rfl⟩ := Int.eq_ofNat_of_zero_le hb.1
    obtain ⟨n, rfl⟩ := Int.eq_ofNat_of_zero_le (show 0 ≤ c by omega)
    obtain ⟨p, hp⟩ := gB_ex (C := C) (Y := Y) (code := code) (f := f) (g := g) (n := n)
    obtain ⟨s1, k1, k2, k3, k4⟩ := h.start
    obtain ⟨s2, l1, l2, l3, l4⟩ := c118 k2 k3 hY h9 (show f < 4 by omega) (show g < 4 by omega) (show 1 ≤ n ∧ n ≤ 3 by omega) hp
    have F1 : Fr pAk s s2 := (k4.mo fun f i q => pS_k q).tr (l4.mo fun f i q => pGa_f.mpr ⟨pGt_f.mpr ⟨pP_k q, by have := pAk_f.mp q; omega, by have := pAk_f.mp q; omega⟩, by have := pAk_f.mp q; omega⟩)
    have F2 : Fr pCl s s2 := (k4.mo fun f i q => pS_cl q).tr (l4.mo fun f i q => pGa_f.mpr ⟨pGt_f.mpr ⟨pP_cl q, by have := pCl_f.mp q; omega, by have := pCl_f.mp q; omega⟩, by have := pCl_f.mp q; omega⟩)
    have hM2 := hM.cl F2
    obtain ⟨t2, m1, m2, m3, m4⟩ := m243 hC hY h9 hM2 (show f < 4 by omega) (show g < 4 by omega) ha.2 hb.2 (show 1 ≤ n ∧ n ≤ 3 by omega) hp
    refine ⟨if d = 0 then p.1 else p.2, s2, t2, ?_, ?_, (Ask.cl F1 F2).tr m4⟩
    · unfold f117
      simp only [jn]
      rw [m51t (by omega), cP_s, if_neg ne10, m51t (by omega), cP_s, if_neg ne10, if_neg hab, if_neg ne10, if_neg (by omega), if_neg (by omega), if_neg (by omega), if_pos hd.2, k1, cP_s, l1, cP_s]
      by_cases d0 : d = 0
      · rw [if_neg (show ¬ ¬ d = 0 from fun w => w d0), if_pos d0, bnd, l2]
      · rw [if_pos d0, if_neg d0, bnd, l3]
    · unfold f242
      rw [m198 hC hM2.1 ia, if_pos ha, cP_s, if_neg ne10, m198 hC hM2.1 ib, if_pos hb, cP_s, if_neg ne10, if_neg hab, jc, m173t hc, cP_s, if_neg ne10, jd, m173t hd, cP_s, if_pos ne10, m1, cP_s]
      by_cases d0 : d = 0
      · rw [if_neg (show ¬ ¬ d = 0 from fun w => w d0), if_pos d0, ld_t (by omega) (by omega), show t2 1601 0 (Int.toNat 0) = p.1 from m2]
      · rw [if_pos d0, if_neg d0, bnd, m3]
  · refine ⟨-100000, s, s, ?_, ?_, Ask.rf⟩
    · unfold f117
      simp only [jn]
      by_cases ha : 0 ≤ a ∧ a < C 387 0
      · rw [m51t (by omega), cP_s, if_neg ne10]
        by_cases hb : 0 ≤ b ∧ b < C 387 0
        · rw [m51t (by omega), cP_s, if_neg ne10]
          by_cases hab : a = b
          · rw [if_pos hab, if_pos trivial]
          · rw [if_neg hab, if_neg ne10]
            by_cases c1 : c < 1
            · rw [if_pos c1]
            · rw [if_neg c1]
              by_cases c3 : 3 < c
              · rw [if_pos c3]
              · rw [if_neg c3]
                by_cases d0 : d < 0
                · rw [if_pos d0]
                · rw [if_neg d0, if_neg (fun w => hp ⟨ha, hb, hab, by omega, by omega⟩)]
        · rw [m51f (by omega), cP_s, if_pos rfl, if_pos trivial]
      · rw [m51f (by omega), cP_s, if_pos rfl, if_pos trivial]
    · unfold f242
      by_cases ha : 0 ≤ a ∧ a < C 387 0
      · rw [m198 hC hM.1 ia, if_pos ha, cP_s, if_neg ne10]
        by_cases hb : 0 ≤ b ∧ b < C 387 0
        · rw [m198 hC hM.1 ib, if_pos hb, cP_s, if_neg ne10]
          by_cases hab : a = b
          · rw [if_pos hab]
          · rw [if_neg hab, jc]
            by_cases hc : 1 ≤ c ∧ c ≤ 3
            · rw [m173t hc, cP_s, if_neg ne10, jd, m173f (fun w => hp ⟨ha, hb, hab, hc, w⟩), cP_s, if_neg (by decide)]
            · rw [m173f hc, cP_s, if_pos rfl]
        · rw [m198 hC hM.1 ib, if_neg hb, cP_s, if_pos rfl]
      · rw [m198 hC hM.1 ia, if_neg ha, cP_s, if_pos rfl]
