/-! GAME on both sides -/
theorem avB_no {C Y : V2} {f : Int} {k : Nat} (h : 10 * C 388 0 < k) (h0 : 0 ≤ C 388 0) : avB C Y f k = false := by
  have h2 : mayI C Y (((k - 1) % 10 : Nat) : Int) (((k - 1) / 10 : Nat) : Int) = 0 := by
    rcases mayI_01 (C := C) (Y := Y) (n := (((k - 1) % 10 : Nat) : Int)) (l := (((k - 1) / 10 : Nat) : Int)) with w | w
    · exact w
    · have := (mayI_t (by omega) : mayH C Y (((k - 1) % 10 : Nat) : Int) (((k - 1) / 10 : Nat) : Int)).2.1.2.1
      omega
  unfold avB
  rw [decide_eq_true h2, decide_eq_false (by omega)]
  cases decide (C 395 ((k - 1) % 10) = f) <;> rfl
theorem bK_all {C Y : V2} {code : List Int} {f g : Nat} {ks : Nat → Nat} {d at' K : Nat} (hC : CB C) (hK : (K : Int) = 10 * C 388 0 + 1) : bK C Y code f g ks d at' K = bK C Y code f g ks d at' 61 := by
  have hcc := hC.1
  exact (bst_cut (by omega) (fun k h1 h2 => avB_no (by omega) (by omega))).symm
theorem bK_V {C Y : V2} {code : List Int} {f g : Nat} {ks : Nat → Nat} {d at' : Nat} : vE (bK C Y code f g ks d at' 61) = gV C code f g (d + 1) at' (pathY C Y code ks at') := by
  obtain ⟨p, hp⟩ := bst_ex (ev := evT at') (av := avB C (pathY C Y code ks at') (famT f g at')) (val := valK C Y code f g ks d at') rfl (k := 61) (by omega)
  show vE (bst _ _ _ 61) = bV (bst _ _ _ 61)
  have e : bst (evT at') (avB C (pathY C Y code ks at') (famT f g at')) (fun k => gV C code f g d (at' + 1) (nxY C code (pathY C Y code ks at') k)) 61 = some p := hp
  rw [hp, e]
  rfl
theorem j21 {K : Nat} (h : K ≤ 1000) : jadd ((K : Int) - 2) 1 = (K : Int) - 1 := by
  rw [jadd_e (by omega) (by omega)]
  omega
theorem jm1 {a : Nat} (h : a ≤ 1000) : jadd ((a + 1 : Nat) : Int) (-1) = (a : Int) := by
  rw [jadd_e (by omega) (by omega)]
  omega
theorem jp1 {a : Nat} (h : a ≤ 1000) : jadd (a : Int) 1 = ((a + 1 : Nat) : Int) := by
  rw [jadd_e (by omega) (by omega)]
  rfl
theorem play_exit {z1 : S2} {f g n : Int} {a : Nat} {K V L : Int} (ha : a + 1 < 3) (t4 : z1 1600 0 (a + 1) = K - 2) (hK : K = 10 * L + 1) (hL : 0 ≤ L ∧ L ≤ 6) (t2 : z1 1537 0 3 = L) (t5 : z1 1601 0 (a + 1) = V) : f243_a f g n ((a + 1 : Nat) : Int) z1 = cP (f244 a V (st2 z1 1600 0 (a + 1) (K - 1))) fun s28 => some (.inl ((a : Int), s28)) := by
  have e1 : jadd (K - 2) 1 = K - 1 := by
    rw [jadd_e (by omega) (by omega)]
    omega
  have e2 := jm1 (a := a) (by omega)
  have e3 := jp1 (a := a) (by omega)
  have q0 : st2 z1 1600 0 (a + 1) (K - 1) 1600 0 (a + 1) = K - 1 := st2_eq
  have q3 : st2 z1 1600 0 (a + 1) (K - 1) 1537 0 3 = L := by rw [st2_ne (Or.inl (by decide))]; exact t2
  have q5 : st2 z1 1600 0 (a + 1) (K - 1) 1601 0 (a + 1) = V := by rw [st2_ne (Or.inl (by decide))]; exact t5
  unfold f243_a
  rw [if_neg (by omega), ld_t (by omega) (by omega), Int.toNat_natCast, t4, e1, sto_t (by omega) (by omega), Int.toNat_natCast]
  generalize st2 z1 1600 0 (a + 1) (K - 1) = S at q0 q3 q5 ⊢
  rw [ld_t (by omega) (by omega), Int.toNat_natCast, q0, ld_t (by omega) (by omega), show S 1537 0 (Int.toNat 3) = L from q3, jmul_e (by omega) (by omega), if_neg (by omega), e2, bnd, if_neg (by omega), e3, ld_t (by omega) (by omega), Int.toNat_natCast, q5]
/-- a turn gone through, its value told to the one ahead -/
theorem turn_up {t z : S2} {C Y : V2} {code : List Int} {f g n d a B : Nat} {ks : Nat → Nat} (hC : CB C) (hY : YB C Y) (h9 : Y 512 0 ≤ 999) (hf : f < 4) (hg : g < 4) (hd : d + 1 ≤ 3) (ha : a + 1 < 3) (hS : StepOK t C Y code f g n d (a + 1) B) (hp : pathOK C Y code f g ks (a + 1)) (hT : Top t C ks (a + 1) 0 none z) : ∃ m z', m ≤ 61 * B + 1 ∧ stp (bPl f g n) m (((a + 1 : Nat) : Int), z) ((a : Int), z') ∧ KF t z' ∧ z' 1537 0 3 = C 388 0 ∧ (∀ j, j ≤ a → z' 1600 0 j = z 1600 0 j) ∧ TV a (gV C code f g (d + 1) (a + 1) (pathY C Y code ks (a + 1))) z z' := by
  have hcc := hC.1
  have ha1000 : a ≤ 1000 := by omega
  have e3 := jp1 ha1000
  obtain ⟨K, hK⟩ := Int.eq_ofNat_of_zero_le (show 0 ≤ 10 * C 388 0 + 1 by omega)
  obtain ⟨m, z1, a1, a2, a3, a4, a5⟩ := turn_all hS hp hT (k := K) (by omega)
  obtain ⟨t1, t2, t3, t4, t5⟩ := a3
  rw [bK_all hC (by omega), bK_V] at t5
  have hv := gV_rng (code := code) (t := a + 1) hC hf hg (pathY_YB (code := code) (ks := ks) hC hY h9 (j := a + 1) (by omega)) (show pathY C Y code ks (a + 1) 512 0 + ((d + 1 : Nat) : Int) ≤ 1100 by rw [pathY_h]; omega)
  generalize gV C code f g (d + 1) (a + 1) (pathY C Y code ks (a + 1)) = V at t5 hv ⊢
  have hex := play_exit (f := (f : Int)) (g := (g : Int)) (n := (n : Int)) ha t4 hK.symm (by omega) t2 t5
  have f0 : Fr (pF1 1600) z1 (st2 z1 1600 0 (a + 1) ((K : Int) - 1)) := Fr.rf.st pF1_t
  obtain ⟨z2, b1, b2, b3⟩ := m244 (z := st2 z1 1600 0 (a + 1) ((K : Int) - 1)) (at' := a) (v := V) (by omega) (by omega)
  have hm : m + 1 ≤ 61 * B + 1 := by
    have := Nat.mul_le_mul_right B (show K ≤ 61 by omega)
    omega
  clear a1
  refine ⟨m + 1, z2, hm, stp_tr a2 (stp_1 ?_), (t1.fr f0 (fun f i q => pF1_f.mpr (by have := pAk_f.mp q; omega)) (pF1_f.mpr (by omega)) (pF1_f.mpr (by omega))).fr b3 (fun f i q => pTV_f.mpr (by have := pAk_f.mp q; omega)) (pTV_f.mpr (by omega)) (pTV_f.mpr (by omega)), ?_, fun j hj => ?_, ?_⟩
  · clear hm
    show f243_a f g n ((a + 1 : Nat) : Int) z1 = _
    rw [hex, b1, cP_s]
  · rw [b3 _ _ (pTV_f.mpr (by omega)), st2_ne (by omega)]; exact t2
  · rw [b3 _ _ (pTV_f.mpr (by omega)), st2_ne (by omega)]; exact (a5.1 j (by omega)).1
  · exact b2.of (fun j hj => by rw [st2_ne (by omega)]; exact (a5.1 j (by omega)).2) (by rw [st2_ne (by omega)]; exact a5.2 (by omega)) (by rw [st2_ne (by omega)]; exact (a5.1 0 (by omega)).1)
theorem pathY_congr {C Y : V2} {code : List Int} {ks ks' : Nat → Nat} : ∀ {j : Nat}, (∀ i, i < j → ks i = ks' i) → pathY C Y code ks j = pathY C Y code ks' j
  | 0, _ => rfl
  | j + 1, h => by
    show nxY C code (pathY C Y code ks j) (ks j) = nxY C code (pathY C Y code ks' j) (ks' j)
    rw [pathY_congr (j := j) (fun i hi => h i (by omega)), h j (by omega)]
/-- a turn with d + 1 behind it -/
theorem step_more {t : S2} {C Y : V2} {code : List Int} {f g n d a B : Nat} (hC : CB C) (hY : YB C Y) (h9 : Y 512 0 ≤ 999) (hM : MS C Y code 0 t) (hf : f < 4) (hg : g < 4) (hn : n ≤ 3) (hat : a + 1 + d + 1 = n) (hS : StepOK t C Y code f g n d (a + 1) B) : StepOK t C Y code f g n (d + 1) a (61 * B + 2) := by
  intro ks k z hp hk hT hFA
  obtain ⟨s13, a1, a2, a3, a4⟩ := play_head (n := n) hC hY h9 hM (by omega) hp hk hT
  rcases a4 with ⟨hav, hst⟩ | ⟨hav, s19, b1, b2, b3, hst⟩
  · refine ⟨1, s13, by omega, stp_1 hst, ⟨a2, a1.l3, fun j hj => ?_, ?_, ?_⟩, ?_, Un.pl a3⟩
    · rw [((Un.pl a3).1 j hj).1]; exact hT.2.2.1 j hj
    · rw [a3 _ _ (pPl_o (by omega)), st2_eq]; omega
    · rw [bK_f hav, a3 _ _ (pPl_o (by omega)), st2_ne (by omega)]; exact hT.2.2.2.2
    · rw [bK_f hav]
      intro h0 p hp'
      rw [a3 _ _ (pPl_o (by omega)), st2_ne (by omega)]
      exact hFA h0 p hp'
  · have hU := Un.pl b3
    obtain ⟨ks', hks, hka⟩ : ∃ ks' : Nat → Nat, (∀ i, i < a → ks' i = ks i) ∧ ks' a = k := ⟨fun i => if i = a then k else ks i, fun i hi => if_neg (by omega), if_pos rfl⟩
    have hpa : pathY C Y code ks' a = pathY C Y code ks a := pathY_congr hks
    have hp' : pathOK C Y code f g ks' (a + 1) := fun j hj => by
      by_cases e : j = a
      · subst e
        rw [hka, hpa]
        exact ⟨hav, hk⟩
      · rw [hks j (by omega), pathY_congr (ks := ks') (ks' := ks) (fun i hi => hks i (by omega))]
        exact hp j (by omega)
    have hpath : pathY C Y code ks' (a + 1) = nxY C code (pathY C Y code ks a) k := by
      show nxY C code (pathY C Y code ks' a) (ks' a) = _
      rw [hpa, hka]
    have f0 : Fr (fun f i => Nat.beq f 1600 || Nat.beq f 1601) s19 (st2 (st2 s19 1600 0 (a + 1) (-2)) 1601 0 (a + 1) 1000000) := (Fr.rf.st rfl).st rfl
    have hno : ∀ f, f ≠ 1600 → f ≠ 1601 → (Nat.beq f 1600 || Nat.beq f 1601) = false := fun f h1 h2 => by
      rw [← Bool.not_eq_true, Bool.or_eq_true, Nat.beq_eq, Nat.beq_eq]
      omega
    have hT' : Top t C ks' (a + 1) 0 none (st2 (st2 s19 1600 0 (a + 1) (-2)) 1601 0 (a + 1) 1000000) := by
      refine ⟨b2.fr f0 (fun f i q => hno f (by have := pAk_f.mp q; omega) (by have := pAk_f.mp q; omega)) (hno _ (by decide) (by decide)) (hno _ (by decide) (by decide)), ?_, fun j hj => ?_, ?_, st2_eq⟩
      · rw [st2_ne (by omega), st2_ne (by omega)]; exact b1.l3
      · rw [st2_ne (by omega), st2_ne (by omega), b3 _ _ (pPl_o (by omega))]
        by_cases e : j = a
        · subst e
          rw [st2_eq, hka]
        · rw [st2_ne (by omega), hks j (by omega)]
          exact hT.2.2.1 j (by omega)
      · rw [st2_ne (by omega), st2_eq]
        rfl
    obtain ⟨m, z', c1, c2, c3, c4, c5, c6⟩ := turn_up (f := f) (g := g) hC hY h9 hf hg (by omega) (by omega) hS hp' hT'
    rw [hpath] at c6
    obtain ⟨d1, d2, d3⟩ := play_took (t := t) (z := z) (s := st2 (st2 s19 1600 0 (a + 1) (-2)) 1601 0 (a + 1) 1000000) (z' := z') (code := code) (d := d + 1) hC hY h9 hf hg (by omega) (show a < 3 by omega) hav hT hFA (fun j hj => by rw [st2_ne (by omega), st2_ne (by omega)]; exact (hU.1 j hj).1) (fun j hj => by rw [st2_ne (by omega), st2_ne (by omega), b3 _ _ (pPl_o (by omega)), st2_ne (by omega)]) (by rw [st2_ne (by omega), st2_ne (by omega), b3 _ _ (pPl_o (by omega)), st2_ne (by omega)]) (by rw [st2_ne (by omega), st2_ne (by omega), b3 _ _ (pPl_o (by omega)), st2_eq]) c6 c5 c3 c4
    refine ⟨1 + m, z', by omega, stp_tr (stp_1 ?_) c2, d1, d2, d3⟩
    show f243_a f g n a z = _
    have e3 : jadd (a : Int) 1 = ((a + 1 : Nat) : Int) := by rw [jadd_e (by omega) (by omega)]; rfl
    rw [hst, if_pos (by rw [jsub_e (by omega) (by omega)]; omega), e3, bnd, sto_t (by omega) (by omega), Int.toNat_natCast, sto_t (by omega) (by omega), Int.toNat_natCast]
theorem steps_all {t : S2} {C Y : V2} {code : List Int} {f g n : Nat} (hC : CB C) (hY : YB C Y) (h9 : Y 512 0 ≤ 999) (hM : MS C Y code 0 t) (hf : f < 4) (hg : g < 4) (hf2 : (f : Int) < C 387 0) (hg2 : (g : Int) < C 387 0) (hn : 1 ≤ n ∧ n ≤ 3) : StepOK t C Y code f g n (n - 1) 0 4000 := by
  have weak : ∀ {d a B B' : Nat}, B ≤ B' → StepOK t C Y code f g n d a B → StepOK t C Y code f g n d a B' := fun hB h ks k z h1 h2 h3 h4 => by
    obtain ⟨m, z', a1, a2⟩ := h ks k z h1 h2 h3 h4
    exact ⟨m, z', by omega, a2⟩
  have h1 : n = 1 ∨ n = 2 ∨ n = 3 := by omega
  rcases h1 with rfl | rfl | rfl
  · exact weak (by omega) (step_last hC hY h9 hM hf hg hf2 hg2 (by omega) rfl)
  · exact weak (by omega) (step_more (d := 0) (a := 0) hC hY h9 hM hf hg (by omega) rfl (step_last hC hY h9 hM hf hg hf2 hg2 (by omega) rfl))
  · exact weak (by omega) (step_more (d := 1) (a := 0) hC hY h9 hM hf hg (by omega) rfl (step_more (d := 0) (a := 1) hC hY h9 hM hf hg (by omega) rfl (step_last hC hY h9 hM hf hg hf2 hg2 (by omega) rfl)))
