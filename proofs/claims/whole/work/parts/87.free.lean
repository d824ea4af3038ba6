/-! FREE, FEW -/
theorem setN_iff {p : Nat → Bool} {k : Nat} : ∀ {n : Nat}, Nat.testBit (setN n p) k = (decide (k < n) && p k)
  | 0 => by
    unfold setN
    rw [Nat.zero_testBit]
    simp
  | n + 1 => by
    have ih := setN_iff (p := p) (k := k) (n := n)
    rw [setN_s]
    by_cases e : p n = true
    · rw [if_pos e, Nat.testBit_or, ih, Nat.testBit_two_pow]
      by_cases h : k = n
      · subst h
        simp [e]
      · by_cases h2 : k < n
        · simp [h2, show k < n + 1 by omega, show ¬ n = k by omega]
        · simp [h2, show ¬ n = k by omega, show ¬ k < n + 1 by omega]
    · rw [if_neg e, ih]
      by_cases h : k = n
      · subst h
        simp [e]
      · by_cases h2 : k < n
        · simp [h2, show k < n + 1 by omega]
        · simp [h2, show ¬ k < n + 1 by omega]
theorem pool_e {a b : Nat → Bool} : jand (setB 10 a) (jxor (setB 10 b) (-1)) = setB 10 (fun k => a k && !b k) := by
  rw [setB_N (by omega), setB_N (by omega), setB_N (by omega)]
  have hb := setN_bd (p := fun k => a k && !b k) (n := 10) (by omega)
  have e : (Int32.ofInt (setN 10 a : Int) &&& (Int32.ofInt (setN 10 b : Int) ^^^ Int32.ofInt (-1))) = Int32.ofInt (setN 10 (fun k => a k && !b k) : Int) := by
    refine Int32.toBitVec_inj.mp ?_
    rw [Int32.toBitVec_and, Int32.toBitVec_xor]
    have e1 : ∀ m : Nat, (Int32.ofInt (m : Int)).toBitVec = BitVec.ofNat 32 m := fun m => BitVec.ofInt_natCast ..
    have e3 : (Int32.ofInt (-1)).toBitVec = BitVec.allOnes 32 := by decide
    rw [e1, e1, e1, e3]
    refine BitVec.eq_of_getLsbD_eq fun k hk => ?_
    simp only [BitVec.getLsbD_and, BitVec.getLsbD_xor, BitVec.getLsbD_ofNat, BitVec.getLsbD_allOnes, hk, decide_true, Bool.true_and, setN_iff]
    cases decide (k < 10) <;> cases a k <;> cases b k <;> rfl
  unfold jand jxor
  rw [Int32.ofInt_toInt, e]
  exact Int32.toInt_ofInt_of_le (by omega) (by omega)
def okS (C Y : V2) (code : List Int) (up : Bool) (l : Nat) (fam : Int) (i : Nat) : Bool := (mvS C up l i Y 10).1 && decide (own C (mvS C up l i Y 10).2 (rainI C (mvS C up l i Y 10).2 0) code l = fam)
theorem pY_pP {r f i : Nat} (h : pP r f i = false) : pY 160 f i = false := (pP_f.mp h).2.2
theorem c123a {s z : S2} {r : Nat} {C Y : V2} {code : List Int} {l p i : Nat} {fam : Int} {up : Bool} (h : Hr z 0 r C code) (hy : yv z 0 = Y) (hY : YB C Y) (hl : l < 6) (hup : (if fam = -1 then (0 : Int) else 1) = u01 up) (hi : i < 1024) (hF : Fr (pP r) s z) : ∃ z', f123_a 0 l fam p (lsN p (okS C Y code up l fam) i) i z = some (.inl (lsN p (okS C Y code up l fam) (i + 1), ((i + 1 : Nat) : Int), z')) ∧ Fr (pP r) s z' := by
  have hC := h.2.2.2.2.2
  have hLb := lsN_bd (p := p) (ok := okS C Y code up l fam) (n := i)
  have ej : jadd (i : Int) 1 = ((i + 1 : Nat) : Int) := by rw [jadd_e (by omega) (by omega)]; rfl
  generalize hL : lsN p (okS C Y code up l fam) i = L at hLb ⊢
  have key : ∀ (x : Int), (x = 1 ↔ (L = -1 ∨ bcI i < bcI L.toNat)) → (x = 0 ∨ x = 1) → ∃ z', (if ¬ (jand i (jxor p (-1))) = 0 then (bnd (jadd i 1) fun v11 => some (.inl (L, v11, z))) else if x = 0 then (bnd (jadd i 1) fun v12 => some (.inl (L, v12, z))) else cP (f58 160 0 z) fun s13 => jn (fun (x14 : Int) => cR (f125 i l x14 s13) fun r15 s16 => if r15 = 0 then (bnd (jadd i 1) fun v17 => some (.inl (L, v17, s16))) else cP (f78 0 s16) fun s18 => cR (f81 l s18) fun r19 s20 => if ¬ r19 = fam then (bnd (jadd i 1) fun v21 => some (.inl (L, v21, s20))) else bnd (jadd i 1) fun v22 => (some (.inl ((i : Int), v22, s20)) : Option ((Int × Int × S2) ⊕ (Int × S2)))) fun j114 => if fam = (-1) then (j114 0) else j114 1) = some (.inl (lsN p (okS C Y code up l fam) (i + 1), ((i + 1 : Nat) : Int), z')) ∧ Fr (pP r) s z' := by
    intro x hx hx01
    by_cases a1 : jand (i : Int) (jxor (p : Int) (-1)) = 0
    · rw [if_neg (fun q => q a1)]
      rcases hx01 with rfl | rfl
      · rw [if_pos rfl, bnd, ej, lsN_f (fun q => by rw [hL] at q; exact absurd (hx.mpr q.2.1) (by decide)), hL]
        exact ⟨z, rfl, hF⟩
      · rw [if_neg ne10]
        obtain ⟨z1, k1, k2, k3⟩ := m58 (a := 160) (b := 0) (s := z)
        have h1 : Hr z1 0 r C code := h.fr k3 (pY_f.mpr (by omega)) (pY_f.mpr (by omega)) (pY_f.mpr (by omega)) (pY_f.mpr (by omega)) (fun f g1 g2 => pY_f.mpr (by omega))
        obtain ⟨z2, l1, l2, l3⟩ := m125 (l := (l : Int)) (i := i) (up := up) h1 (k2.trans hy) hi
        have h2 : Hr z2 0 r C code := h1.fr l3 (pY_f.mpr (by omega)) (pY_f.mpr (by omega)) (pY_f.mpr (by omega)) (pY_f.mpr (by omega)) (fun f g1 g2 => pY_f.mpr (by omega))
        have F2 : Fr (pP r) s z2 := (hF.tr (k3.mo fun f i q => pY_pP q)).tr (l3.mo fun f i q => pY_pP q)
        have hj : (fun (j : Int → Option ((Int × Int × S2) ⊕ (Int × S2))) => if fam = (-1) then (j 0) else j 1) = fun j => j (u01 up) := by
          funext j
          rw [← hup]
          by_cases q : fam = -1
          · rw [if_pos q, if_pos q]
          · rw [if_neg q, if_neg q]
        rw [k1, cP_s, hj]
        simp only [jn]
        rw [l1, cR_s]
        cases hm : (mvS C up l i Y 10).1 with
        | false =>
          rw [show u01 false = 0 from rfl, if_pos rfl, bnd, ej, lsN_f (fun q => ?_), hL]
          · exact ⟨z2, rfl, F2⟩
          · have := q.2.2
            unfold okS at this
            rw [hm] at this
            cases this
        | true =>
          obtain ⟨z3, z4, m1, m2, m3⟩ := hr_own h2 (l2 hm) (mvS_YB hY) hl
          rw [show u01 true = 1 from rfl, if_neg ne10, m1, cP_s, m2, cR_s, bnd, bnd, ej]
          refine ⟨z4, ?_, F2.tr m3⟩
          by_cases q : own C (mvS C up l i Y 10).2 (rainI C (mvS C up l i Y 10).2 0) code l = fam
          · rw [if_neg (fun w => w q), lsN_t]
            refine ⟨a1, by rw [hL]; exact hx.mp rfl, ?_⟩
            unfold okS
            rw [hm, Bool.true_and]
            exact decide_eq_true q
          · rw [if_pos q, lsN_f (fun w => ?_), hL]
            have := w.2.2
            unfold okS at this
            rw [hm, Bool.true_and] at this
            exact q (of_decide_eq_true this)
    · rw [if_pos a1, bnd, ej, lsN_f (fun q => a1 q.1), hL]
      exact ⟨z, rfl, hF⟩
  unfold f123_a
  rw [if_neg (by omega)]
  by_cases q : L = -1
  · obtain ⟨z', b1, b2⟩ := key 1 (by simp [q]) (Or.inr rfl)
    refine ⟨z', ?_, b2⟩
    simp only [jn]
    rw [if_pos q]
    exact b1
  · obtain ⟨L', rfl⟩ := Int.eq_ofNat_of_zero_le (show 0 ≤ L by omega)
    have e1 := m273 (i := i) hi
    have e2 := m273 (i := L') (by omega)
    by_cases w : bcI L' ≤ bcI i
    · obtain ⟨z', b1, b2⟩ := key 0 (by rw [Int.toNat_natCast]; constructor <;> intro u <;> omega) (Or.inl rfl)
      refine ⟨z', ?_, b2⟩
      simp only [jn]
      rw [if_neg q, e1, cP_s, e2, cP_s, if_pos w]
      exact b1
    · obtain ⟨z', b1, b2⟩ := key 1 (by rw [Int.toNat_natCast]; constructor <;> intro u <;> omega) (Or.inr rfl)
      refine ⟨z', ?_, b2⟩
      simp only [jn]
      rw [if_neg q, e1, cP_s, e2, cP_s, if_neg w]
      exact b1
theorem c123l {s : S2} {r : Nat} {C Y : V2} {code : List Int} {l p : Nat} {fam : Int} {up : Bool} (h : Hr s 0 r C code) (hy : yv s 0 = Y) (hY : YB C Y) (hl : l < 6) (hup : (if fam = -1 then (0 : Int) else 1) = u01 up) : ∃ s', itr (fun (x7, x8, s9) => f123_a 0 l fam p x7 x8 s9) am_fu (-1, 0, s) = some (lsN p (okS C Y code up l fam) 1024, s') ∧ Fr (pP r) s s' := by
  refine Exists.elim (itr_inv (b := fun (x7, x8, s9) => f123_a 0 l fam p x7 x8 s9) (fun (i : Nat) (z : Int × Int × S2) => z.1 = lsN p (okS C Y code up l fam) i ∧ z.2.1 = i ∧ Fr (pP r) s z.2.2) (fun (z : Int × S2) => z.1 = lsN p (okS C Y code up l fam) 1024 ∧ Fr (pP r) s z.2) 1024 ?_ am_fu (fu_lt (by decide)) (-1, 0, s) ⟨rfl, rfl, Fr.rf⟩) ?_
  rotate_left
  · rintro ⟨a, s'⟩ ⟨hr, q1, q2⟩
    dsimp only at q1 q2
    subst q1
    exact ⟨s', hr, q2⟩
  · rintro i ⟨x, y, z⟩ hi ⟨g1, g2, g3⟩
    dsimp only at g1 g2 g3 ⊢
    subst g1 g2
    by_cases e : i = 1024
    · subst e
      refine Or.inr ⟨(lsN p (okS C Y code up l fam) 1024, z), ?_, rfl, g3⟩
      show f123_a 0 l fam p _ _ z = _
      unfold f123_a
      rw [if_pos (by omega)]
    · refine Or.inl ⟨by omega, ?_⟩
      obtain ⟨z', k1, k2⟩ := c123a (s := s) (p := p) (fam := fam) (h.pP g3) (by rw [g3.yv fun f g1 g2 => pP_y g1 g2 (by omega)]; exact hy) hY hl hup (i := i) (by omega) g3
      exact ⟨(_, _, z'), k1, rfl, rfl, k2⟩
/-- the class' search, its pool told -/
theorem c123 {s : S2} {r : Nat} {C Y : V2} {code : List Int} {l : Nat} {fam : Int} (h : Hr s 0 r C code) (hy : yv s 0 = Y) (hY : YB C Y) (hl : l < 6) : ∃ s', f123 0 l fam s = some (if fam = -1 then lsN (setN 10 (fun n => decide (Y 515 n = l))) (okS C Y code false l fam) 1024 else lsN (setN 10 (fun n => decide ((n : Int) < C 389 0 ∧ C 395 n = fam) && !!decide (Y 515 n = -1))) (okS C Y code true l fam) 1024, s') ∧ Fr (pP r) s s' := by
  have q1 : (s 1153 0 0).toNat = 0 := by rw [h.1]; rfl
  have q2 : cw s 0 = C := h.2.2.2.2.1
  unfold f123
  simp only [jn, bnd, q1]
  by_cases q : fam = -1
  · obtain ⟨s', k1, k2⟩ := c123l (p := setN 10 (fun n => decide (Y 515 n = l))) (fam := fam) (up := false) h hy hY hl (by rw [if_pos q]; rfl)
    refine ⟨s', ?_, k2⟩
    rw [if_neg (fun w => w q), m89, hy, cP_s, setB_N (by omega), k1, cP_s, if_pos q]
  · obtain ⟨s', k1, k2⟩ := c123l (p := setN 10 (fun n => decide ((n : Int) < C 389 0 ∧ C 395 n = fam) && !!decide (Y 515 n = -1))) (fam := fam) (up := true) h hy hY hl (by rw [if_neg q]; rfl)
    refine ⟨s', ?_, k2⟩
    rw [if_pos q, m87, q2, cP_s, m124, hy, cP_s, pool_e, setB_N (by omega), k1, cP_s, if_neg q]
def lsM (x : Int) : Int := if x = -1 then -2 else x
theorem lsM_n {x : Int} (h : x = -1 ∨ 0 ≤ x) : lsM x = -2 ↔ x = -1 := by
  unfold lsM
  split <;> omega
theorem pHO_k {f i : Nat} (h : pAk f i = false) : pH f i = false := pH_k h
/-- the model's search for FREE -/
theorem c247 {t t1 : S2} {C Y : V2} {code : List Int} {l : Nat} (hC : CB C) (hY : YB C Y) (hM : MS C Y code 0 t) (hk : AK t t1) (hl : l < 6) (hl2 : (l : Int) < C 388 0) : ∃ t2, itr (fun (x8, x9, s10) => f247_a l (setN 10 (fun n => decide (Y 515 n = l)) : Nat) x8 x9 s10) am_fu (-2, 0, t1) = some (lsM (lsN (setN 10 (fun n => decide (Y 515 n = l))) (okS C Y code false l (-1)) 1024), t2) ∧ AK t t2 := by
  have hp := setN_bd (p := fun n => decide (Y 515 n = l)) (n := 10) (by omega)
  have hcut := lsN_cut (ok := okS C Y code false l (-1)) (m := setN 10 (fun n => decide (Y 515 n = l)) + 1) (Nat.lt_succ_self _) hp (n := 1024) (by omega) (by omega)
  have hpb : ∀ n, Nat.testBit (setN 10 (fun n => decide (Y 515 n = l))) n = true → n < 10 ∧ Y 515 n = l := fun n hn => by
    have := setN_tb hn
    exact ⟨this.1, of_decide_eq_true this.2⟩
  rw [hcut]
  generalize hP : setN 10 (fun n => decide (Y 515 n = l)) = p at hp hpb ⊢
  refine Exists.elim (itr_inv (b := fun (x8, x9, s10) => f247_a l p x8 x9 s10) (fun (i : Nat) (z : Int × Int × S2) => z.1 = lsM (lsN p (okS C Y code false l (-1)) i) ∧ z.2.1 = i ∧ AK t z.2.2) (fun (z : Int × S2) => z.1 = lsM (lsN p (okS C Y code false l (-1)) (p + 1)) ∧ AK t z.2) (p + 1) ?_ am_fu (fu_lt (by omega)) (-2, 0, t1) ⟨rfl, rfl, hk⟩) ?_
  rotate_left
  · rintro ⟨a, s'⟩ ⟨hr, q1, q2⟩
    dsimp only at q1 q2
    subst q1
    exact ⟨s', hr, q2⟩
  · rintro i ⟨x, y, z⟩ hi ⟨g1, g2, g3⟩
    dsimp only at g1 g2 g3 ⊢
    subst g1 g2
    by_cases e : i = p + 1
    · subst e
      refine Or.inr ⟨(lsM (lsN p (okS C Y code false l (-1)) (p + 1)), z), ?_, rfl, g3⟩
      show f247_a l p _ _ z = _
      unfold f247_a
      rw [if_pos (by omega)]
    · refine Or.inl ⟨by omega, ?_⟩
      have hi2 : i < 1024 := by omega
      have hLb := lsN_bd (p := p) (ok := okS C Y code false l (-1)) (n := i)
      have ej : jadd (i : Int) 1 = ((i + 1 : Nat) : Int) := by rw [jadd_e (by omega) (by omega)]; rfl
      have keep : ¬ lsT p (okS C Y code false l (-1)) (lsN p (okS C Y code false l (-1)) i) i → lsN p (okS C Y code false l (-1)) (i + 1) = lsN p (okS C Y code false l (-1)) i := lsN_f
      have take : lsT p (okS C Y code false l (-1)) (lsN p (okS C Y code false l (-1)) i) i → lsN p (okS C Y code false l (-1)) (i + 1) = i := lsN_t
      unfold lsT at keep take
      generalize hL : lsN p (okS C Y code false l (-1)) i = L at hLb keep take ⊢
      have hfin : ∀ z', f247_a l p (lsM L) i z = some (.inl (lsM (lsN p (okS C Y code false l (-1)) (i + 1)), ((i + 1 : Nat) : Int), z')) → AK t z' → ∃ a', (fun (x8, x9, s10) => f247_a l p x8 x9 s10) (lsM L, (i : Int), z) = some (.inl a') ∧ a'.1 = lsM (lsN p (okS C Y code false l (-1)) (i + 1)) ∧ a'.2.1 = ((i + 1 : Nat) : Int) ∧ AK t a'.2.2 := fun z' h1 h2 => ⟨(_, _, z'), h1, rfl, rfl, h2⟩
      by_cases a1 : jand (i : Int) (jxor (p : Int) (-1)) = 0
      · have hsub : ∀ n, Nat.testBit i n = true → n < 10 ∧ Y 515 n = l := fun n hn => hpb n (sub_tb hi2 hp a1 hn)
        have hb : ∀ n, Nat.testBit i n = true → n < 10 ∧ (n : Int) < C 389 0 ∧ Y 515 n ≠ -1 := fun n hn => by
          have h1 := hsub n hn
          have h2 := hY.1 n h1.1
          omega
        have hMz := g3.ms hM hC
        obtain ⟨z1, k1, k2, k3, k4⟩ := m247b (l := (l : Int)) hC hY hMz hi2 hb
        obtain ⟨z2, l1, l2⟩ := m200 hC (mvS_YB hY) k3 hl hl2
        obtain ⟨z3, m1, m2⟩ := g3.back ((k4.mo fun f i q => pH_k q).tr (l2.mo fun f i q => pO_k q)) (by rw [l2 _ _ (pO_f.mpr (by omega)), k4 _ _ (pH_f.mpr (by omega))]) (by rw [l2 _ _ (pO_f.mpr (by omega)), k4 _ _ (pH_f.mpr (by omega)), g3.1.2.2.1])
        have hrun : ∀ (o : Int), (o = if own C (mvS C false l i Y 10).2 (rainI C (mvS C false l i Y 10).2 0) code l = -1 then (i : Int) else lsM L) → (cP (itr (fun (x17, s18) => f247_b i x17 s18) am_fu (0, z)) (fun s24 => cR (f200 l s24) fun r25 s26 => jn (fun (x27 : Int) => cP (f237 s26) fun s28 => bnd (jadd (i : Int) 1) fun v29 => (some (.inl (x27, v29, s28)) : Option ((Int × Int × S2) ⊕ (Int × S2)))) fun j124 => if ¬ r25 = (-1) then (j124 (lsM L)) else j124 i)) = some (.inl (o, ((i + 1 : Nat) : Int), z3)) := by
          intro o ho
          rw [k1, cP_s, l1, cR_s]
          simp only [jn, m1, cP_s, bnd, ej, ho]
          by_cases q : own C (mvS C false l i Y 10).2 (rainI C (mvS C false l i Y 10).2 0) code l = -1
          · rw [if_neg (fun w => w q), if_pos q]
          · rw [if_pos q, if_neg q]
        have hok : okS C Y code false l (-1) i = decide (own C (mvS C false l i Y 10).2 (rainI C (mvS C false l i Y 10).2 0) code l = -1) := by
          unfold okS
          rw [k2, Bool.true_and]
        by_cases hx : L = -1 ∨ bcI i < bcI L.toNat
        · refine hfin z3 ?_ m2
          have hr := hrun (lsM (lsN p (okS C Y code false l (-1)) (i + 1))) (by
            by_cases q : own C (mvS C false l i Y 10).2 (rainI C (mvS C false l i Y 10).2 0) code l = -1
            · rw [if_pos q, take ⟨a1, hx, by rw [hok]; exact decide_eq_true q⟩]
              unfold lsM
              rw [if_neg (by omega)]
            · rw [if_neg q, keep (fun w => q (by have := w.2.2; rw [hok] at this; exact of_decide_eq_true this))])
          unfold f247_a
          rw [if_neg (by omega), if_neg (fun w => w a1)]
          simp only [jn]
          by_cases q : L = -1
          · rw [if_pos ((lsM_n (by omega)).mpr q)]
            exact hr
          · obtain ⟨L', rfl⟩ := Int.eq_ofNat_of_zero_le (show 0 ≤ L by omega)
            have hlm : lsM (L' : Int) = (L' : Int) := if_neg (by omega)
            rw [hlm] at hr ⊢
            rw [Int.toNat_natCast] at hx
            rw [if_neg (by omega), m248 hi2, cP_s, m248 (by omega), cP_s, if_neg (by omega)]
            exact hr
        · refine hfin z ?_ g3
          rw [keep (fun w => hx w.2.1)]
          obtain ⟨L', rfl⟩ := Int.eq_ofNat_of_zero_le (show 0 ≤ L by omega)
          have hlm : lsM (L' : Int) = (L' : Int) := if_neg (by omega)
          rw [hlm]
          rw [Int.toNat_natCast] at hx
          unfold f247_a
          rw [if_neg (by omega), if_neg (fun w => w a1)]
          simp only [jn]
          rw [if_neg (by omega), m248 hi2, cP_s, m248 (by omega), cP_s, if_pos (by omega), bnd, ej]
      · refine hfin z ?_ g3
        rw [keep (fun w => a1 w.1)]
        unfold f247_a
        rw [if_neg (by omega), if_pos a1, bnd, ej]
def sizeS (x w : Int) : Int := if x = -1 then -2 else if w = 0 then bcI x.toNat else x
theorem m126 {x w : Int} (h : x = -1 ∨ (0 ≤ x ∧ x < 1024)) : f126 x w = some (sizeS x w) := by
  unfold f126 sizeS
  by_cases q : x = -1
  · rw [if_neg (fun p => p q), if_pos q]
  · obtain ⟨n, rfl⟩ := Int.eq_ofNat_of_zero_le (show 0 ≤ x by omega)
    rw [if_pos q, if_neg q, m273 (by omega), cP_s, Int.toNat_natCast]
    by_cases w0 : w = 0
    · rw [if_neg (fun p => p w0), if_pos w0]
    · rw [if_pos w0, if_neg w0]
theorem size_m {x w : Int} {t : S2} (h : x = -1 ∨ (0 ≤ x ∧ x < 1024)) (hw : 0 ≤ w ∧ w ≤ 1) : (if lsM x = (-2) then (some (lsM x, t)) else if ¬ w = 1 then (cP (f248 (lsM x)) fun r35 => some (r35, t)) else some (lsM x, t)) = some (sizeS x w, t) := by
  unfold sizeS
  by_cases q : x = -1
  · rw [if_pos ((lsM_n (by omega)).mpr q), if_pos q, q]
    rfl
  · obtain ⟨n, rfl⟩ := Int.eq_ofNat_of_zero_le (show 0 ≤ x by omega)
    have hlm : lsM (n : Int) = (n : Int) := if_neg (by omega)
    rw [hlm, if_neg (by omega), if_neg q, Int.toNat_natCast]
    by_cases w0 : w = 0
    · rw [if_pos (by omega), if_pos w0, m248 (by omega), cP_s]
    · rw [if_neg (by omega), if_neg w0]
theorem call_free {s : S2} {C Y : V2} {code : List Int} {a b : Int} (h : Rel s C Y code) (ia : i32 a) (ib : i32 b) : ∃ r s1 s2, f122 a b s = some (r, s1) ∧ f247 a b s1 = some (r, s2) ∧ Ask s s2 := by
  have hM := h.2.2.2.2.2.2.2
  have hC := h.2.2.1
  have hY := h.2.2.2.1
  have hcc := hC.1
  obtain ⟨e1, e2, e3⟩ := cw0f h.1
  have jb : ji2l b = b := by unfold i32 at ib; exact ji2l_e (by omega) (by omega)
  by_cases ha : 0 ≤ a ∧ a < C 388 0
  · obtain ⟨l, rfl⟩ := Int.eq_ofNat_of_zero_le ha.1
    by_cases hb : 0 ≤ b ∧ b ≤ 1
    · obtain ⟨s1, k1, k2, k3, k4⟩ := h.start
      obtain ⟨s2, l1, l2⟩ := c123 (fam := -1) (l := l) k2 (by rw [k4.yv fun f g1 g2 => pS_f.mpr ⟨by omega, pY_f.mpr (by omega)⟩]; exact h.2.1) hY (by omega)
      rw [if_pos rfl] at l1
      have F1 : Fr pAk s s2 := (k4.mo fun f i q => pS_k q).tr (l2.mo fun f i q => pP_k q)
      have F2 : Fr pCl s s2 := (k4.mo fun f i q => pS_cl q).tr (l2.mo fun f i q => pP_cl q)
      have hM2 := hM.cl F2
      obtain ⟨t1, m1, m2⟩ := AK.keep (t := s2)
      obtain ⟨t2, n1, n2⟩ := c247 (l := l) hC hY hM2 m2 (by omega) ha.2
      have hLb := lsN_bd (p := setN 10 (fun n => decide (Y 515 n = l))) (ok := okS C Y code false l (-1)) (n := 1024)
      refine ⟨sizeS (lsN (setN 10 (fun n => decide (Y 515 n = l))) (okS C Y code false l (-1)) 1024) b, s2, t2, ?_, ?_, (Ask.cl F1 F2).tr n2.1⟩
      · unfold f122
        rw [m50t (by omega), cP_s, if_neg ne10, if_neg (by omega), if_pos hb.2, k1, cP_s, l1, cR_s, m126 (by omega), cP_s]
      · unfold f247
        rw [m210 hC hM2.1 ia, if_pos ha, cP_s, if_neg ne10, jb, m173t hb, cP_s, if_pos ne10, m212 hC hY hM2.1 hM2.2.1 (by omega), cP_s, m1, cP_s, setB_N (by omega), n1, cP_s]
        exact size_m (by omega) hb
    · refine ⟨-1, s, s, ?_, ?_, Ask.rf⟩
      · unfold f122
        rw [m50t (by omega), cP_s, if_neg ne10]
        by_cases b0 : b < 0
        · rw [if_pos b0]
        · rw [if_neg b0, if_neg (by omega)]
      · unfold f247
        rw [m210 hC hM.1 ia, if_pos ha, cP_s, if_neg ne10, jb, m173f hb, cP_s, if_neg (by decide)]
  · refine ⟨-1, s, s, ?_, ?_, Ask.rf⟩
    · unfold f122
      rw [m50f (by omega), cP_s, if_pos rfl]
    · unfold f247
      rw [m210 hC hM.1 ia, if_neg ha, cP_s, if_pos rfl]
