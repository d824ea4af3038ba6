/-! YEARS -/
theorem kadd_e {x y : Int} (h1 : -9223372036854775808 ≤ x + y) (h2 : x + y < 9223372036854775808) : kadd x y = x + y := by
  unfold kadd
  rw [← Int64.ofInt_add]
  exact Int64.toInt_ofInt_of_le (by omega) (by omega)
theorem ksub_e {x y : Int} (h1 : -9223372036854775808 ≤ x - y) (h2 : x - y < 9223372036854775808) : ksub x y = x - y := by
  unfold ksub
  rw [← Int64.ofInt_sub]
  exact Int64.toInt_ofInt_of_le (by omega) (by omega)
theorem kmul_e {x y : Int} (h1 : -9223372036854775808 ≤ x * y) (h2 : x * y < 9223372036854775808) : kmul x y = x * y := by
  unfold kmul
  rw [← Int64.ofInt_mul]
  exact Int64.toInt_ofInt_of_le (by omega) (by omega)
theorem kdiv_e {x y : Int} (h0 : 0 ≤ x) (h1 : x < 9223372036854775808) (h2 : 0 < y) (h3 : y < 9223372036854775808) : kdiv x y = x / y := by
  unfold kdiv
  rw [Int64.toInt_div_of_ne_right, Int64.toInt_ofInt_of_le (by omega) (by omega), Int64.toInt_ofInt_of_le (by omega) (by omega)]
  · exact Int.tdiv_eq_ediv_of_nonneg h0
  · intro h
    have := congrArg Int64.toInt h
    rw [Int64.toInt_ofInt_of_le (by omega) (by omega)] at this
    have h4 : (-1 : Int64).toInt = -1 := by decide
    omega
theorem krem_e {x y : Int} (h0 : 0 ≤ x) (h1 : x < 9223372036854775808) (h2 : 0 < y) (h3 : y < 9223372036854775808) : krem x y = x % y := by
  have hd := kdiv_e h0 h1 h2 h3
  have hr : krem x y = ksub x (kmul (kdiv x y) y) := by
    unfold krem ksub kmul kdiv
    rw [Int64.ofInt_toInt, Int64.ofInt_toInt]
  have h5 : 0 ≤ x / y := Int.ediv_nonneg h0 (by omega)
  have h6 : x / y * y ≤ x := Int.ediv_mul_le x (by omega)
  have h7 : 0 ≤ x / y * y := Int.mul_nonneg h5 (by omega)
  rw [hr, hd, kmul_e (by omega) (by omega), ksub_e (by omega) (by omega)]
  have := Int.emod_def x y
  rw [Int.mul_comm] at this
  omega
theorem jl2i_e {x : Int} (h1 : -2147483648 ≤ x) (h2 : x < 2147483648) : jl2i x = x := by
  unfold jl2i
  rw [Int64.toInt32_ofInt]
  exact Int32.toInt_ofInt_of_le (by omega) (by omega)
def nxX (x : Int) : Int := (x * 1103515245 + 12345) % 2147483648
theorem nxX_bd {x : Int} : 0 ≤ nxX x ∧ nxX x < 2147483648 := by
  unfold nxX
  exact ⟨Int.emod_nonneg _ (by decide), Int.emod_lt_of_pos _ (by decide)⟩
theorem nxX_k {x : Int} (h0 : 0 ≤ x) (h1 : x < 2147483648) : krem (kadd (kmul x 1103515245) 12345) 2147483648 = nxX x := by
  rw [kmul_e (by omega) (by omega), kadd_e (by omega) (by omega), krem_e (by omega) (by omega) (by decide) (by decide)]
  rfl
def drI (p x : Int) : Int := if x / 65536 % 100 < p then 1 else 0
theorem drI_01 {p x : Int} : drI p x = 0 ∨ drI p x = 1 := by
  unfold drI
  split
  · exact Or.inr rfl
  · exact Or.inl rfl
def xN : Nat → Int → Int
  | 0, x => x
  | k + 1, x => nxX (xN k x)
theorem xN_bd {x : Int} (h0 : 0 ≤ x) (h1 : x < 2147483648) : ∀ {k : Nat}, 0 ≤ xN k x ∧ xN k x < 2147483648
  | 0 => ⟨h0, h1⟩
  | _ + 1 => nxX_bd
def yN (C : V2) (code : List Int) (p : Int) : Nat → Int → V2 → V2
  | 0, _, Y => Y
  | k + 1, x, Y => passY C (yN C code p k x Y) (rainI C (yN C code p k x Y) (drI p (xN (k + 1) x))) code
def gN (C : V2) (code : List Int) (p : Int) : Nat → Int → V2 → Int
  | 0, _, _ => 0
  | k + 1, x, Y => gN C code p k x Y + passG C (yN C code p k x Y) (rainI C (yN C code p k x Y) (drI p (xN (k + 1) x))) code
theorem yN_h {C Y : V2} {code : List Int} {p x : Int} : ∀ {n : Nat}, yN C code p n x Y 512 0 = Y 512 0 + n
  | 0 => by simp [yN]
  | n + 1 => by
    have : yN C code p (n + 1) x Y 512 0 = yN C code p n x Y 512 0 + 1 := (nY_t yr512).trans rfl
    rw [this, yN_h (n := n)]
    omega
theorem yN_YB {C Y : V2} {code : List Int} {p x : Int} (hC : CB C) (hY : YB C Y) : ∀ {n : Nat}, Y 512 0 + n ≤ 5000 → YB C (yN C code p n x Y)
  | 0, _ => hY
  | n + 1, h => passY_YB hC (yN_YB hC hY (n := n) (by omega)) (by rw [yN_h]; omega)
theorem passG_bd {C Y : V2} {rain : Int} {code : List Int} (hC : CB C) : -6 ≤ passG C Y rain code ∧ passG C Y rain code ≤ 54 := by
  have := sumI_bd (f := fun l => if own C Y rain code l = -1 then 0 else C 393 l) (a := -1) (b := 9) (n := 6) (fun j hj => by
    have := hC.2.2.2.1 j hj
    by_cases e : own C Y rain code j = -1
    · simp only [e, if_true]; omega
    · simp only [e, if_false]; omega)
  unfold passG
  omega
theorem gN_bd {C Y : V2} {code : List Int} {p x : Int} (hC : CB C) : ∀ {n : Nat}, -6 * (n : Int) ≤ gN C code p n x Y ∧ gN C code p n x Y ≤ 54 * n
  | 0 => by simp [gN]
  | n + 1 => by
    have h1 := gN_bd (Y := Y) (code := code) (p := p) (x := x) hC (n := n)
    have h2 := passG_bd (Y := yN C code p n x Y) (rain := rainI C (yN C code p n x Y) (drI p (xN (n + 1) x))) (code := code) hC
    unfold gN
    omega
def xY (n : Nat) : Nat → Int → Int
  | 0, x => x
  | i + 1, x => xN n (xY n i x)
theorem xY_bd {n : Nat} {x : Int} (h0 : 0 ≤ x) (h1 : x < 2147483648) : ∀ {i : Nat}, 0 ≤ xY n i x ∧ xY n i x < 2147483648
  | 0 => ⟨h0, h1⟩
  | i + 1 => by
    have := xY_bd (n := n) h0 h1 (i := i)
    exact xN_bd this.1 this.2
def gY (C Y : V2) (code : List Int) (p : Int) (n : Nat) (x : Int) : Nat → Int
  | 0 => 0
  | i + 1 => gY C Y code p n x i + gN C code p n (xY n i x) Y
def dYr (C Y : V2) (code : List Int) (p : Int) (n : Nat) (x : Int) : Nat → Int
  | 0 => 0
  | i + 1 => dYr C Y code p n x i + cntB 10 (dryB (yN C code p n (xY n i x) Y))
theorem gY_bd {C Y : V2} {code : List Int} {p x : Int} {n : Nat} (hC : CB C) (hn : n ≤ 60) : ∀ {i : Nat}, -360 * (i : Int) ≤ gY C Y code p n x i ∧ gY C Y code p n x i ≤ 3240 * i
  | 0 => by simp [gY]
  | i + 1 => by
    have h1 := gY_bd (Y := Y) (code := code) (p := p) (x := x) hC hn (i := i)
    have h2 := gN_bd (Y := Y) (code := code) (p := p) (x := xY n i x) hC (n := n)
    unfold gY
    omega
theorem dYr_bd {C Y : V2} {code : List Int} {p x : Int} {n : Nat} : ∀ {i : Nat}, 0 ≤ dYr C Y code p n x i ∧ dYr C Y code p n x i ≤ 10 * (i : Int)
  | 0 => by simp [dYr]
  | i + 1 => by
    have h1 := dYr_bd (C := C) (Y := Y) (code := code) (p := p) (x := x) (n := n) (i := i)
    have h2 := cntB_bd (p := dryB (yN C code p n (xY n i x) Y)) (n := 10)
    unfold dYr
    omega
theorem m267 {C Y : V2} {t : S2} (hC : CB C) (hY : YB C Y) (hR : CR C t) (hV : YR C Y t) : f267 t = some (cntB 10 (dryB Y)) := by
  have hcc := hC.1
  have hcut : cntB 10 (dryB Y) = cntB (C 389 0).toNat (dryB Y) := cntB_cut (by omega) (fun i h1 h2 => by
    have := hY.1 i h2
    unfold dryB
    exact decide_eq_false (by omega))
  rw [hcut]
  unfold f267
  refine seq_cP (fun i => (cntB i (dryB Y), (i : Int))) (C 389 0).toNat _ rfl (by omega) ?_ ?_ rfl
  · intro i hi
    have hb := cntB_bd (p := dryB Y) (n := i)
    have w1 := hV.2.2.2.1 i (by omega) (by omega)
    have e1 : cntB (i + 1) (dryB Y) = if dryB Y i = true then cntB i (dryB Y) + 1 else cntB i (dryB Y) := rfl
    show f267_a _ _ t = _
    unfold f267_a
    rw [ld_t (by omega) (by omega), show t 1537 0 (Int.toNat 4) = C 389 0 from hR.1.2.2.2.2.1, if_neg (by omega), ld_t (by omega) (by omega), Int.toNat_natCast, w1.2, e1]
    simp only [jn, bnd]
    rw [ld_t (by omega) (by omega), Int.toNat_natCast, w1.1]
    simp (disch := omega) only [jadd_e]
    unfold dryB
    by_cases h : Y 515 i = -1
    · simp [h]
    · by_cases h2 : Y 516 i = 0
      · simp [h, h2]
      · simp [h, h2]
  · show f267_a _ _ t = _
    unfold f267_a
    rw [ld_t (by omega) (by omega), show t 1537 0 (Int.toNat 4) = C 389 0 from hR.1.2.2.2.2.1, if_pos (by omega)]
/-- one year, the class -/
theorem c148b {C Y : V2} {code : List Int} {r n : Nat} {s : S2} {x g p : Int} (h : Hr s 0 r C code) (hy : yv s 160 = Y) (hY : YB C Y) (h9 : Y 512 0 ≤ 999) (hn : n ≤ 60) (h0 : 0 ≤ x) (h1 : x < 2147483648) (hg : -10000 ≤ g ∧ g ≤ 100000) (hp : 0 ≤ p ∧ p ≤ 100) : ∃ s', itr (fun (x19, x20, x23, s24) => f148_b n p x19 x20 x23 s24) am_fu (x, g, 0, s) = some (xN n x, g + gN C code p n x Y, s') ∧ yv s' 160 = yN C code p n x Y ∧ Fr (pP r) s s' := by
  have hC := h.2.2.2.2.2
  refine Exists.elim (itr_inv (b := fun (x19, x20, x23, s24) => f148_b n p x19 x20 x23 s24) (fun (i : Nat) (z : Int × Int × Int × S2) => z.1 = xN i x ∧ z.2.1 = g + gN C code p i x Y ∧ z.2.2.1 = i ∧ yv z.2.2.2 160 = yN C code p i x Y ∧ Fr (pP r) s z.2.2.2) (fun (z : Int × Int × S2) => z.1 = xN n x ∧ z.2.1 = g + gN C code p n x Y ∧ yv z.2.2 160 = yN C code p n x Y ∧ Fr (pP r) s z.2.2) n ?_ am_fu (fu_lt (by omega)) (x, g, 0, s) ⟨rfl, by simp [gN], rfl, hy, Fr.rf⟩) ?_
  rotate_left
  · rintro ⟨a, b, s'⟩ ⟨hr, q1, q2, q3, q4⟩
    dsimp only at q1 q2 q3 q4
    subst q1 q2
    exact ⟨s', hr, q3, q4⟩
  · rintro i ⟨y, u, w, z⟩ hi ⟨g1, g2, g3, g4, g5⟩
    dsimp only at g1 g2 g3 g4 g5 ⊢
    subst g1 g2 g3
    by_cases e : i = n
    · subst e
      refine Or.inr ⟨(xN i x, g + gN C code p i x Y, z), ?_, rfl, rfl, g4, g5⟩
      show f148_b i p _ _ _ z = _
      unfold f148_b
      rw [if_pos (by omega)]
    · refine Or.inl ⟨by omega, ?_⟩
      have hx := xN_bd h0 h1 (k := i)
      have hx2 := xN_bd h0 h1 (k := i + 1)
      have hgb := gN_bd (Y := Y) (code := code) (p := p) (x := x) hC (n := i)
      have hpb := passG_bd (Y := yN C code p i x Y) (rain := rainI C (yN C code p i x Y) (drI p (xN (i + 1) x))) (code := code) hC
      obtain ⟨z', k1, k2, k3⟩ := m94h (d := drI p (xN (i + 1) x)) (h.pP g5) g4 (yN_YB hC hY (by omega))
      refine ⟨(xN (i + 1) x, g + gN C code p (i + 1) x Y, ((i + 1 : Nat) : Int), z'), ?_, rfl, rfl, rfl, k2, g5.tr k3⟩
      show f148_b n p _ _ _ z = _
      have hd : (if 0 ≤ jcmp (krem (kdiv (xN (i + 1) x) 65536) 100) (ji2l p) then (0 : Int) else 1) = drI p (xN (i + 1) x) := by
        rw [kdiv_e (by omega) (by omega) (by decide) (by decide), krem_e (by omega) (by omega) (by decide) (by decide), ji2l_e (by omega) (by omega)]
        unfold drI
        simp only [jcmp_ge]
        by_cases q : xN (i + 1) x / 65536 % 100 < p
        · rw [if_neg (by omega), if_pos q]
        · rw [if_pos (by omega), if_neg q]
      unfold f148_b
      rw [if_neg (by omega), nxX_k hx.1 hx.2, bnd, show nxX (xN i x) = xN (i + 1) x from rfl]
      have hs : ∀ d, d = drI p (xN (i + 1) x) → (cR (f94 d z) fun r27 s28 => bnd (jadd (g + gN C code p i x Y) r27) fun v29 => bnd (jadd (i : Int) 1) fun v30 => (some (.inl (xN (i + 1) x, v29, v30, s28)) : Option ((Int × Int × Int × S2) ⊕ (Int × Int × S2)))) = some (.inl (xN (i + 1) x, g + gN C code p (i + 1) x Y, ((i + 1 : Nat) : Int), z')) := by
        intro d hd
        subst hd
        rw [k1, cR_s, bnd, bnd, jadd_e (by omega) (by omega), jadd_e (by omega) (by omega)]
        simp only [gN]
        rw [Int.add_assoc]
        rfl
      simp only [jn]
      by_cases q : 0 ≤ jcmp (krem (kdiv (xN (i + 1) x) 65536) 100) (ji2l p)
      · rw [if_pos q] at hd ⊢
        exact hs 0 hd
      · rw [if_neg q] at hd ⊢
        exact hs 1 hd
def pGd (f i : Nat) : Bool := pG f i || (Nat.beq f 1589 && Nat.beq i 0)
theorem pGd_f {f i : Nat} : pGd f i = false ↔ ¬ ((f = 1587 ∨ f = 1588 ∨ f = 1590 ∨ f = 1544 ∨ f = 1539 ∨ f = 1547 ∨ f = 1537 ∨ f = 1589) ∧ i = 0) := by
  unfold pGd
  rw [Bool.or_eq_false_iff, pG_f, ← Bool.not_eq_true, Bool.and_eq_true, Nat.beq_eq, Nat.beq_eq]
  omega
theorem MS.setd {C Y : V2} {code : List Int} {d d' : Int} {t : S2} (h : MS C Y code d t) (hd : d' = 0 ∨ d' = 1) : MS C Y code d' (st2 t 1589 0 0 d') := by
  obtain ⟨a1, a2, a3, a4, a5⟩ := h
  have e : ∀ f, f ≠ 1589 → st2 t 1589 0 0 d' f 0 = t f 0 := fun f hf => st2_row (by omega)
  have hF : Fr (fun f i => Nat.beq f 1589) t (st2 t 1589 0 0 d') := Fr.rf.st rfl
  refine ⟨a1.ext (fun k hk => by rw [e _ (by omega)]) (fun f g1 g2 g3 g4 g5 => e f (by omega)), a2.ext (by rw [e _ (by omega)]) (by rw [e _ (by omega)]) (fun f g => e f (by omega)), a3.fr hF (by rw [e _ (by omega)]) (fun f g1 g2 => ?_), st2_eq, hd⟩
  rw [← Bool.not_eq_true, Nat.beq_eq]
  omega
theorem MS.set9 {C Y : V2} {code : List Int} {d x : Int} {t : S2} (h : MS C Y code d t) : MS C Y code d (st2 t 1537 0 9 x) := by
  obtain ⟨a1, a2, a3, a4, a5⟩ := h
  have e : ∀ f, f ≠ 1537 → st2 t 1537 0 9 x f 0 = t f 0 := fun f hf => st2_row (by omega)
  have hF : Fr pSc t (st2 t 1537 0 9 x) := Fr.rf.st rfl
  exact ⟨a1.ext (fun k hk => st2_ne (by omega)) (fun f g1 g2 g3 g4 g5 => e f (by omega)), a2.ext (st2_ne (by omega)) (st2_ne (by omega)) (fun f g => e f (by omega)), a3.fr hF (st2_ne (by omega)) (fun f g1 g2 => pSc_f.mpr (by omega)), by rw [e _ (by omega)]; exact a4, a5⟩
theorem c265b {C Y : V2} {code : List Int} {n : Nat} {t : S2} {x g p d : Int} (hC : CB C) (hY : YB C Y) (h : MS C Y code d t) (h9 : Y 512 0 ≤ 999) (hn : n ≤ 60) (hx : t 1537 0 9 = x) (h0 : 0 ≤ x) (h1 : x < 2147483648) (hg : -10000 ≤ g ∧ g ≤ 100000) (hp : 0 ≤ p ∧ p ≤ 100) : ∃ t' d', itr (fun (x24, x27, s28) => f265_b n p x24 x27 s28) am_fu (g, 0, t) = some (g + gN C code p n x Y, t') ∧ MS C (yN C code p n x Y) code d' t' ∧ t' 1537 0 9 = xN n x ∧ Fr pGd t t' := by
  refine Exists.elim (itr_inv (b := fun (x24, x27, s28) => f265_b n p x24 x27 s28) (fun (i : Nat) (z : Int × Int × S2) => z.1 = g + gN C code p i x Y ∧ z.2.1 = i ∧ (∃ d, MS C (yN C code p i x Y) code d z.2.2) ∧ z.2.2 1537 0 9 = xN i x ∧ Fr pGd t z.2.2) (fun (z : Int × S2) => z.1 = g + gN C code p n x Y ∧ (∃ d, MS C (yN C code p n x Y) code d z.2) ∧ z.2 1537 0 9 = xN n x ∧ Fr pGd t z.2) n ?_ am_fu (fu_lt (by omega)) (g, 0, t) ⟨by simp [gN], rfl, ⟨d, h⟩, hx, Fr.rf⟩) ?_
  rotate_left
  · rintro ⟨a, t'⟩ ⟨hr, q1, ⟨d', q2⟩, q3, q4⟩
    dsimp only at q1 q2 q3 q4
    subst q1
    exact ⟨t', d', hr, q2, q3, q4⟩
  · rintro i ⟨u, w, z⟩ hi ⟨g1, g2, ⟨d2, g3⟩, g4, g5⟩
    dsimp only at g1 g2 g3 g4 g5 ⊢
    subst g1 g2
    by_cases e : i = n
    · subst e
      refine Or.inr ⟨(g + gN C code p i x Y, z), ?_, rfl, ⟨d2, g3⟩, g4, g5⟩
      show f265_b i p _ _ z = _
      unfold f265_b
      rw [if_pos (by omega)]
    · refine Or.inl ⟨by omega, ?_⟩
      have hx := xN_bd h0 h1 (k := i)
      have hx2 := xN_bd h0 h1 (k := i + 1)
      have hgb := gN_bd (Y := Y) (code := code) (p := p) (x := x) hC (n := i)
      have hpb := passG_bd (Y := yN C code p i x Y) (rain := rainI C (yN C code p i x Y) (drI p (xN (i + 1) x))) (code := code) hC
      have e266 : f266 100 z = some (xN (i + 1) x / 65536 % 100, st2 z 1537 0 9 (xN (i + 1) x)) := by
        unfold f266
        rw [ld_t (by omega) (by omega), show z 1537 0 (Int.toNat 9) = xN i x from g4, ji2l_e (by omega) (by omega), nxX_k hx.1 hx.2, show nxX (xN i x) = xN (i + 1) x from rfl, jl2i_e (by omega) (by omega), sto_t (by omega) (by omega), ld_t (by omega) (by omega), show st2 z 1537 0 (Int.toNat 9) (xN (i + 1) x) 1537 0 (Int.toNat 9) = xN (i + 1) x from st2_eq, gd_t (by decide), bnd, jdiv_e (by omega) (by omega) (by decide) (by decide), jrem_e (by omega) (by omega) (by decide) (by decide)]
        rfl
      have hM9 := g3.set9 (x := xN (i + 1) x)
      have hMd := hM9.setd (drI_01 (p := p) (x := xN (i + 1) x))
      obtain ⟨z', k1, k2, k3, k4⟩ := m222 hC (yN_YB (code := code) (p := p) (x := x) hC hY (n := i) (by omega)) hMd
      refine ⟨(g + gN C code p (i + 1) x Y, ((i + 1 : Nat) : Int), z'), ?_, rfl, rfl, ⟨_, k2⟩, ?_, (((g5.st (f := 1537) (i := 0) (k := 9) rfl).st (f := 1589) (i := 0) (k := 0) rfl)).tr (k3.mo fun f i q => pG_f.mpr (by have := pGd_f.mp q; omega))⟩
      · show f265_b n p _ _ z = _
        unfold f265_b
        rw [if_neg (by omega), e266, cR_s]
        simp only [jn]
        have hs : ∀ d, d = drI p (xN (i + 1) x) → gd (d = 0 ∨ d = 1) (bnd (st2 (st2 z 1537 0 9 (xN (i + 1) x)) 1589 0 0 d) fun s32 => cR (f222 s32) fun r33 s34 => bnd (jadd (g + gN C code p i x Y) r33) fun v35 => bnd (jadd (i : Int) 1) fun v36 => (some (.inl (v35, v36, s34)) : Option ((Int × Int × S2) ⊕ (Int × S2)))) = some (.inl (g + gN C code p (i + 1) x Y, ((i + 1 : Nat) : Int), z')) := by
          intro d hd
          subst hd
          rw [gd_t drI_01, bnd, k1, cR_s, bnd, bnd, jadd_e (by omega) (by omega), jadd_e (by omega) (by omega)]
          simp only [gN]
          rw [Int.add_assoc]
          rfl
        by_cases q : p ≤ xN (i + 1) x / 65536 % 100
        · rw [if_pos q]
          exact hs 0 (by unfold drI; rw [if_neg (by omega)])
        · rw [if_neg q]
          exact hs 1 (by unfold drI; rw [if_pos (by omega)])
      · show z' 1537 0 9 = _
        rw [k4 9 (by decide), st2_ne (by omega), st2_eq]
