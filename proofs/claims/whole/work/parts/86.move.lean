/-! a set of pieces hung or taken -/
theorem takeS_YB {C Y : V2} {n : Int} (hY : YB C Y) : YB C (takeS C Y n) := by
  unfold takeS
  by_cases h : upP C Y n
  · rw [if_pos h]
    obtain ⟨n, rfl⟩ := Int.eq_ofNat_of_zero_le h.1.1
    exact so_YB hY h.1.2.1 (Or.inl rfl)
  · rw [if_neg h]
    exact hY
theorem putS_YB {C Y : V2} {n l : Int} (hY : YB C Y) : YB C (putS C Y n l) := by
  unfold putS
  by_cases h : mayH C Y n l
  · rw [if_pos h]
    obtain ⟨n, rfl⟩ := Int.eq_ofNat_of_zero_le h.1.1
    exact so_YB hY h.1.2.1 (Or.inr ⟨h.2.1.1, h.2.1.2.1⟩)
  · rw [if_neg h]
    exact hY
def mvStep (C : V2) (up : Bool) (l : Int) (i n : Nat) (r : Bool × V2) : Bool × V2 := if r.1 = true ∧ Nat.testBit i n = true then (if up = true then (if mayI C r.2 n l = 0 then (false, r.2) else (true, putS C r.2 n l)) else (true, takeS C r.2 n)) else r
def mvS (C : V2) (up : Bool) (l : Int) (i : Nat) (Y : V2) : Nat → Bool × V2
  | 0 => (true, Y)
  | n + 1 => mvStep C up l i n (mvS C up l i Y n)
theorem mvS_s {C Y : V2} {up : Bool} {l : Int} {i n : Nat} : mvS C up l i Y (n + 1) = mvStep C up l i n (mvS C up l i Y n) := rfl
theorem mvStep_0 {C : V2} {up : Bool} {l : Int} {i n : Nat} {r : Bool × V2} (h : Nat.testBit i n = false) : mvStep C up l i n r = r := by
  unfold mvStep
  rw [if_neg (by rw [h]; simp)]
theorem mvStep_f {C : V2} {up : Bool} {l : Int} {i n : Nat} {r : Bool × V2} (h : r.1 = false) : mvStep C up l i n r = r := by
  unfold mvStep
  rw [if_neg (by rw [h]; simp)]
theorem mvStep_t {C : V2} {l : Int} {i n : Nat} {r : Bool × V2} (h : r.1 = true) (h2 : Nat.testBit i n = true) : mvStep C false l i n r = (true, takeS C r.2 n) := by
  unfold mvStep
  rw [if_pos ⟨h, h2⟩, if_neg (by decide)]
theorem mvStep_u {C : V2} {l : Int} {i n : Nat} {r : Bool × V2} (h : r.1 = true) (h2 : Nat.testBit i n = true) : mvStep C true l i n r = if mayI C r.2 n l = 0 then (false, r.2) else (true, putS C r.2 n l) := by
  unfold mvStep
  rw [if_pos ⟨h, h2⟩, if_pos rfl]
theorem mvS_YB {C Y : V2} {up : Bool} {l : Int} {i : Nat} (hY : YB C Y) : ∀ {n : Nat}, YB C (mvS C up l i Y n).2
  | 0 => hY
  | n + 1 => by
    have ih := mvS_YB (up := up) (l := l) (i := i) hY (n := n)
    rw [mvS_s]
    unfold mvStep
    split
    · split
      · split
        · exact ih
        · exact putS_YB ih
      · exact takeS_YB ih
    · exact ih
theorem mvS_f {C Y : V2} {up : Bool} {l : Int} {i n : Nat} (h : (mvS C up l i Y n).1 = false) : ∀ {m : Nat}, n ≤ m → (mvS C up l i Y m).1 = false
  | 0, hm => by
    have : n = 0 := by omega
    subst this; exact h
  | m + 1, hm => by
    by_cases e : n = m + 1
    · subst e; exact h
    · have ih := mvS_f h (m := m) (by omega)
      rw [mvS_s, mvStep_f ih]
      exact ih
theorem mvS_cut {C Y : V2} {up : Bool} {l : Int} {i m : Nat} : ∀ {n : Nat}, m ≤ n → (∀ k, m ≤ k → k < n → Nat.testBit i k = false) → mvS C up l i Y n = mvS C up l i Y m
  | 0, h, _ => by
    have : m = 0 := by omega
    subst this; rfl
  | n + 1, h, h0 => by
    by_cases e : m = n + 1
    · subst e; rfl
    · rw [mvS_s, mvStep_0 (h0 n (by omega) (by omega))]
      exact mvS_cut (n := n) (by omega) (fun k h1 h2 => h0 k h1 (by omega))
theorem take_515 {C Y : V2} {n k : Nat} (hk : k < 10) (h : k ≠ n) : takeS C Y n 515 k = Y 515 k := by
  unfold takeS
  by_cases q : upP C Y n
  · rw [if_pos q, so515 hk, if_neg (by omega)]
  · rw [if_neg q]
theorem mvS_515 {C Y : V2} {l : Int} {i k : Nat} (hk : k < 10) : ∀ {n : Nat}, n ≤ k → (mvS C false l i Y n).2 515 k = Y 515 k
  | 0, _ => rfl
  | n + 1, h => by
    have ih := mvS_515 (C := C) (Y := Y) (l := l) (i := i) hk (n := n) (by omega)
    rw [mvS_s]
    cases h1 : (mvS C false l i Y n).1 with
    | false => rw [mvStep_f h1]; exact ih
    | true =>
      cases h2 : Nat.testBit i n with
      | false => rw [mvStep_0 h2]; exact ih
      | true =>
        rw [mvStep_t h1 h2]
        show takeS C _ n 515 k = _
        rw [take_515 hk (by omega)]
        exact ih
/-- class: whose a line is on the trial yard -/
theorem hr_own {z : S2} {r : Nat} {C Y : V2} {code : List Int} {l : Nat} (h : Hr z 0 r C code) (hy : yv z 160 = Y) (hY : YB C Y) (hl : l < 6) : ∃ z1 z2, f78 0 z = some z1 ∧ f81 l z1 = some (own C Y (rainI C Y 0) code l, z2) ∧ Fr (pP r) z z2 := by
  obtain ⟨b1, b2, b3, b4, b5, b6⟩ := h
  obtain ⟨s2, c1, c2, c3, c4⟩ := m78 (d := 0) b1 (by rw [b5]; exact b6) (by rw [b5, hy]; exact hY)
  rw [b5] at c2 c3
  rw [hy] at c3
  have hR : Rd s2 0 C Y (rainI C Y 0) := by
    refine ⟨?_, ?_, ?_, c3, ?_⟩
    · rw [c4 1153 0 (pM_f.mpr (by omega))]; exact b1
    · rw [c4.cw fun f g1 g2 => pM_f.mpr (by omega)]; exact b5
    · rw [c4.yv fun f g1 g2 => pM_f.mpr (by omega)]; exact hy
    · rw [c2, ← hy]
      unfold rainI
      rw [yv512]
  obtain ⟨s3, d1, d2⟩ := m81 (r := r) (by rw [c4 1154 0 (pM_f.mpr (by omega))]; exact b2) (b3.fr (c4 _ _ (pM_f.mpr (by omega))) (c4 _ _ (pM_f.mpr (by omega)))) b4 hR b6 hY hl
  exact ⟨s2, s3, c1, d1, (c4.mo fun f i q => (pP_f.mp q).1).tr (d2.mo fun f i q => pQ_f.mpr (pA_f.mp (pP_f.mp q).2.1).1)⟩
def u01 (b : Bool) : Int := if b = true then 1 else 0
/-- class: the set moved -/
theorem m125 {s : S2} {r : Nat} {C Y : V2} {code : List Int} {l : Int} {i : Nat} {up : Bool} (h : Hr s 0 r C code) (hy : yv s 160 = Y) (hi : i < 1024) : ∃ s', f125 i l (u01 up) s = some (u01 (mvS C up l i Y 10).1, s') ∧ ((mvS C up l i Y 10).1 = true → yv s' 160 = (mvS C up l i Y 10).2) ∧ Fr (pY 160) s s' := by
  have hC := h.2.2.2.2.2
  unfold f125
  refine inv_cP (a := ((0 : Int), s)) (P := fun e => ∃ s', e = some (u01 (mvS C up l i Y 10).1, s') ∧ ((mvS C up l i Y 10).1 = true → yv s' 160 = (mvS C up l i Y 10).2) ∧ Fr (pY 160) s s') (fun (n : Nat) (z : Int × S2) => z.1 = n ∧ (mvS C up l i Y n).1 = true ∧ yv z.2 160 = (mvS C up l i Y n).2 ∧ Fr (pY 160) s z.2) (fun (z : S2 ⊕ S2) => match z with
    | .inl z => (mvS C up l i Y 10).1 = false ∧ Fr (pY 160) s z
    | .inr z => (mvS C up l i Y 10).1 = true ∧ yv z 160 = (mvS C up l i Y 10).2 ∧ Fr (pY 160) s z) 10 (by decide) ⟨rfl, rfl, hy, Fr.rf⟩ ?_ ?_
  · rintro n ⟨x, z⟩ hn ⟨g1, g2, g3, g4⟩
    dsimp only at g1 g2 g3 g4 ⊢
    subst g1
    by_cases e : n = 10
    · subst e
      exact Or.inr ⟨.inr z, rfl, g2, g3, g4⟩
    · have hn10 : n < 10 := by omega
      have hz : Hr z 0 r C code := h.fr g4 (pY_f.mpr (by omega)) (pY_f.mpr (by omega)) (pY_f.mpr (by omega)) (pY_f.mpr (by omega)) (fun f g1 g2 => pY_f.mpr (by omega))
      have q1 : (z 1153 0 0).toNat = 0 := by rw [hz.1]; rfl
      have q2 : cw z 0 = C := hz.2.2.2.2.1
      cases hb : Nat.testBit i n with
      | false =>
        left
        refine ⟨hn10, (((n + 1 : Nat) : Int), z), ?_, rfl, by rw [mvS_s, mvStep_0 hb]; exact g2, by rw [mvS_s, mvStep_0 hb]; exact g3, g4⟩
        show f125_a i l (u01 up) n z = _
        unfold f125_a
        rw [if_neg (by omega), bt_e hi (by omega), if_pos (by unfold tb; rw [hb]; rfl), bnd, jadd_e (by omega) (by omega)]
        rfl
      | true =>
        have hst : ∀ (o : Option ((Int × S2) ⊕ (S2 ⊕ S2))), (jn (fun (_ : Unit) => if u01 up = 0 then (bnd (z 1153 0 0).toNat fun i7 => cP (f99 160 i7 n z) fun s8 => bnd (jadd (n : Int) 1) fun v9 => some (.inl (v9, s8))) else bnd (z 1153 0 0).toNat fun i10 => cP (f54 160 i10 n l z) fun s11 => bnd (jadd (n : Int) 1) fun v12 => some (.inl (v12, s11))) fun j42 => if u01 up = 0 then (j42 ()) else bnd (z 1153 0 0).toNat fun i13 => cP (f48 160 i13 n l z) fun r14 => if ¬ r14 = 0 then (j42 ()) else some (.inr (.inl z))) = o → f125_a i l (u01 up) n z = o := by
          intro o ho
          unfold f125_a
          rw [if_neg (by omega), bt_e hi (by omega), if_neg (by unfold tb; rw [hb]; decide)]
          exact ho
        cases up with
        | false =>
          left
          obtain ⟨z', k1, k2, k3⟩ := m99 (y := 160) (c := 0) (n := (n : Int)) (s := z) (by rw [q2]; exact hC)
          rw [q2, g3] at k2
          refine ⟨hn10, (((n + 1 : Nat) : Int), z'), ?_, rfl, by rw [mvS_s, mvStep_t g2 hb], by rw [mvS_s, mvStep_t g2 hb]; exact k2, g4.tr k3⟩
          refine hst _ ?_
          simp only [jn]
          rw [if_pos (by decide), if_pos (by decide), bnd, q1, k1, cP_s, bnd, jadd_e (by omega) (by omega)]
          rfl
        | true =>
          have e48 : f48 160 0 n l z = some (mayI C (mvS C true l i Y n).2 n l) := by
            rw [m48n (by rw [q2]; exact hC), q2, g3]
          by_cases hm : mayI C (mvS C true l i Y n).2 n l = 0
          · right
            have hf : (mvS C true l i Y (n + 1)).1 = false := by rw [mvS_s, mvStep_u g2 hb, if_pos hm]
            refine ⟨.inl z, ?_, mvS_f hf (by omega), g4⟩
            refine hst _ ?_
            simp only [jn]
            rw [if_neg (by decide), bnd, q1, e48, cP_s, if_neg (by rw [hm]; decide)]
          · left
            obtain ⟨z', k1, k2, k3⟩ := m54 (y := 160) (c := 0) (n := (n : Int)) (l := l) (s := z) (by rw [q2]; exact hC)
            rw [q2, g3] at k2
            refine ⟨hn10, (((n + 1 : Nat) : Int), z'), ?_, rfl, by rw [mvS_s, mvStep_u g2 hb, if_neg hm], by rw [mvS_s, mvStep_u g2 hb, if_neg hm]; exact k2, g4.tr k3⟩
            refine hst _ ?_
            simp only [jn]
            rw [if_neg (by decide), bnd, q1, e48, cP_s, if_pos hm, if_neg (by decide), bnd, k1, cP_s, bnd, jadd_e (by omega) (by omega)]
            rfl
  · rintro (z | z)
    · rintro ⟨g1, g2⟩
      refine ⟨z, ?_, fun q => (by rw [g1] at q; cases q), g2⟩
      rw [g1]
      rfl
    · rintro ⟨g1, g2, g3⟩
      refine ⟨z, ?_, fun _ => g2, g3⟩
      rw [g1]
      rfl
/-- model: may be hung, hung -/
theorem m224 {C Y : V2} {code : List Int} {d : Int} {t : S2} {n l : Nat} (hC : CB C) (hY : YB C Y) (h : MS C Y code d t) (hn : n < 10) (hn2 : (n : Int) < C 389 0) (hl : l < 6) (hl2 : (l : Int) < C 388 0) : f224 n l t = some (mayI C Y n l) := by
  have hcc := hC.1
  obtain ⟨w1, w2⟩ := h.2.1.2.2.2.1 n hn hn2
  obtain ⟨w3, w4, w5⟩ := h.1.2.2.1 n hn hn2
  obtain ⟨f1, f2, -, -⟩ := hC.2.2.1 n hn hn2
  obtain ⟨fam, hfam⟩ := Int.eq_ofNat_of_zero_le f1
  have w6 := (h.2.1.2.2.2.2 fam (by omega) (by omega)).1
  have hm : mayH C Y n l ↔ Y 515 n = -1 ∧ Y 514 l = 0 ∧ 2 ≤ Y 517 fam ∧ C 396 n ≤ left C Y l := by
    unfold mayH
    simp only [Int.toNat_natCast, hfam]
    constructor
    · rintro ⟨-, -, a, b, -, c, d⟩
      exact ⟨a, b, c, d⟩
    · rintro ⟨a, b, c, d⟩
      exact ⟨by omega, by omega, a, b, by omega, c, d⟩
  unfold f224 mayI
  rw [ld_t (by omega) (by omega), Int.toNat_natCast, w2]
  by_cases b1 : Y 515 n = -1
  · rw [if_neg (fun q => q b1), m201 hY h.2.1 hl, cP_s]
    by_cases b2 : Y 514 l = 0
    · rw [if_neg (fun q => q b2), m211 hC hY h.1 h.2.1 hl hl2, cP_s, ld_t (by omega) (by omega), Int.toNat_natCast, w4]
      by_cases b3 : C 396 n ≤ left C Y l
      · rw [if_neg (by omega), ld_t (by omega) (by omega), Int.toNat_natCast, w3, hfam, ld_t (by omega) (by omega), Int.toNat_natCast, w6]
        by_cases b4 : 2 ≤ Y 517 fam
        · rw [if_neg (by omega), if_pos (hm.mpr ⟨b1, b2, b4, b3⟩)]
        · rw [if_pos (by omega), if_neg (fun q => b4 (hm.mp q).2.2.1)]
      · rw [if_pos (by omega), if_neg (fun q => b3 (hm.mp q).2.2.2)]
    · rw [if_pos b2, if_neg (fun q => b2 (hm.mp q).2.1)]
  · rw [if_pos b1, if_neg (fun q => b1 (hm.mp q).1)]
theorem m225 {C Y : V2} {code : List Int} {d : Int} {t : S2} {n l : Nat} (hC : CB C) (h : MS C Y code d t) (hm : mayH C Y n l) : ∃ t', f225 n l t = some t' ∧ MS C (putS C Y n l) code d t' ∧ Fr pH t t' := by
  have hcc := hC.1
  have hn2 : (n : Int) < C 389 0 := hm.1.2.1
  have hn : n < 10 := by have := hm.1.2.2; omega
  obtain ⟨f1, f2, -, -⟩ := hC.2.2.1 n hn hn2
  obtain ⟨fam, hfam⟩ := Int.eq_ofNat_of_zero_le f1
  have q1 : t 1545 0 n = fam := by rw [(h.1.2.2.1 n hn hn2).1]; exact hfam
  have ht : putS C Y n l = setOn Y n l fam (fun v => jsub v 2) := by
    unfold putS
    rw [if_pos hm, Int.toNat_natCast, hfam]
  refine ⟨st2 (st2 t 1548 0 n l) 1538 0 fam (jsub (t 1538 0 fam) 2), ?_, ?_, (Fr.rf.st rfl).st rfl⟩
  · unfold f225
    rw [sto_t (by omega) (by omega), Int.toNat_natCast, ld_t (by omega) (by omega), Int.toNat_natCast, st2_ne (by omega), q1, ld_t (by omega) (by omega), Int.toNat_natCast, st2_ne (by omega), sto_t (by omega) (by omega), Int.toNat_natCast]
  · rw [ht]
    exact so_MS (g := fun v => jsub v 2) h hn (by omega) (by omega)
theorem mayI_t {C Y : V2} {n l : Int} (h : ¬ mayI C Y n l = 0) : mayH C Y n l := by
  unfold mayI at h
  by_cases q : mayH C Y n l
  · exact q
  · rw [if_neg q] at h
    exact absurd rfl h
theorem mayI_01 {C Y : V2} {n l : Int} : mayI C Y n l = 0 ∨ mayI C Y n l = 1 := by
  unfold mayI
  by_cases q : mayH C Y n l
  · rw [if_pos q]; exact Or.inr rfl
  · rw [if_neg q]; exact Or.inl rfl
theorem m202 {i n : Nat} (hi : i < 1024) (hn : n < 16) : f202 i n = some (tb i n) := by
  unfold f202
  rw [bt_e hi hn]
  unfold tb
  cases Nat.testBit i n <;> rfl
/-- model: a set hung on a line -/
theorem m250 {C Y : V2} {code : List Int} {d : Int} {t : S2} {i l : Nat} (hC : CB C) (hY : YB C Y) (h : MS C Y code d t) (hi : i < 1024) (hb : ∀ n, Nat.testBit i n = true → n < 10 ∧ (n : Int) < C 389 0) (hl : l < 6) (hl2 : (l : Int) < C 388 0) : ∃ t', f250 i l t = some (u01 (mvS C true l i Y 10).1, t') ∧ ((mvS C true l i Y 10).1 = true → MS C (mvS C true l i Y 10).2 code d t') ∧ Fr pH t t' := by
  have hcc := hC.1
  have hcut : mvS C true l i Y 10 = mvS C true l i Y (C 389 0).toNat := mvS_cut (by omega) (fun k h1 h2 => by
    cases q : Nat.testBit i k with
    | false => rfl
    | true => have := hb k q; omega)
  rw [hcut]
  unfold f250
  refine inv_cP (a := ((0 : Int), t)) (P := fun e => ∃ t', e = some (u01 (mvS C true l i Y (C 389 0).toNat).1, t') ∧ ((mvS C true l i Y (C 389 0).toNat).1 = true → MS C (mvS C true l i Y (C 389 0).toNat).2 code d t') ∧ Fr pH t t') (fun (n : Nat) (z : Int × S2) => z.1 = n ∧ (mvS C true l i Y n).1 = true ∧ MS C (mvS C true l i Y n).2 code d z.2 ∧ Fr pH t z.2) (fun (z : S2 ⊕ S2) => match z with
    | .inl z => (mvS C true l i Y (C 389 0).toNat).1 = false ∧ Fr pH t z
    | .inr z => (mvS C true l i Y (C 389 0).toNat).1 = true ∧ MS C (mvS C true l i Y (C 389 0).toNat).2 code d z ∧ Fr pH t z) (C 389 0).toNat (by omega) ⟨rfl, rfl, h, Fr.rf⟩ ?_ ?_
  · rintro n ⟨x, z⟩ hn ⟨g1, g2, g3, g4⟩
    dsimp only at g1 g2 g3 g4 ⊢
    subst g1
    have q4 : z 1537 0 4 = C 389 0 := g3.1.1.2.2.2.2.1
    by_cases e : n = (C 389 0).toNat
    · right
      refine ⟨.inr z, ?_, by rw [← e]; exact g2, by rw [← e]; exact g3, g4⟩
      show f250_a i l n z = _
      unfold f250_a
      rw [ld_t (by omega) (by omega), show z 1537 0 (Int.toNat 4) = C 389 0 from q4, if_pos (by omega)]
    · have hst : f250_a i l n z = (jn (fun (_ : Unit) => if tb i n = 0 then (some (.inl (((n + 1 : Nat) : Int), z))) else cP (f225 n l z) fun s9 => some (.inl (((n + 1 : Nat) : Int), s9))) fun j31 => if tb i n = 0 then (j31 ()) else cP (f224 n l z) fun r11 => if ¬ r11 = 0 then (j31 ()) else some (.inr (.inl z))) := by
        unfold f250_a
        rw [ld_t (by omega) (by omega), show z 1537 0 (Int.toNat 4) = C 389 0 from q4, if_neg (by omega), m202 hi (by omega), cP_s, cP_s, bnd, jadd_e (by omega) (by omega)]
        rfl
      cases hq : Nat.testBit i n with
      | false =>
        left
        have ht : tb i n = 0 := by unfold tb; rw [hq]; rfl
        refine ⟨by omega, (((n + 1 : Nat) : Int), z), ?_, rfl, by rw [mvS_s, mvStep_0 hq]; exact g2, by rw [mvS_s, mvStep_0 hq]; exact g3, g4⟩
        show f250_a i l n z = _
        rw [hst]
        simp only [jn]
        rw [if_pos ht, if_pos ht]
      | true =>
        have ht : ¬ tb i n = 0 := by unfold tb; rw [hq]; decide
        have e224 := m224 hC (mvS_YB hY) g3 (n := n) (l := l) (by omega) (by omega) hl hl2
        by_cases hm : mayI C (mvS C true l i Y n).2 n l = 0
        · right
          have hf : (mvS C true l i Y (n + 1)).1 = false := by rw [mvS_s, mvStep_u g2 hq, if_pos hm]
          refine ⟨.inl z, ?_, mvS_f hf (by omega), g4⟩
          show f250_a i l n z = _
          rw [hst]
          simp only [jn]
          rw [if_neg ht, e224, cP_s, if_neg (fun q => q hm)]
        · left
          obtain ⟨z', k1, k2, k3⟩ := m225 hC g3 (mayI_t hm)
          refine ⟨by omega, (((n + 1 : Nat) : Int), z'), ?_, rfl, by rw [mvS_s, mvStep_u g2 hq, if_neg hm], by rw [mvS_s, mvStep_u g2 hq, if_neg hm]; exact k2, g4.tr k3⟩
          show f250_a i l n z = _
          rw [hst]
          simp only [jn]
          rw [if_neg ht, e224, cP_s, if_pos hm, if_neg ht, k1, cP_s]
  · rintro (z | z)
    · rintro ⟨g1, g2⟩
      refine ⟨z, ?_, fun q => (by rw [g1] at q; cases q), g2⟩
      rw [g1]
      rfl
    · rintro ⟨g1, g2, g3⟩
      refine ⟨z, ?_, fun _ => g2, g3⟩
      rw [g1]
      rfl
/-- model: a set taken -/
theorem m247b {C Y : V2} {code : List Int} {d : Int} {t : S2} {i : Nat} {l : Int} (hC : CB C) (hY : YB C Y) (h : MS C Y code d t) (hi : i < 1024) (hb : ∀ n, Nat.testBit i n = true → n < 10 ∧ (n : Int) < C 389 0 ∧ Y 515 n ≠ -1) : ∃ t', itr (fun (x17, s18) => f247_b i x17 s18) am_fu (0, t) = some t' ∧ (mvS C false l i Y 10).1 = true ∧ MS C (mvS C false l i Y 10).2 code d t' ∧ Fr pH t t' := by
  have hcc := hC.1
  have hcut : mvS C false l i Y 10 = mvS C false l i Y (C 389 0).toNat := mvS_cut (by omega) (fun k h1 h2 => by
    cases q : Nat.testBit i k with
    | false => rfl
    | true => have := hb k q; omega)
  rw [hcut]
  refine itr_inv (fun (n : Nat) (z : Int × S2) => z.1 = n ∧ (mvS C false l i Y n).1 = true ∧ MS C (mvS C false l i Y n).2 code d z.2 ∧ Fr pH t z.2) (fun (z : S2) => (mvS C false l i Y (C 389 0).toNat).1 = true ∧ MS C (mvS C false l i Y (C 389 0).toNat).2 code d z ∧ Fr pH t z) (C 389 0).toNat ?_ am_fu (fu_lt (by omega)) (0, t) ⟨rfl, rfl, h, Fr.rf⟩
  rintro n ⟨x, z⟩ hn ⟨g1, g2, g3, g4⟩
  dsimp only at g1 g2 g3 g4 ⊢
  subst g1
  have q4 : z 1537 0 4 = C 389 0 := g3.1.1.2.2.2.2.1
  by_cases e : n = (C 389 0).toNat
  · right
    refine ⟨z, ?_, by rw [← e]; exact g2, by rw [← e]; exact g3, g4⟩
    show f247_b i n z = _
    unfold f247_b
    rw [ld_t (by omega) (by omega), show z 1537 0 (Int.toNat 4) = C 389 0 from q4, if_pos (by omega)]
  · left
    refine ⟨by omega, ?_⟩
    cases hq : Nat.testBit i n with
    | false =>
      refine ⟨(((n + 1 : Nat) : Int), z), ?_, rfl, by rw [mvS_s, mvStep_0 hq]; exact g2, by rw [mvS_s, mvStep_0 hq]; exact g3, g4⟩
      show f247_b i n z = _
      unfold f247_b
      rw [ld_t (by omega) (by omega), show z 1537 0 (Int.toNat 4) = C 389 0 from q4, if_neg (by omega), m202 hi (by omega), cP_s, if_pos (by unfold tb; rw [hq]; rfl), bnd, jadd_e (by omega) (by omega)]
      rfl
    | true =>
      obtain ⟨b1, b2, b3⟩ := hb n hq
      obtain ⟨z', k1, k2, k3⟩ := m227 hC g3 b1 b2 (by rw [mvS_515 b1 (by omega)]; exact b3)
      refine ⟨(((n + 1 : Nat) : Int), z'), ?_, rfl, by rw [mvS_s, mvStep_t g2 hq], by rw [mvS_s, mvStep_t g2 hq]; exact k2, g4.tr k3⟩
      show f247_b i n z = _
      unfold f247_b
      rw [ld_t (by omega) (by omega), show z 1537 0 (Int.toNat 4) = C 389 0 from q4, if_neg (by omega), m202 hi (by omega), cP_s, if_neg (by unfold tb; rw [hq]; decide), k1, cP_s, bnd, jadd_e (by omega) (by omega)]
      rfl
