theorem Fr.st0 {s s' : S2} {g j : Nat} {v : Int} (h : Fr pKa s s') (h1 : 512 ≤ g) (h2 : g ≤ 518) : Fr pKa s (st2 s' g 0 j v) := h.st (by
  unfold pKa
  rw [Nat.ble_eq_true_of_le h1, Nat.ble_eq_true_of_le h2]
  simp)
theorem call_wash {s : S2} {a : Int} (h : Inv s) (ia : i32 a) : ∃ r s1 s2, f100 a s = some (r, s1) ∧ f228 a s1 = some (r, s2) ∧ Inv s2 := by
  obtain ⟨R, K, hB, hW, hR⟩ := h.rel
  obtain ⟨-, -, hC, hY, h9, hL, hw, hM⟩ := hR
  have hcc := hC.1
  by_cases q1 : 0 ≤ a ∧ a < cw s 0 389 0
  · obtain ⟨n, rfl⟩ := Int.eq_ofNat_of_zero_le q1.1
    have hn : n < 10 := by omega
    have e49 : f49 0 n s = some 1 := m49t (by have := ch_389 (s := s); omega)
    have v1 := (hM.2.1.2.2.2.1 n hn q1.2).2
    have v2 := (hM.2.1.2.2.2.1 n hn q1.2).1
    have v3 := (hM.1.2.2.1 n hn q1.2).2.2
    have w3 : s 397 0 n = cw s 0 397 n := (cw10 (by omega) (by omega) hn).symm
    have w2 : s 516 0 n = yv s 0 516 n := (yv516 hn).symm
    have hpc := (hC.2.2.1 n hn q1.2).2.2.2
    have hpc2 := (hC.2.1 n hn).2.2.2.2.2
    by_cases q2 : yv s 0 515 n = -1
    · have hnu : ¬ upP (cw s 0) (yv s 0) n := fun w => w.2 (by rw [Int.toNat_natCast]; exact q2)
      by_cases q3 : yv s 0 516 n = cw s 0 397 n
      · refine ⟨-1, s, s, ?_, ?_, h⟩
        · unfold f100
          rw [e49, cP_s, if_neg ne10, (m98 hC).2 hnu, cP_s, if_pos rfl, ld_t (by omega) (by omega), ld_t (by omega) (by omega), Int.toNat_natCast, w3, w2, if_neg (show ¬ ¬ yv s 0 516 n = cw s 0 397 n from fun w => w q3)]
        · unfold f228
          rw [m214 hC hM.1 ia, cP_s, if_pos (show 0 ≤ (n : Int) ∧ (n : Int) < cw s 0 389 0 from q1), if_neg ne10, ld_t (by omega) (by omega), Int.toNat_natCast, v1, if_neg (show ¬ ¬ yv s 0 515 n = -1 from fun w => w q2), ld_t (by omega) (by omega), Int.toNat_natCast, v2, ld_t (by omega) (by omega), Int.toNat_natCast, v3, if_neg (show ¬ ¬ yv s 0 516 n = cw s 0 397 n from fun w => w q3)]
      · obtain ⟨sa, a1, a2, a3⟩ := h.kept
        have hya : yv sa 0 = yv s 0 := a3.yv fun f g1 g2 => pRg_f.mpr (by omega)
        have f2 : Fr pKa sa (st2 sa 516 0 n (cw s 0 397 n)) := Fr.rf.st0 (by omega) (by omega)
        have b2 : yv (st2 sa 516 0 n (cw s 0 397 n)) 0 = setF (yv s 0) 516 n (cw s 0 397 n) := by rw [yv_st, hya]
        have hcl : Fr pCl s (st2 sa 516 0 n (cw s 0 397 n)) := (pRg_cl a3).tr (pKa_cl f2)
        generalize hz : st2 sa 516 0 n (cw s 0 397 n) = s1 at f2 b2 hcl
        have hM1 := hM.cl hcl
        obtain ⟨sd, g1, g2, g3⟩ := h.keptM hcl
        have hMd := hM1.rm g3
        have u1 := (hM1.2.1.2.2.2.1 n hn q1.2).2
        have u2 := (hM1.2.1.2.2.2.1 n hn q1.2).1
        have u3 := (hM1.1.2.2.1 n hn q1.2).2.2
        have u4 := (hMd.1.2.2.1 n hn q1.2).2.2
        have k2 := wash_MS (n := n) (v := cw s 0 397 n) hMd
        refine ⟨cw s 0 397 n, s1, st2 sd 1547 0 n (cw s 0 397 n), ?_, ?_, h.acted4 a2 a3 f2 g2 g3 (Fr.rf.st rfl) b2 (set_YB hY (by omega)) (by rw [setF_o yr512 (by omega)]; exact h9) k2 (fun k _ _ => st2_ne (by omega))⟩
        · unfold f100
          rw [e49, cP_s, if_neg ne10, (m98 hC).2 hnu, cP_s, if_pos rfl, ld_t (by omega) (by omega), ld_t (by omega) (by omega), Int.toNat_natCast, w3, w2, if_pos q3, a1, cP_s, sto_t (by omega) (by omega), Int.toNat_natCast, hz]
        · unfold f228
          rw [m214 hC hM1.1 ia, cP_s, if_pos (show 0 ≤ (n : Int) ∧ (n : Int) < cw s 0 389 0 from q1), if_neg ne10, ld_t (by omega) (by omega), Int.toNat_natCast, u1, if_neg (show ¬ ¬ yv s 0 515 n = -1 from fun w => w q2), ld_t (by omega) (by omega), Int.toNat_natCast, u2, ld_t (by omega) (by omega), Int.toNat_natCast, u3, if_pos q3, g1, cP_s, ld_t (by omega) (by omega), Int.toNat_natCast, u4, sto_t (by omega) (by omega), Int.toNat_natCast, ld_t (by omega) (by omega), Int.toNat_natCast, st2_eq]
    · have hnu : upP (cw s 0) (yv s 0) n := ⟨⟨q1.1, q1.2, by omega⟩, by rw [Int.toNat_natCast]; exact q2⟩
      refine ⟨-1, s, s, ?_, ?_, h⟩
      · unfold f100
        rw [e49, cP_s, if_neg ne10, (m98 hC).1 hnu, cP_s, if_neg ne10]
      · unfold f228
        rw [m214 hC hM.1 ia, cP_s, if_pos (show 0 ≤ (n : Int) ∧ (n : Int) < cw s 0 389 0 from q1), if_neg ne10, ld_t (by omega) (by omega), Int.toNat_natCast, v1, if_pos q2]
  · refine ⟨-1, s, s, ?_, ?_, h⟩
    · unfold f100
      rw [m49f (by have := ch_389 (s := s); omega), cP_s, if_pos rfl]
    · unfold f228
      rw [m214 hC hM.1 ia, cP_s, if_neg q1, if_pos rfl]
theorem call_mend {s : S2} {a : Int} (h : Inv s) (ia : i32 a) : ∃ r s1 s2, f103 a s = some (r, s1) ∧ f230 a s1 = some (r, s2) ∧ Inv s2 := by
  obtain ⟨R, K, hB, hW, hR⟩ := h.rel
  obtain ⟨-, -, hC, hY, h9, hL, hw, hM⟩ := hR
  have hcc := hC.1
  by_cases q1 : 0 ≤ a ∧ a < cw s 0 388 0
  · obtain ⟨n, rfl⟩ := Int.eq_ofNat_of_zero_le q1.1
    have hn : n < 6 := by omega
    have e50 : f50 0 n s = some 1 := m50t (by have := ch_388 (s := s); omega)
    have w2 : s 514 0 n = yv s 0 514 n := (yv514 hn).symm
    by_cases q2 : yv s 0 514 n = 0
    · refine ⟨0, s, s, ?_, ?_, h⟩
      · unfold f103
        rw [e50, cP_s, if_neg ne10, ld_t (by omega) (by omega), Int.toNat_natCast, w2, if_neg (fun w => w q2)]
      · unfold f230
        rw [m210 hC hM.1 ia, cP_s, if_pos (show 0 ≤ (n : Int) ∧ (n : Int) < cw s 0 388 0 from q1), if_neg ne10, m201 hY hM.2.1 hn, cP_s, if_neg (fun w => w q2)]
    · have q3 : yv s 0 514 n = 1 := by have := hY.2.2.1 n hn; omega
      obtain ⟨sa, a1, a2, a3⟩ := h.kept
      have hya : yv sa 0 = yv s 0 := a3.yv fun f g1 g2 => pRg_f.mpr (by omega)
      have f2 : Fr pKa sa (st2 sa 514 0 n 0) := Fr.rf.st0 (by omega) (by omega)
      have b2 : yv (st2 sa 514 0 n 0) 0 = setF (yv s 0) 514 n 0 := by rw [yv_st, hya]
      have hcl : Fr pCl s (st2 sa 514 0 n 0) := (pRg_cl a3).tr (pKa_cl f2)
      generalize hz : st2 sa 514 0 n 0 = s1 at f2 b2 hcl
      have hM1 := hM.cl hcl
      obtain ⟨sd, g1, g2, g3⟩ := h.keptM hcl
      have hMd := hM1.rm g3
      have k2 := cut_MS (n := n) (v := 0) hMd (cut_off hY hn q3)
      refine ⟨1, s1, st2 sd 1537 0 6 (jxor (cutV (yv s 0)) (jshl 1 n)), ?_, ?_, h.acted4 a2 a3 f2 g2 g3 (Fr.rf.st rfl) b2 (set_YB hY (by omega)) (by rw [setF_o yr512 (by omega)]; exact h9) k2 (fun k _ _ => st2_ne (by omega))⟩
      · unfold f103
        rw [e50, cP_s, if_neg ne10, ld_t (by omega) (by omega), Int.toNat_natCast, w2, if_pos q2, a1, cP_s, sto_t (by omega) (by omega), Int.toNat_natCast, hz]
      · unfold f230
        rw [m210 hC hM1.1 ia, cP_s, if_pos (show 0 ≤ (n : Int) ∧ (n : Int) < cw s 0 388 0 from q1), if_neg ne10, m201 hY hM1.2.1 hn, cP_s, if_pos q2, g1, cP_s, ld_t (by omega) (by omega), show sd 1537 0 (Int.toNat 6) = cutV (yv s 0) from hMd.2.1.2.1, sto_t (by omega) (by omega)]
        rfl
  · refine ⟨0, s, s, ?_, ?_, h⟩
    · unfold f103
      rw [m50f (by have := ch_388 (s := s); omega), cP_s, if_pos rfl]
    · unfold f230
      rw [m210 hC hM.1 ia, cP_s, if_neg q1, if_pos rfl]
/-- the pieces of line l taken down, of the first n, and how many -/
def cuS (C : V2) (l : Int) (Y : V2) : Nat → Nat × V2
  | 0 => (0, Y)
  | n + 1 => if (cuS C l Y n).2 515 n = l then ((cuS C l Y n).1 + 1, takeS C (cuS C l Y n).2 n) else cuS C l Y n
theorem cuS_s {C Y : V2} {l : Int} {n : Nat} : cuS C l Y (n + 1) = if (cuS C l Y n).2 515 n = l then ((cuS C l Y n).1 + 1, takeS C (cuS C l Y n).2 n) else cuS C l Y n := rfl
theorem cuS_bd {C Y : V2} {l : Int} : ∀ {n : Nat}, (cuS C l Y n).1 ≤ n
  | 0 => Nat.le_refl 0
  | n + 1 => by
    have ih := cuS_bd (C := C) (Y := Y) (l := l) (n := n)
    rw [cuS_s]
    split
    · dsimp only; omega
    · omega
theorem cuS_YB {C Y : V2} {l : Int} (hY : YB C Y) : ∀ {n : Nat}, YB C (cuS C l Y n).2
  | 0 => hY
  | n + 1 => by
    rw [cuS_s]
    split
    · exact takeS_YB (cuS_YB hY)
    · exact cuS_YB hY
theorem takeS_o {C Y : V2} {n f k : Nat} (h : yr f k) (h2 : f ≠ 517) (h3 : ¬ (f = 515 ∧ k = n)) : takeS C Y n f k = Y f k := by
  unfold takeS
  split
  · unfold setOn
    rw [nY_t h, if_neg (by omega), if_neg (by omega)]
  · rfl
theorem cuS_o {C Y : V2} {l : Int} {f k : Nat} (h : yr f k) (h2 : f ≠ 517) : ∀ {n : Nat}, (f = 515 → n ≤ k) → (cuS C l Y n).2 f k = Y f k
  | 0, _ => rfl
  | n + 1, h3 => by
    rw [cuS_s]
    split
    · show takeS C (cuS C l Y n).2 n f k = _
      rw [takeS_o (n := n) h h2 (by omega), cuS_o h h2 (by omega)]
    · exact cuS_o h h2 (by omega)
theorem cuS_cut {C Y : V2} {l : Int} (hY : YB C Y) (hl : 0 ≤ l) {m : Nat} (hm : C 389 0 ≤ m) : ∀ {n : Nat}, m ≤ n → n ≤ 10 → cuS C l Y n = cuS C l Y m
  | 0, h, _ => by
    have : m = 0 := by omega
    subst this; rfl
  | n + 1, h, h2 => by
    by_cases e : m = n + 1
    · subst e; rfl
    · rw [cuS_s, if_neg ?_]
      · exact cuS_cut hY hl hm (by omega) (by omega)
      · have := (cuS_YB (l := l) hY (n := n)).1 n (by omega)
        omega
theorem m102a {β : Type} {s : S2} {C Y : V2} {l : Int} {k : Int × S2 → Option β} (hC : CB C) (hc : cw s 0 = C) (hy : yv s 0 = Y) : ∃ z, cP (itr (fun (x4, x5, s6) => f102_a 0 0 l x4 x5 s6) am_fu (0, 0, s)) k = k (((cuS C l Y 10).1 : Int), z) ∧ yv z 0 = (cuS C l Y 10).2 ∧ Fr (pY 0) s z := by
  refine inv_cP (a := ((0 : Int), (0 : Int), s)) (P := fun e => ∃ z, e = k (((cuS C l Y 10).1 : Int), z) ∧ yv z 0 = (cuS C l Y 10).2 ∧ Fr (pY 0) s z) (fun (i : Nat) (z : Int × Int × S2) => z.1 = ((cuS C l Y i).1 : Int) ∧ z.2.1 = i ∧ yv z.2.2 0 = (cuS C l Y i).2 ∧ Fr (pY 0) s z.2.2) (fun (z : Int × S2) => z.1 = ((cuS C l Y 10).1 : Int) ∧ yv z.2 0 = (cuS C l Y 10).2 ∧ Fr (pY 0) s z.2) 10 (by decide) ⟨rfl, rfl, hy, Fr.rf⟩ ?_ ?_
  · rintro i ⟨x, w, z⟩ hi ⟨g1, g2, g3, g4⟩
    dsimp only at g1 g2 g3 g4 ⊢
    subst g1 g2
    by_cases e : i = 10
    · subst e
      refine Or.inr ⟨(((cuS C l Y 10).1 : Int), z), ?_, rfl, g3, g4⟩
      show f102_a 0 0 l _ _ z = _
      unfold f102_a
      rw [if_pos (by omega)]
    · refine Or.inl ⟨by omega, ?_⟩
      have hcz : cw z 0 = C := by rw [← hc]; exact g4.cw fun f q1 q2 => pY_f.mpr (by omega)
      have e5 : z 515 0 i = (cuS C l Y i).2 515 i := by rw [← g3, yv515 (by omega)]
      have hbd := cuS_bd (C := C) (l := l) (Y := Y) (n := i)
      by_cases q : (cuS C l Y i).2 515 i = l
      · obtain ⟨z', k1, k2, k3⟩ := m99 (y := 0) (c := 0) (n := (i : Int)) (s := z) (by rw [hcz]; exact hC)
        rw [hcz, g3] at k2
        refine ⟨(((cuS C l Y (i + 1)).1 : Int), ((i + 1 : Nat) : Int), z'), ?_, rfl, rfl, ?_, g4.tr k3⟩
        · show f102_a 0 0 l _ _ z = _
          unfold f102_a
          rw [if_neg (by omega), ld_t (by omega) (by omega), Int.toNat_natCast, e5, if_neg (fun w => w q), k1, cP_s, bnd, bnd, jadd_e (by omega) (by omega), jadd_e (by omega) (by omega), cuS_s, if_pos q]
          rfl
        · rw [cuS_s, if_pos q]
          exact k2
      · refine ⟨(((cuS C l Y (i + 1)).1 : Int), ((i + 1 : Nat) : Int), z), ?_, rfl, rfl, ?_, g4⟩
        · show f102_a 0 0 l _ _ z = _
          unfold f102_a
          rw [if_neg (by omega), ld_t (by omega) (by omega), Int.toNat_natCast, e5, if_pos q, bnd, jadd_e (by omega) (by omega), cuS_s, if_neg q]
          rfl
        · rw [cuS_s, if_neg q]
          exact g3
  · rintro ⟨x, z⟩ ⟨g1, g2, g3⟩
    dsimp only at g1 g2 g3
    subst g1
    exact ⟨z, rfl, g2, g3⟩
theorem m229a {β : Type} {s : S2} {C Y : V2} {code : List Int} {d : Int} {l : Nat} {k : Int × S2 → Option β} (hC : CB C) (hY : YB C Y) (hM : MS C Y code d s) : ∃ z, cP (itr (fun (x5, x6, s7) => f229_a l x5 x6 s7) am_fu (0, 0, s)) k = k (((cuS C l Y 10).1 : Int), z) ∧ MS C (cuS C l Y 10).2 code d z ∧ Fr pH s z := by
  have hcc := hC.1
  obtain ⟨N, hN⟩ := Int.eq_ofNat_of_zero_le (show 0 ≤ C 389 0 by omega)
  have hcut : cuS C l Y 10 = cuS C l Y N := cuS_cut hY (by omega) (by omega) (by omega) (by omega)
  rw [hcut]
  refine inv_cP (a := ((0 : Int), (0 : Int), s)) (P := fun e => ∃ z, e = k (((cuS C l Y N).1 : Int), z) ∧ MS C (cuS C l Y N).2 code d z ∧ Fr pH s z) (fun (i : Nat) (z : Int × Int × S2) => z.1 = ((cuS C l Y i).1 : Int) ∧ z.2.1 = i ∧ MS C (cuS C l Y i).2 code d z.2.2 ∧ Fr pH s z.2.2) (fun (z : Int × S2) => z.1 = ((cuS C l Y N).1 : Int) ∧ MS C (cuS C l Y N).2 code d z.2 ∧ Fr pH s z.2) N (by omega) ⟨rfl, rfl, hM, Fr.rf⟩ ?_ ?_
  · rintro i ⟨x, w, z⟩ hi ⟨g1, g2, g3, g4⟩
    dsimp only at g1 g2 g3 g4 ⊢
    subst g1 g2
    have h4 : z 1537 0 (Int.toNat 4) = C 389 0 := g3.1.1.2.2.2.2.1
    by_cases e : i = N
    · subst e
      refine Or.inr ⟨(((cuS C l Y i).1 : Int), z), ?_, rfl, g3, g4⟩
      show f229_a l _ _ z = _
      unfold f229_a
      rw [ld_t (by omega) (by omega), h4, if_pos (by omega)]
    · refine Or.inl ⟨by omega, ?_⟩
      have hbd := cuS_bd (C := C) (l := l) (Y := Y) (n := i)
      have e5 := (g3.2.1.2.2.2.1 i (by omega) (by omega)).2
      by_cases q : (cuS C l Y i).2 515 i = l
      · obtain ⟨z', k1, k2, k3⟩ := m227 (n := i) hC g3 (by omega) (by omega) (by omega)
        refine ⟨(((cuS C l Y (i + 1)).1 : Int), ((i + 1 : Nat) : Int), z'), ?_, rfl, rfl, ?_, g4.tr k3⟩
        · show f229_a l _ _ z = _
          unfold f229_a
          rw [ld_t (by omega) (by omega), h4, if_neg (by omega), ld_t (by omega) (by omega), Int.toNat_natCast, e5, if_neg (fun w => w q), k1, cP_s, bnd, bnd, jadd_e (by omega) (by omega), jadd_e (by omega) (by omega), cuS_s, if_pos q]
          rfl
        · rw [cuS_s, if_pos q]
          exact k2
      · refine ⟨(((cuS C l Y (i + 1)).1 : Int), ((i + 1 : Nat) : Int), z), ?_, rfl, rfl, ?_, g4⟩
        · show f229_a l _ _ z = _
          unfold f229_a
          rw [ld_t (by omega) (by omega), h4, if_neg (by omega), ld_t (by omega) (by omega), Int.toNat_natCast, e5, if_pos q, bnd, jadd_e (by omega) (by omega), cuS_s, if_neg q]
          rfl
        · rw [cuS_s, if_neg q]
          exact g3
  · rintro ⟨x, z⟩ ⟨g1, g2, g3⟩
    dsimp only at g1 g2 g3
    subst g1
    exact ⟨z, rfl, g2, g3⟩
theorem call_cut {s : S2} {a : Int} (h : Inv s) (ia : i32 a) : ∃ r s1 s2, f101 a s = some (r, s1) ∧ f229 a s1 = some (r, s2) ∧ Inv s2 := by
  obtain ⟨R, K, hB, hW, hR⟩ := h.rel
  obtain ⟨-, -, hC, hY, h9, hL, hw, hM⟩ := hR
  have hcc := hC.1
  by_cases q1 : 0 ≤ a ∧ a < cw s 0 388 0
  · obtain ⟨n, rfl⟩ := Int.eq_ofNat_of_zero_le q1.1
    have hn : n < 6 := by omega
    have e50 : f50 0 n s = some 1 := m50t (by have := ch_388 (s := s); omega)
    have w2 : s 514 0 n = yv s 0 514 n := (yv514 hn).symm
    by_cases q2 : yv s 0 514 n = 0
    · obtain ⟨sa, a1, a2, a3⟩ := h.kept
      have hya : yv sa 0 = yv s 0 := a3.yv fun f g1 g2 => pRg_f.mpr (by omega)
      have hca : cw sa 0 = cw s 0 := a3.cw fun f g1 g2 => pRg_f.mpr (by omega)
      have HA : ∃ z, f102 0 0 n sa = some (((cuS (cw s 0) n (yv s 0) 10).1 : Int), st2 (st2 z 514 0 n 1) 513 0 n (-1)) ∧ yv z 0 = (cuS (cw s 0) n (yv s 0) 10).2 ∧ Fr (pY 0) sa z := by
        obtain ⟨z, k1, k2, k3⟩ := m102a (l := (n : Int)) (k := fun (z12, s13) => cP (f50 0 n s13) fun r14 => if r14 = 0 then (some (z12, s13)) else sto s13 514 0 6 n 1 fun s15 => sto s15 513 0 6 n (-1) fun s16 => some (z12, s16)) hC hca hya
        refine ⟨z, ?_, k2, k3⟩
        have h88 : z 388 0 0 = cw s 0 388 0 := by
          rw [k3 _ _ (pY_f.mpr (by omega)), a3 _ _ (pRg_f.mpr (by omega)), ch_388 (s := s)]
        unfold f102
        refine k1.trans ?_
        show cP (f50 0 n z) _ = _
        rw [m50t (by omega), cP_s, if_neg ne10, sto_t (by omega) (by omega), Int.toNat_natCast, sto_t (by omega) (by omega), Int.toNat_natCast]
      obtain ⟨z, b1, b2, b3⟩ := HA
      have f2 : Fr pKa sa (st2 (st2 z 514 0 n 1) 513 0 n (-1)) := ((pY_ka (Or.inl rfl) b3).st0 (by omega) (by omega)).st0 (by omega) (by omega)
      have b4 : yv (st2 (st2 z 514 0 n 1) 513 0 n (-1)) 0 = setF (setF (cuS (cw s 0) n (yv s 0) 10).2 514 n 1) 513 n (-1) := by rw [yv_st, yv_st, b2]
      have hcl : Fr pCl s (st2 (st2 z 514 0 n 1) 513 0 n (-1)) := (pRg_cl a3).tr (pKa_cl f2)
      generalize hz : st2 (st2 z 514 0 n 1) 513 0 n (-1) = s1 at f2 b4 hcl b1
      have hM1 := hM.cl hcl
      obtain ⟨sd, g1, g2, g3⟩ := h.keptM hcl
      have hMd := hM1.rm g3
      have hYc : YB (cw s 0) (cuS (cw s 0) n (yv s 0) 10).2 := cuS_YB hY
      have h514 : (cuS (cw s 0) n (yv s 0) 10).2 514 n = 0 := by rw [cuS_o (yr514 hn) (by omega) (by omega)]; exact q2
      have h512 : (cuS (cw s 0) n (yv s 0) 10).2 512 0 = yv s 0 512 0 := cuS_o yr512 (by omega) (by omega)
      have HM : ∃ s2, f229 n s1 = some (((cuS (cw s 0) n (yv s 0) 10).1 : Int), s2) ∧ MS (cw s 0) (setF (setF (cuS (cw s 0) n (yv s 0) 10).2 514 n 1) 513 n (-1)) (lawK K (s 1033 0 0)) 0 s2 ∧ Fr pKb sd s2 ∧ ∀ k, 8 ≤ k → k ≤ 10 → s2 1537 0 k = sd 1537 0 k := by
        obtain ⟨y, k1, k2, k3⟩ := m229a (l := n) (k := fun (z14, s15) => sto s15 1544 0 6 n (-1) fun s16 => ld s16 1537 0 11 6 fun v17 => sto s16 1537 0 11 6 (jor v17 (jshl 1 n)) fun s18 => some (z14, s18)) hC hY hMd
        have m1 := own_MS (n := n) (v := -1) k2
        have hYo : YB (cw s 0) (setF (cuS (cw s 0) n (yv s 0) 10).2 513 n (-1)) := set_YB hYc (by omega)
        have h514' : setF (cuS (cw s 0) n (yv s 0) 10).2 513 n (-1) 514 n = 0 := by rw [setF_o (yr514 hn) (by omega)]; exact h514
        have m2 := cut_MS (n := n) (v := 1) m1 (cut_on hYo hn h514')
        have ec : setF (setF (cuS (cw s 0) n (yv s 0) 10).2 513 n (-1)) 514 n 1 = setF (setF (cuS (cw s 0) n (yv s 0) 10).2 514 n 1) 513 n (-1) := by
          refine nY_ext fun f k hr => ?_
          rw [setF_e hr, setF_e hr]
          by_cases x1 : f = 514 ∧ k = n
          · rw [if_pos x1, if_neg (by omega), if_pos x1]
          · rw [if_neg x1, if_neg x1]
        rw [ec] at m2
        refine ⟨_, ?_, m2, ?_, fun k x1 x2 => ?_⟩
        · unfold f229
          rw [m210 hC hM1.1 ia, cP_s, if_pos (show 0 ≤ (n : Int) ∧ (n : Int) < cw s 0 388 0 from q1), if_neg ne10, m201 hY hM1.2.1 hn, cP_s, if_pos q2, g1, cP_s]
          refine k1.trans ?_
          show sto y 1544 0 6 n (-1) _ = _
          rw [sto_t (by omega) (by omega), Int.toNat_natCast, ld_t (by omega) (by omega), show st2 y 1544 0 n (-1) 1537 0 (Int.toNat 6) = cutV (setF (cuS (cw s 0) n (yv s 0) 10).2 513 n (-1)) from m1.2.1.2.1, sto_t (by omega) (by omega)]
          rfl
        · exact (((k3.mo fun f i w => pH_f.mpr (by have := pKb_f.mp w; omega)) : Fr pKb sd y).st rfl).st rfl
        · rw [st2_ne (by omega), st2_ne (by omega), k3 _ _ (pH_f.mpr (by omega))]
      obtain ⟨s2, k1, k2, k3, k4⟩ := HM
      refine ⟨_, s1, s2, ?_, k1, h.acted4 a2 a3 f2 g2 g3 k3 b4 (set_YB (set_YB hYc (by omega)) (by omega)) (by rw [setF_o yr512 (by omega), setF_o yr512 (by omega), h512]; exact h9) k2 k4⟩
      unfold f101
      rw [e50, cP_s, if_neg ne10, ld_t (by omega) (by omega), Int.toNat_natCast, w2, if_pos q2, a1, cP_s, b1, cR_s]
    · refine ⟨-1, s, s, ?_, ?_, h⟩
      · unfold f101
        rw [e50, cP_s, if_neg ne10, ld_t (by omega) (by omega), Int.toNat_natCast, w2, if_neg q2]
      · unfold f229
        rw [m210 hC hM.1 ia, cP_s, if_pos (show 0 ≤ (n : Int) ∧ (n : Int) < cw s 0 388 0 from q1), if_neg ne10, m201 hY hM.2.1 hn, cP_s, if_neg q2]
  · refine ⟨-1, s, s, ?_, ?_, h⟩
    · unfold f101
      rw [m50f (by have := ch_388 (s := s); omega), cP_s, if_pos rfl]
    · unfold f229
      rw [m210 hC hM.1 ia, cP_s, if_neg q1, if_pos rfl]
