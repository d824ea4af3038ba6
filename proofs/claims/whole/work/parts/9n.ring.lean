/-! THE RING of pasts, in the class -/
theorem m272k : ∀ v : Fin 64, f272 (v.val : Int) 20 = some ((v.val % 20 : Nat) : Int) := by decide +kernel
theorem m272j : ∀ v : Fin 64, f272 ((v.val : Int) - 1) 20 = some (((v.val + 19) % 20 : Nat) : Int) := by decide +kernel
theorem m272 {v : Nat} (h : v < 64) : f272 (v : Int) 20 = some ((v % 20 : Nat) : Int) := m272k ⟨v, h⟩
theorem m272p {v : Nat} (h : v < 64) : f272 ((v : Int) - 1) 20 = some (((v + 19) % 20 : Nat) : Int) := m272j ⟨v, h⟩
def pRg (f i : Nat) : Bool := (Nat.ble 512 f && Nat.ble f 518 && Nat.ble 2 i && Nat.ble i 21) || ((Nat.beq f 1027 || Nat.beq f 1028) && Nat.beq i 0)
theorem pRg_f {f i : Nat} : pRg f i = false ↔ ¬ ((512 ≤ f ∧ f ≤ 518 ∧ 2 ≤ i ∧ i ≤ 21) ∨ ((f = 1027 ∨ f = 1028) ∧ i = 0)) := by
  rw [← Bool.not_eq_true]
  unfold pRg
  simp only [Bool.or_eq_true, Bool.and_eq_true, Nat.beq_eq, Nat.ble_eq]
  omega
def pRz (f i : Nat) : Bool := (Nat.ble 512 f && Nat.ble f 518 && Nat.beq i 0) || ((Nat.beq f 1027 || Nat.beq f 1028) && Nat.beq i 0)
theorem pRz_f {f i : Nat} : pRz f i = false ↔ ¬ ((512 ≤ f ∧ f ≤ 518 ∧ i = 0) ∨ ((f = 1027 ∨ f = 1028) ∧ i = 0)) := by
  rw [← Bool.not_eq_true]
  unfold pRz
  simp only [Bool.or_eq_true, Bool.and_eq_true, Nat.beq_eq, Nat.ble_eq]
  omega
theorem el_32 {j : Nat} : am_el 32 0 2 j = 2 + j := rfl
/-- a yard over another, both there -/
theorem m286 {a b : Nat} {s z : S2} (h : f58 b a s = some z) : f286 a b s = some z := by
  unfold f286
  rw [h, cP_s]
theorem m93 {s : S2} {p m : Nat} (hp : s 1027 0 0 = p) (hm : s 1028 0 0 = m) (p20 : p ≤ 20) (m20 : m ≤ 20) : ∃ s', f93 0 s = some s' ∧ s' 1027 0 0 = ((p % 20 + 1 : Nat) : Int) ∧ s' 1028 0 0 = ((min 20 (m + 1) : Nat) : Int) ∧ (∀ q, q < 20 → yv s' (2 + q) = if q = p % 20 then yv s 0 else yv s (2 + q)) ∧ Fr pRg s s' := by
  obtain ⟨z, a1, a2, a3⟩ := m58 (a := 2 + p % 20) (b := 0) (s := s)
  have f1 : Fr pRg s z := a3.mo fun f i w => pY_f.mpr (by have := pRg_f.mp w; omega)
  have hz : z 1028 0 0 = m := by rw [a3 _ _ (pY_f.mpr (by omega))]; exact hm
  refine ⟨st2 (st2 z 1027 0 0 ((p % 20 + 1 : Nat) : Int)) 1028 0 0 ((min 20 (m + 1) : Nat) : Int), ?_, by rw [st2_ne (by omega), st2_eq], by rw [st2_eq], fun q hq => ?_, (f1.st rfl).st rfl⟩
  · unfold f93
    have ej : jmin 20 (jadd (m : Int) 1) = ((min 20 (m + 1) : Nat) : Int) := by
      rw [jadd_e (by omega) (by omega), jmin_e]
      by_cases q : (m : Int) + 1 < 20
      · rw [if_pos q]; omega
      · rw [if_neg q]; omega
    have ea : jadd ((p % 20 : Nat) : Int) 1 = ((p % 20 + 1 : Nat) : Int) := jadd_e (by omega) (by omega)
    rw [bnd, hp, m272 (by omega), cP_s, ldr_t (by omega) (by omega), Int.toNat_natCast, el_32, show 32 * 0 + 0 = 0 from rfl, m286 a1, cP_s, ea]
    simp only [bnd]
    rw [st2_ne (f' := 1028) (by omega), hz, ej]
  · have e1 : yv (st2 (st2 z 1027 0 0 ((p % 20 + 1 : Nat) : Int)) 1028 0 0 ((min 20 (m + 1) : Nat) : Int)) (2 + q) = yv z (2 + q) := nY_ext fun f k hr => by
      show st2 (st2 z 1027 0 0 ((p % 20 + 1 : Nat) : Int)) 1028 0 0 ((min 20 (m + 1) : Nat) : Int) f (2 + q) k = z f (2 + q) k
      rw [st2_ne (by omega), st2_ne (by omega)]
    rw [e1]
    by_cases e : q = p % 20
    · rw [if_pos e, e, a2]
    · rw [if_neg e]
      exact a3.yv fun f g1 g2 => pY_f.mpr (by omega)
theorem m105 {s : S2} {p m : Nat} (hp : s 1027 0 0 = p) (hm : s 1028 0 0 = m) (p20 : p ≤ 20) (m20 : m ≤ 20) (m0 : 0 < m) : ∃ s', f105 0 s = some (1, s') ∧ s' 1027 0 0 = (((p + 19) % 20 : Nat) : Int) ∧ s' 1028 0 0 = ((m - 1 : Nat) : Int) ∧ yv s' 0 = yv s (2 + (p + 19) % 20) ∧ Fr pRz s s' := by
  obtain ⟨z, a1, a2, a3⟩ := m58 (a := 0) (b := 2 + (p + 19) % 20) (s := s)
  have f1 : Fr pRz s z := a3.mo fun f i w => pY_f.mpr (by have := pRz_f.mp w; omega)
  have hz : z 1028 0 0 = m := by rw [a3 _ _ (pY_f.mpr (by omega))]; exact hm
  refine ⟨st2 (st2 z 1027 0 0 (((p + 19) % 20 : Nat) : Int)) 1028 0 0 ((m - 1 : Nat) : Int), ?_, by rw [st2_ne (by omega), st2_eq], by rw [st2_eq], ?_, (f1.st rfl).st rfl⟩
  · unfold f105
    have ej : jsub (m : Int) 1 = ((m - 1 : Nat) : Int) := by rw [jsub_e (by omega) (by omega)]; omega
    simp only [bnd]
    rw [hm, if_pos (by omega), hp, jsub_e (by omega) (by omega), m272p (by omega), cP_s, ldr_t (by omega) (by omega), Int.toNat_natCast, el_32, show 32 * 0 + 0 = 0 from rfl, m286 a1, cP_s, st2_ne (f' := 1028) (by omega), hz, ej]
  · have e1 : yv (st2 (st2 z 1027 0 0 (((p + 19) % 20 : Nat) : Int)) 1028 0 0 ((m - 1 : Nat) : Int)) 0 = yv z 0 := nY_ext fun f k hr => by
      show st2 (st2 z 1027 0 0 (((p + 19) % 20 : Nat) : Int)) 1028 0 0 ((m - 1 : Nat) : Int) f 0 k = z f 0 k
      unfold yr at hr
      rw [st2_ne (by omega), st2_ne (by omega)]
    rw [e1, a2]
/-! the rows of the model's pasts -/
def cellF (i : Nat) : Nat := if i < 2 then 1537 else if i < 6 then 1538 else if i < 10 then 1539 else if i < 16 then 1544 else if i < 26 then 1547 else 1548
def cellK (i : Nat) : Nat := if i < 2 then i + 6 else if i < 6 then i - 2 else if i < 10 then i - 6 else if i < 16 then i - 10 else if i < 26 then i - 16 else i - 26
def rowA (s : S2) (i : Nat) : Int := s (cellF i) 0 (cellK i)
theorem rA_1 {s : S2} {k : Nat} (h : k < 2) : rowA s k = s 1537 0 (k + 6) := by unfold rowA cellF cellK; rw [if_pos h, if_pos h]
theorem rA_2 {s : S2} {k : Nat} (h : k < 4) : rowA s (2 + k) = s 1538 0 k := by unfold rowA cellF cellK; rw [if_neg (by omega), if_pos (by omega), if_neg (by omega), if_pos (by omega)]; congr 1; omega
theorem rA_3 {s : S2} {k : Nat} (h : k < 4) : rowA s (6 + k) = s 1539 0 k := by unfold rowA cellF cellK; rw [if_neg (by omega), if_neg (by omega), if_pos (by omega), if_neg (by omega), if_neg (by omega), if_pos (by omega)]; congr 1; omega
theorem rA_4 {s : S2} {k : Nat} (h : k < 6) : rowA s (10 + k) = s 1544 0 k := by unfold rowA cellF cellK; iterate 3 rw [if_neg (by omega)]
                                                                                 rw [if_pos (by omega)]; iterate 3 rw [if_neg (by omega)]
                                                                                 rw [if_pos (by omega)]; congr 1; omega
theorem rA_5 {s : S2} {k : Nat} (h : k < 10) : rowA s (16 + k) = s 1547 0 k := by unfold rowA cellF cellK; iterate 4 rw [if_neg (by omega)]
                                                                                  rw [if_pos (by omega)]; iterate 4 rw [if_neg (by omega)]
                                                                                  rw [if_pos (by omega)]; congr 1; omega
theorem rA_6 {s : S2} {k : Nat} : rowA s (26 + k) = s 1548 0 k := by unfold rowA cellF cellK; iterate 5 rw [if_neg (by omega)]
                                                                     iterate 5 rw [if_neg (by omega)]
                                                                     congr 1; omega
theorem YR.row {C Z : V2} {t t' : S2} (h : YR C Z t) (e : ∀ i, i < 36 → rowA t' i = rowA t i) : YR C Z t' := by
  obtain ⟨a1, a2, a3, a4, a5⟩ := h
  refine ⟨?_, ?_, fun l hl g => ?_, fun n hn g => ⟨?_, ?_⟩, fun f hf g => ⟨?_, ?_⟩⟩
  · have := e 1 (by omega)
    rw [rA_1 (by omega), rA_1 (by omega)] at this
    rw [this]; exact a1
  · have := e 0 (by omega)
    rw [rA_1 (by omega), rA_1 (by omega)] at this
    rw [this]; exact a2
  · have := e (10 + l) (by omega)
    rw [rA_4 hl, rA_4 hl] at this
    rw [this]; exact a3 l hl g
  · have := e (16 + n) (by omega)
    rw [rA_5 hn, rA_5 hn] at this
    rw [this]; exact (a4 n hn g).1
  · have := e (26 + n) (by omega)
    rw [rA_6, rA_6] at this
    rw [this]; exact (a4 n hn g).2
  · have := e (2 + f) (by omega)
    rw [rA_2 hf, rA_2 hf] at this
    rw [this]; exact (a5 f hf g).1
  · have := e (6 + f) (by omega)
    rw [rA_3 hf, rA_3 hf] at this
    rw [this]; exact (a5 f hf g).2
theorem rA_p {J : V2} {j i : Nat} (h : i < 36) : rowA (pJ' J j) i = J 1591 (36 * j + i) := by
  unfold rowA pJ' cellF cellK offP
  by_cases h1 : i < 2
  · rw [if_pos h1, if_pos h1, if_pos rfl]
    congr 1
  · rw [if_neg h1, if_neg h1]
    by_cases h2 : i < 6
    · rw [if_pos h2, if_pos h2, if_neg (by omega), if_pos rfl]
      congr 1
      omega
    · rw [if_neg h2, if_neg h2]
      by_cases h3 : i < 10
      · rw [if_pos h3, if_pos h3, if_neg (by omega), if_neg (by omega), if_pos rfl]
        congr 1
        omega
      · rw [if_neg h3, if_neg h3]
        by_cases h4 : i < 16
        · rw [if_pos h4, if_pos h4, if_neg (by omega), if_neg (by omega), if_neg (by omega), if_pos rfl]
          congr 1
          omega
        · rw [if_neg h4, if_neg h4]
          by_cases h5 : i < 26
          · rw [if_pos h5, if_pos h5, if_neg (by omega), if_neg (by omega), if_neg (by omega), if_neg (by omega), if_pos rfl]
            congr 1
            omega
          · rw [if_neg h5, if_neg h5, if_neg (by omega), if_neg (by omega), if_neg (by omega), if_neg (by omega), if_neg (by omega)]
            congr 1
            omega
