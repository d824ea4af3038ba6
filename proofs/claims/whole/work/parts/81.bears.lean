/-! BEARS, STORM -/
theorem sumI_mul {f : Nat → Int} {c : Int} : ∀ {n : Nat}, sumI n (fun i => f i * c) = sumI n f * c
  | 0 => by simp [sumI]
  | n + 1 => by rw [sumI_s, sumI_s, sumI_mul, Int.add_mul]
def ldT (C Y : V2) (l f : Int) (i : Nat) : Int := if Y 515 i = l then Y 516 i + C 396 i * f else 0
theorem ldT_d {C Y : V2} {l f : Int} {i : Nat} : ldT C Y l f i = if Y 515 i = l then Y 516 i + C 396 i * f else 0 := rfl
theorem load_e {C Y : V2} {l f : Int} : loadS C Y l f = sumI 10 (ldT C Y l f) := by
  unfold loadS cells
  rw [← sumI_mul, ← sumI_add]
  refine sumI_congr fun i hi => ?_
  rw [ldT_d]
  by_cases h : Y 515 i = l <;> simp [h, Int.add_comm]
theorem m255 {C Y : V2} {t : S2} {l f : Int} (hC : CB C) (hY : YB C Y) (hR : CR C t) (hV : YR C Y t) (hl : 0 ≤ l) (hf : 0 ≤ f ∧ f ≤ 99) : f255 l f t = some (loadS C Y l f) := by
  have hcc := hC.1
  have hm : ∀ i, i < 10 → -99 ≤ C 396 i * f ∧ C 396 i * f ≤ 396 := fun i hi => by
    have hb := hC.len i hi
    constructor
    · have h1 : -1 * f ≤ C 396 i * f := Int.mul_le_mul_of_nonneg_right hb.1 hf.1
      omega
    · have h1 : C 396 i * f ≤ 4 * f := Int.mul_le_mul_of_nonneg_right hb.2 hf.1
      omega
  have hB : ∀ i, i ≤ 10 → -990 ≤ sumI i (ldT C Y l f) ∧ sumI i (ldT C Y l f) ≤ 4160 := fun i hi => by
    have := sumI_bd (f := ldT C Y l f) (a := -99) (b := 416) (n := i) (fun j hj => by
      have := hm j (by omega)
      have := hY.2.1 j (by omega)
      rw [ldT_d]
      split <;> omega)
    omega
  have hcut : loadS C Y l f = sumI (C 389 0).toNat (ldT C Y l f) := by
    rw [load_e]
    exact sumI_cut (by omega) (fun i h1 h2 => by
      have := hY.1 i h2
      rw [ldT_d, if_neg (by omega)])
  rw [hcut]
  unfold f255
  refine seq_cP (fun i => (sumI i (ldT C Y l f), (i : Int))) (C 389 0).toNat _ rfl (by omega) ?_ ?_ rfl
  · intro i hi
    have w1 := hV.2.2.2.1 i (by omega) (by omega)
    have w2 := hR.2.2.1 i (by omega) (by omega)
    have h1 := hB i (by omega)
    have h3 := hm i (by omega)
    have h4 := hY.2.1 i (by omega)
    show f255_a l f _ _ t = _
    unfold f255_a
    rw [ld_t (by omega) (by omega), show t 1537 0 (Int.toNat 4) = C 389 0 from hR.1.2.2.2.2.1, if_neg (by omega), ld_t (by omega) (by omega), Int.toNat_natCast, w1.2, sumI_s, ldT_d]
    by_cases h : Y 515 i = l
    · simp only [jn, bnd, h, not_true_eq_false, if_false, if_true]
      rw [ld_t (by omega) (by omega), Int.toNat_natCast, w1.1, ld_t (by omega) (by omega), Int.toNat_natCast, w2.2.1, jmul_e (by omega) (by omega)]
      simp (disch := omega) only [jadd_e]
      rfl
    · simp only [jn, bnd, h, not_false_eq_true, if_true, if_false]
      simp (disch := omega) only [jadd_e]
      rfl
  · show f255_a l f _ _ t = _
    unfold f255_a
    rw [ld_t (by omega) (by omega), show t 1537 0 (Int.toNat 4) = C 389 0 from hR.1.2.2.2.2.1, if_pos (by omega)]
theorem cells_nn {C Y : V2} {l : Int} (hC : CB C) (hY : YB C Y) (hl : 0 ≤ l) : 0 ≤ cells C Y l := by
  have := sumI_bd (f := fun n => if Y 515 n = l then C 396 n else 0) (a := 0) (b := 4) (n := 10) (fun j hj => by
    have h1 := hY.1 j hj
    have h2 := hC.len j hj
    by_cases e : Y 515 j = l
    · have h3 := hC.2.2.1 j hj (by omega)
      simp only [e, if_true]
      omega
    · simp only [e, if_false]
      omega)
  unfold cells
  omega
theorem load_mono {C Y : V2} {l f g : Int} (hC : CB C) (hY : YB C Y) (hl : 0 ≤ l) (h : f ≤ g) : loadS C Y l f ≤ loadS C Y l g := by
  have h1 := cells_nn hC hY hl
  have h2 : cells C Y l * f ≤ cells C Y l * g := Int.mul_le_mul_of_nonneg_left h h1
  unfold loadS
  omega
def bearN (B : Nat → Bool) : Nat → Int
  | 0 => -1
  | n + 1 => if B n = true then n else bearN B n
theorem bearN_s {B : Nat → Bool} {n : Nat} : bearN B (n + 1) = if B n = true then (n : Int) else bearN B n := rfl
theorem bearN_up {B : Nat → Bool} {i : Nat} : ∀ {n : Nat}, i ≤ n → (∀ f, i ≤ f → f < n → B f = false) → bearN B n = bearN B i
  | 0, h, _ => by
    have : i = 0 := by omega
    subst this; rfl
  | n + 1, h, h0 => by
    by_cases e : i = n + 1
    · subst e; rfl
    · rw [bearN_s, h0 n (by omega) (by omega), if_neg (by decide)]
      exact bearN_up (n := n) (by omega) (fun f h1 h2 => h0 f h1 (by omega))
theorem bearN_all {B : Nat → Bool} {i : Nat} (h : ∀ f, f < i → B f = true) : bearN B i = (i : Int) - 1 := by
  cases i with
  | zero => rfl
  | succ i =>
    rw [bearN_s, h i (by omega), if_pos rfl]
    omega
def bearB (C Y : V2) (l : Nat) (f : Nat) : Bool := decide (loadS C Y l f ≤ C 394 l)
theorem Rel.bears {s : S2} {C Y : V2} {code : List Int} {l : Nat} {f : Int} (h : Rel s C Y code) (hl : l < 6) (hl2 : (l : Int) < C 388 0) (hf : 0 ≤ f ∧ f ≤ 99) : f134 0 0 l f s = some (if loadS C Y l f ≤ C 394 l then 1 else 0) := by
  rw [m134 (by rw [h.1]; exact h.2.2.1) (by rw [h.2.1]; exact h.2.2.2.1.2.1) hf (by rw [h.1]; omega), h.1, h.2.1, Int.toNat_natCast]
theorem call_bears {s : S2} {C Y : V2} {code : List Int} {a : Int} (h : Rel s C Y code) (ia : i32 a) : ∃ r, f133 a s = some r ∧ f254 a s = some r := by
  have hM := h.2.2.2.2.2.2.2
  have hC := h.2.2.1
  have hY := h.2.2.2.1
  have hcc := hC.1
  obtain ⟨e1, e2, e3⟩ := cw0f h.1
  by_cases ha : 0 ≤ a ∧ a < C 388 0
  · obtain ⟨l, rfl⟩ := Int.eq_ofNat_of_zero_le ha.1
    have hl : l < 6 := by omega
    have hl2 := ha.2
    refine ⟨bearN (bearB C Y l) 100, ?_, ?_⟩
    · unfold f133
      rw [m50t (by omega), cP_s, if_pos ne10]
      refine inv_cP (a := ((-1 : Int), (0 : Int))) (P := fun e => e = some (bearN (bearB C Y l) 100)) (fun (i : Nat) (z : Int × Int) => z.1 = (i : Int) - 1 ∧ z.2 = i ∧ ∀ f, f < i → bearB C Y l f = true) (fun (z : Int) => z = bearN (bearB C Y l) 100) 100 (by decide) ⟨rfl, rfl, fun f hf => by omega⟩ ?_ ?_
      · rintro i ⟨x, y⟩ hi ⟨g1, g2, g3⟩
        dsimp only at g1 g2 g3 ⊢
        subst g1 g2
        by_cases e : i = 100
        · subst e
          exact Or.inr ⟨99, rfl, (bearN_all g3).symm⟩
        · have hst : f133_a l ((i : Int) - 1) i s = if (if loadS C Y l i ≤ C 394 l then (1 : Int) else 0) = 0 then some (.inr ((i : Int) - 1)) else some (.inl ((i : Int), ((i + 1 : Nat) : Int))) := by
            unfold f133_a
            rw [if_neg (by omega), h.bears hl hl2 (by omega), cP_s, bnd, jadd_e (by omega) (by omega)]
            rfl
          by_cases hb : loadS C Y l i ≤ C 394 l
          · refine Or.inl ⟨by omega, ((i : Int), ((i + 1 : Nat) : Int)), ?_, by dsimp only; omega, rfl, fun f hf => ?_⟩
            · show f133_a l _ _ s = _
              rw [hst, if_pos hb, if_neg (by decide)]
            · by_cases e2 : f = i
              · subst e2
                exact decide_eq_true hb
              · exact g3 f (by omega)
          · refine Or.inr ⟨(i : Int) - 1, ?_, ?_⟩
            · show f133_a l _ _ s = _
              rw [hst, if_neg hb, if_pos rfl]
            · rw [bearN_up (B := bearB C Y l) (n := 100) (i := i) (by omega) (fun f h1 h2 => decide_eq_false (fun q => hb ?_)), bearN_all g3]
              exact Int.le_trans (load_mono hC hY (by omega) (by omega)) q
      · rintro z rfl
        rfl
    · unfold f254
      rw [m210 hC hM.1 ia, if_pos ha, cP_s, if_pos ne10]
      refine seq_cP (fun i => (bearN (bearB C Y l) i, (i : Int))) 100 _ rfl (by decide) ?_ rfl rfl
      intro i hi
      show f254_a l _ _ s = _
      unfold f254_a
      rw [if_neg (by omega), m255 hC hY hM.1 hM.2.1 (by omega) (by omega), cP_s, ld_t (by omega) (by omega), Int.toNat_natCast, (hM.1.2.1 l hl hl2).2.2.2, bearN_s, bnd, bnd, jadd_e (by omega) (by omega)]
      unfold bearB
      by_cases hb : loadS C Y l i ≤ C 394 l
      · rw [if_neg (by omega), if_pos (decide_eq_true hb)]
        rfl
      · rw [if_pos (by omega), if_neg (by rw [decide_eq_false hb]; decide)]
        rfl
  · refine ⟨-2, ?_, ?_⟩
    · unfold f133
      rw [m50f (by omega), cP_s, if_neg (by decide)]
    · unfold f254
      rw [m210 hC hM.1 ia, if_neg ha, cP_s, if_neg (by decide)]
def stormS (C Y : V2) (f : Int) : Nat → Bool := fun l => decide ((l : Int) < C 388 0 ∧ Y 514 l = 0 ∧ ¬ loadS C Y l f ≤ C 394 l)
theorem call_storm {s : S2} {C Y : V2} {code : List Int} {a : Int} (h : Rel s C Y code) (ia : i32 a) : ∃ r, f135 a s = some r ∧ f256 a s = some r := by
  have hM := h.2.2.2.2.2.2.2
  have hC := h.2.2.1
  have hY := h.2.2.2.1
  have hcc := hC.1
  obtain ⟨e1, e2, e3⟩ := cw0f h.1
  have e4 : s 384 0 0 = C 384 0 := by rw [← h.1, cw0 (by omega) (by omega)]
  have hss := hC.2.2.2.2.2.2.2.1
  have ja : ji2l a = a := by unfold i32 at ia; exact ji2l_e (by omega) (by omega)
  unfold f135 f256
  rw [m220 hC hM.1, bnd, e4, cP_s, ja]
  by_cases h0 : C 384 0 = 0
  · exact ⟨-1, by rw [if_pos h0], by rw [if_pos h0]⟩
  · rw [if_neg h0, if_neg h0]
    by_cases ha : 0 ≤ a ∧ a ≤ 99
    · rw [if_neg (by omega), if_pos ha.2, m173t ha, cP_s, if_pos ne10]
      refine ⟨setB 6 (stormS C Y a), ?_, ?_⟩
      · refine seq_cP (fun i => (setB i (stormS C Y a), (i : Int))) 6 _ rfl (by decide) ?_ rfl rfl
        intro i hi
        show f135_a a _ _ s = _
        unfold f135_a
        rw [if_neg (by omega), setB_s, bnd, bnd, bnd, jadd_e (by omega) (by omega)]
        unfold stormS
        by_cases b1 : (i : Int) < C 388 0
        · have q8 : s 514 0 i = Y 514 i := by rw [← h.2.1, yv514 hi]
          rw [m50t (by omega), cP_s, if_neg ne10, ld_t (by omega) (by omega), Int.toNat_natCast, q8]
          by_cases b2 : Y 514 i = 0
          · rw [if_neg (fun q => q b2), h.bears hi b1 ha, cP_s]
            by_cases b3 : loadS C Y i a ≤ C 394 i
            · rw [if_pos b3, if_pos ne10, if_neg (by simp [b3])]
              rfl
            · rw [if_neg b3, if_neg (fun q => q rfl), if_pos (by simp [b1, b2, b3])]
              rfl
          · rw [if_pos b2, if_neg (by simp [b2])]
            rfl
        · rw [m50f (by omega), cP_s, if_pos rfl, if_neg (by simp [b1])]
          rfl
      · have hcut : setB 6 (stormS C Y a) = setB (C 388 0).toNat (stormS C Y a) := setB_cut (by omega) (fun i h1 h2 => decide_eq_false (by omega))
        rw [hcut]
        refine seq_cP (fun i => (setB i (stormS C Y a), (i : Int))) (C 388 0).toNat _ rfl (by omega) ?_ ?_ rfl
        · intro i hi
          have b1 : (i : Int) < C 388 0 := by omega
          show f256_a a _ _ s = _
          unfold f256_a
          rw [ld_t (by omega) (by omega), show s 1537 0 (Int.toNat 3) = C 388 0 from hM.1.1.2.2.2.1, if_neg (by omega), m201 hY hM.2.1 (by omega), cP_s, setB_s]
          simp only [jn, bnd]
          rw [jadd_e (by omega) (by omega), setB_z]
          unfold stormS
          by_cases b2 : Y 514 i = 0
          · rw [if_neg (fun q => q b2), m255 hC hY hM.1 hM.2.1 (by omega) ha, cP_s, ld_t (by omega) (by omega), Int.toNat_natCast, (hM.1.2.1 i (by omega) b1).2.2.2]
            by_cases b3 : loadS C Y i a ≤ C 394 i
            · rw [if_pos b3, if_neg (by simp [b3])]
              rfl
            · rw [if_neg b3, if_pos (by simp [b1, b2, b3])]
              rfl
          · rw [if_pos b2, if_neg (by simp [b2])]
            rfl
        · show f256_a a _ _ s = _
          unfold f256_a
          rw [ld_t (by omega) (by omega), show s 1537 0 (Int.toNat 3) = C 388 0 from hM.1.1.2.2.2.1, if_pos (by omega)]
    · refine ⟨-1, ?_, by rw [m173f ha, cP_s, if_neg (by decide)]⟩
      by_cases a0 : a < 0
      · rw [if_pos a0]
      · rw [if_neg a0, if_neg (by omega)]
