/-! WAY, the model, and both -/
theorem rd_cut {C Y : V2} {k : Int} {d : Nat → Int} {n : Nat} : ∀ {j : Nat}, n ≤ j → (∀ i, n ≤ i → i < j → ¬ onL C Y i) → rdN C Y k d j = rdN C Y k d n
  | 0, h, _ => by
    have : n = 0 := by omega
    subst this; rfl
  | j + 1, h, h0 => by
    by_cases e : n = j + 1
    · subst e; rfl
    · show lnD C Y k j (rdN C Y k d j) = _
      rw [ln_f (h0 j (by omega) (by omega))]
      exact rd_cut (j := j) (by omega) (fun i h1 h2 => h0 i h1 (by omega))
theorem WP.bd {d m : Nat → Int} {v : Nat} (h : WP d m v) : 0 ≤ m v ∧ m v ≤ 100000 ∧ 0 ≤ d v ∧ d v ≤ 1000000 ∧ (m v < 100000 ↔ d v < 1000000) := by
  rcases h with ⟨a, b⟩ | ⟨L, E, a, b, c, d, e, f, g⟩ <;> omega
def pWm (f i : Nat) : Bool := Nat.beq f 1603 && Nat.beq i 0
theorem pWm_f {f i : Nat} : pWm f i = false ↔ ¬ (f = 1603 ∧ i = 0) := by
  unfold pWm
  rw [← Bool.not_eq_true, Bool.and_eq_true, Nat.beq_eq, Nat.beq_eq]
theorem CR.wm {C : V2} {t t' : S2} (h : CR C t) (e : Fr pWm t t') : CR C t' := h.fr e (Or.inl (pWm_f.mpr (by omega))) (fun f g1 g2 => pWm_f.mpr (by omega)) (pWm_f.mpr (by omega)) (pWm_f.mpr (by omega)) (pWm_f.mpr (by omega)) (pWm_f.mpr (by omega)) (pWm_f.mpr (by omega))
theorem YR.wm {C Y : V2} {t t' : S2} (h : YR C Y t) (e : Fr pWm t t') : YR C Y t' := h.fr e (pWm_f.mpr (by omega)) (pWm_f.mpr (by omega)) (pWm_f.mpr (by omega)) (pWm_f.mpr (by omega)) (pWm_f.mpr (by omega)) (pWm_f.mpr (by omega))
theorem c252_on {C Y : V2} {z : S2} {i : Nat} {m : Nat → Int} (hC : CB C) (hY : YB C Y) (hR : CR C z) (hV : YR C Y z) (hi : i < 6) (hon : onL C Y i) (h : rowI z 1603 m) (hm : ∀ v, v < 8 → 0 ≤ m v ∧ m v ≤ 100000) : ∃ z', f252_c i z = some (.inl (((i + 1 : Nat) : Int), z')) ∧ rowI z' 1603 (lnD C Y 100 i m) ∧ Fr pWm z z' := by
  have a1 := hC.2.2.2.1 i hi
  have a2 := hC.2.2.2.2.1 i hi hon.1
  obtain ⟨v1, v2, v3, -⟩ := hR.2.1 i hi hon.1
  obtain ⟨a, ha⟩ := Int.eq_ofNat_of_zero_le (show 0 ≤ C 391 i by omega)
  obtain ⟨b, hb⟩ := Int.eq_ofNat_of_zero_le (show 0 ≤ C 392 i by omega)
  have ha8 : a < 8 := by omega
  have hb8 : b < 8 := by omega
  have hab : a ≠ b := by omega
  have da := hm a ha8
  have db := hm b hb8
  have ej : jadd (i : Int) 1 = ((i + 1 : Nat) : Int) := by rw [jadd_e (by omega) (by omega)]; rfl
  have h3 : z 1537 0 3 = C 388 0 := hR.1.2.2.2.1
  have hon1 := hon.1
  have e1 : (if m a ≤ m b + (100 * C 393 i + 1) then m a else m b + (100 * C 393 i + 1)) = rxD (100 * C 393 i + 1) a b m a := by
    rw [rx_a]
    by_cases q : m b + (100 * C 393 i + 1) < m a
    · rw [if_neg (by omega), if_pos q]
    · rw [if_pos (by omega), if_neg q]
  have hr1 : rowI (st2 z 1603 0 a (rxD (100 * C 393 i + 1) a b m a)) 1603 (rxD (100 * C 393 i + 1) a b m) := fun v hv => by
    rw [rowI_st h v hv]
    by_cases e : v = a
    · subst e; rw [if_pos rfl]
    · rw [if_neg e, rx_n e]
  have dx := rx_le (w := 100 * C 393 i + 1) (a := a) (b := b) (v := a) (d := m)
  have dx0 : 0 ≤ rxD (100 * C 393 i + 1) a b m a := by rw [rx_a]; split <;> omega
  generalize hD : rxD (100 * C 393 i + 1) a b m = D at e1 hr1 dx dx0
  have eb : D b = m b := by rw [← hD, rx_n (Ne.symm hab)]
  have e2 : (if D b ≤ D a + (100 * C 393 i + 1) then D b else D a + (100 * C 393 i + 1)) = rxD (100 * C 393 i + 1) b a D b := by
    rw [rx_a]
    by_cases q : D a + (100 * C 393 i + 1) < D b
    · rw [if_neg (by omega), if_pos q]
    · rw [if_pos (by omega), if_neg q]
  have w1 : st2 z 1603 0 a (D a) 1540 0 i = a := by rw [st2_ne (by omega), v1, ha]
  have w2 : st2 z 1603 0 a (D a) 1541 0 i = b := by rw [st2_ne (by omega), v2, hb]
  refine ⟨st2 (st2 z 1603 0 a (D a)) 1603 0 b (rxD (100 * C 393 i + 1) b a D b), ?_, ?_, (Fr.rf.st rfl).st rfl⟩
  · have hj : ∀ (k : Int → Option ((Int × S2) ⊕ S2)), (if m a ≤ jadd (m b) (100 * C 393 i + 1) then k (m a) else k (jadd (m b) (100 * C 393 i + 1))) = k (D a) := fun k => by
      rw [jadd_e (by omega) (by omega), ← e1]
      split <;> rfl
    have hj2 : ∀ (k : Int → Option ((Int × S2) ⊕ S2)), (if D b ≤ jadd (D a) (100 * C 393 i + 1) then k (D b) else k (jadd (D a) (100 * C 393 i + 1))) = k (rxD (100 * C 393 i + 1) b a D b) := fun k => by
      rw [jadd_e (by omega) (by omega), ← e2]
      split <;> rfl
    have hA : ∀ (k : Int → Option ((Int × S2) ⊕ S2)), (ld z 1540 0 6 i fun v => k v) = k a := fun k => by rw [ld_t (by omega) (by omega), Int.toNat_natCast, v1, ha]
    have hB : ∀ (k : Int → Option ((Int × S2) ⊕ S2)), (ld z 1541 0 6 i fun v => k v) = k b := fun k => by rw [ld_t (by omega) (by omega), Int.toNat_natCast, v2, hb]
    have hmA : ∀ (k : Int → Option ((Int × S2) ⊕ S2)), (ld z 1603 0 8 a fun v => k v) = k (m a) := fun k => by rw [ld_t (by omega) (by omega), Int.toNat_natCast, h a ha8]
    have hmB : ∀ (k : Int → Option ((Int × S2) ⊕ S2)), (ld z 1603 0 8 b fun v => k v) = k (m b) := fun k => by rw [ld_t (by omega) (by omega), Int.toNat_natCast, h b hb8]
    have hA2 : ∀ (k : Int → Option ((Int × S2) ⊕ S2)), (ld (st2 z 1603 0 a (D a)) 1540 0 6 i fun v => k v) = k a := fun k => by rw [ld_t (by omega) (by omega), Int.toNat_natCast, w1]
    have hB2 : ∀ (k : Int → Option ((Int × S2) ⊕ S2)), (ld (st2 z 1603 0 a (D a)) 1541 0 6 i fun v => k v) = k b := fun k => by rw [ld_t (by omega) (by omega), Int.toNat_natCast, w2]
    have hmA2 : ∀ (k : Int → Option ((Int × S2) ⊕ S2)), (ld (st2 z 1603 0 a (D a)) 1603 0 8 a fun v => k v) = k (D a) := fun k => by rw [ld_t (by omega) (by omega), Int.toNat_natCast, hr1 a ha8]
    have hmB2 : ∀ (k : Int → Option ((Int × S2) ⊕ S2)), (ld (st2 z 1603 0 a (D a)) 1603 0 8 b fun v => k v) = k (D b) := fun k => by rw [ld_t (by omega) (by omega), Int.toNat_natCast, hr1 b hb8]
    unfold f252_c
    rw [ld_t (by omega) (by omega), show z 1537 0 (Int.toNat 3) = C 388 0 from h3, if_neg (by omega), m201 hY hV hi, cP_s, if_neg (fun w => w hon.2), ld_t (by omega) (by omega), Int.toNat_natCast, v3, jmul_e (by omega) (by omega), jadd_e (by omega) (by omega), bnd]
    simp only [jn]
    rw [hA, hB, hmB, hA, hmA]
    have hs1 : ∀ (k : Int → Option ((Int × S2) ⊕ S2)), (if m a ≤ jadd (m b) (100 * C 393 i + 1) then (ld z 1540 0 6 i fun v37 => ld z 1603 0 8 v37 fun v38 => k v38) else ld z 1541 0 6 i fun v39 => ld z 1603 0 8 v39 fun v40 => k (jadd v40 (100 * C 393 i + 1))) = k (D a) := fun k => by
      rw [hA, hmA, hB, hmB]
      exact hj k
    have hs2 : ∀ (k : Int → Option ((Int × S2) ⊕ S2)), (if D b ≤ jadd (D a) (100 * C 393 i + 1) then (ld (st2 z 1603 0 a (D a)) 1541 0 6 i fun v33 => ld (st2 z 1603 0 a (D a)) 1603 0 8 v33 fun v34 => k v34) else ld (st2 z 1603 0 a (D a)) 1540 0 6 i fun v35 => ld (st2 z 1603 0 a (D a)) 1603 0 8 v35 fun v36 => k (jadd v36 (100 * C 393 i + 1))) = k (rxD (100 * C 393 i + 1) b a D b) := fun k => by
      rw [hB2, hmB2, hA2, hmA2]
      exact hj2 k
    refine (hs1 (fun x23 => sto z 1603 0 8 a x23 fun s24 => ld s24 1541 0 6 i fun v25 => ld s24 1540 0 6 i fun v26 => ld s24 1603 0 8 v26 fun v27 => ld s24 1541 0 6 i fun v28 => ld s24 1603 0 8 v28 fun v29 => if v29 ≤ (jadd v27 (100 * C 393 i + 1)) then (ld s24 1541 0 6 i fun v33 => ld s24 1603 0 8 v33 fun v34 => sto s24 1603 0 8 v25 v34 fun s31 => bnd (jadd (i : Int) 1) fun v32 => some (.inl (v32, s31))) else ld s24 1540 0 6 i fun v35 => ld s24 1603 0 8 v35 fun v36 => sto s24 1603 0 8 v25 (jadd v36 (100 * C 393 i + 1)) fun s31 => bnd (jadd (i : Int) 1) fun v32 => some (.inl (v32, s31)))).trans ?_
    rw [sto_t (by omega) (by omega), Int.toNat_natCast, hB2, hA2, hmA2, hB2, hmB2]
    refine (hs2 (fun x30 => sto (st2 z 1603 0 a (D a)) 1603 0 8 b x30 fun s31 => bnd (jadd (i : Int) 1) fun v32 => some (.inl (v32, s31)))).trans ?_
    rw [sto_t (by omega) (by omega), Int.toNat_natCast, bnd, ej]
  · rw [ln_t hon, ha, hb, Int.toNat_natCast, Int.toNat_natCast, hD]
    intro v hv
    rw [rowI_st hr1 v hv]
    by_cases e : v = b
    · subst e; rw [if_pos rfl]
    · rw [if_neg e, rx_n e]
theorem c252c {C Y : V2} {t : S2} {d m : Nat → Int} (hC : CB C) (hY : YB C Y) (hR : CR C t) (hV : YR C Y t) (h : rowI t 1603 m) (hW : WR d m) : ∃ t', itr (fun (x11, s12) => f252_c x11 s12) am_fu (0, t) = some t' ∧ rowI t' 1603 (rdN C Y 100 m 6) ∧ Fr pWm t t' := by
  have hcc := hC.1
  have hcut : rdN C Y 100 m 6 = rdN C Y 100 m (C 388 0).toNat := rd_cut (by omega) (fun i h1 h2 q => by have := q.1; omega)
  rw [hcut]
  refine itr_inv (fun (i : Nat) (z : Int × S2) => z.1 = i ∧ rowI z.2 1603 (rdN C Y 100 m i) ∧ Fr pWm t z.2) (fun (z : S2) => rowI z 1603 (rdN C Y 100 m (C 388 0).toNat) ∧ Fr pWm t z) (C 388 0).toNat ?_ am_fu (fu_lt (by omega)) (0, t) ⟨rfl, h, Fr.rf⟩
  rintro i ⟨x, z⟩ hi ⟨g1, g2, g3⟩
  dsimp only at g1 g2 g3 ⊢
  subst g1
  have hRz := hR.wm g3
  have hVz := hV.wm g3
  have h3 : z 1537 0 3 = C 388 0 := hRz.1.2.2.2.1
  by_cases e : i = (C 388 0).toNat
  · refine Or.inr ⟨z, ?_, by rw [← e]; exact g2, g3⟩
    show f252_c i z = _
    unfold f252_c
    rw [ld_t (by omega) (by omega), show z 1537 0 (Int.toNat 3) = C 388 0 from h3, if_pos (by omega)]
  · refine Or.inl ⟨by omega, ?_⟩
    by_cases q : onL C Y i
    · obtain ⟨z', k1, k2, k3⟩ := c252_on hC hY hRz hVz (i := i) (by omega) q g2 (fun v hv => by
        have := (hW.rd (Y := Y) hC (i := i) (by omega) v hv).bd
        omega)
      exact ⟨(_, z'), k1, rfl, k2, g3.tr k3⟩
    · refine ⟨(((i + 1 : Nat) : Int), z), ?_, rfl, by show rowI z 1603 (lnD C Y 100 i _); rw [ln_f q]; exact g2, g3⟩
      have c2 : ¬ Y 514 i = 0 := fun w => q ⟨by omega, w⟩
      show f252_c i z = _
      unfold f252_c
      rw [ld_t (by omega) (by omega), show z 1537 0 (Int.toNat 3) = C 388 0 from h3, if_neg (by omega), m201 hY hVz (by omega), cP_s, if_pos c2, bnd, jadd_e (by omega) (by omega)]
      rfl
theorem m252 {C Y : V2} {t : S2} {to : Int} (hC : CB C) (hY : YB C Y) (hR : CR C t) (hV : YR C Y t) : ∃ t', f252 to t = some t' ∧ rowI t' 1603 (rsN C Y 100 (d0 100000 to) 8) ∧ Fr pWm t t' := by
  have A : ∃ t', itr (fun (x2, s3) => f252_a to x2 s3) am_fu (0, t) = some t' ∧ rowI t' 1603 (d0 100000 to) ∧ Fr pWm t t' := by
    refine itr_inv (fun (i : Nat) (z : Int × S2) => z.1 = i ∧ (∀ v, v < i → z.2 1603 0 v = d0 100000 to v) ∧ Fr pWm t z.2) (fun (z : S2) => rowI z 1603 (d0 100000 to) ∧ Fr pWm t z) 8 ?_ am_fu (fu_lt (by decide)) (0, t) ⟨rfl, fun v hv => by omega, Fr.rf⟩
    rintro i ⟨x, z⟩ hi ⟨g1, g2, g3⟩
    dsimp only at g1 g2 g3 ⊢
    subst g1
    by_cases e : i = 8
    · subst e
      exact Or.inr ⟨z, rfl, g2, g3⟩
    · refine Or.inl ⟨by omega, (((i + 1 : Nat) : Int), st2 z 1603 0 i (d0 100000 to i)), ?_, rfl, fun v hv => ?_, g3.st rfl⟩
      · show f252_a to i z = _
        unfold f252_a d0
        rw [if_neg (by omega)]
        simp only [jn]
        by_cases q : (i : Int) = to
        · rw [if_neg (fun w => w q), if_pos q, sto_t (by omega) (by omega), Int.toNat_natCast, bnd, jadd_e (by omega) (by omega)]
          rfl
        · rw [if_pos q, if_neg q, sto_t (by omega) (by omega), Int.toNat_natCast, bnd, jadd_e (by omega) (by omega)]
          rfl
      · dsimp only
        by_cases q : v = i
        · subst q; rw [st2_eq]
        · rw [st2_ne (by omega)]
          exact g2 v (by omega)
  obtain ⟨t1, a1, a2, a3⟩ := A
  have B : ∃ t', itr (fun (x8, s9) => f252_b x8 s9) am_fu (0, t1) = some t' ∧ rowI t' 1603 (rsN C Y 100 (d0 100000 to) 8) ∧ Fr pWm t t' := by
    refine itr_inv (fun (i : Nat) (z : Int × S2) => z.1 = i ∧ rowI z.2 1603 (rsN C Y 100 (d0 100000 to) i) ∧ Fr pWm t z.2) (fun (z : S2) => rowI z 1603 (rsN C Y 100 (d0 100000 to) 8) ∧ Fr pWm t z) 8 ?_ am_fu (fu_lt (by decide)) (0, t1) ⟨rfl, a2, a3⟩
    rintro i ⟨x, z⟩ hi ⟨g1, g2, g3⟩
    dsimp only at g1 g2 g3 ⊢
    subst g1
    by_cases e : i = 8
    · subst e
      exact Or.inr ⟨z, rfl, g2, g3⟩
    · refine Or.inl ⟨by omega, ?_⟩
      obtain ⟨z', k1, k2, k3⟩ := c252c hC hY (hR.wm g3) (hV.wm g3) g2 (WR.rs (Y := Y) hC (WR_0 (to := to)) (r := i))
      refine ⟨(((i + 1 : Nat) : Int), z'), ?_, rfl, k2, g3.tr k3⟩
      show f252_b i z = _
      unfold f252_b
      rw [if_neg (by omega), k1, cP_s, bnd, jadd_e (by omega) (by omega)]
      rfl
  obtain ⟨t2, b1, b2, b3⟩ := B
  refine ⟨t2, ?_, b2, b3⟩
  unfold f252
  rw [a1, cP_s, b1, cP_s]
theorem fsL_at {C Y : V2} {k : Int} {d : Nat → Int} {fr : Int} {j : Nat} (h : lead C Y k d fr j) : ∀ {n i : Nat}, i ≤ j → j < i + n → (∀ x, i ≤ x → x < j → ¬ lead C Y k d fr x) → fsL C Y k d fr n i = j
  | 0, i, h1, h2, _ => by omega
  | n + 1, i, h1, h2, h3 => by
    by_cases e : i = j
    · subst e
      exact if_pos h
    · exact (if_neg (h3 i (Nat.le_refl i) (by omega))).trans (fsL_at h (n := n) (i := i + 1) (by omega) (by omega) (fun x g1 g2 => h3 x (by omega) g2))
theorem fsL_no {C Y : V2} {k : Int} {d : Nat → Int} {fr : Int} : ∀ {n i : Nat}, (∀ x, i ≤ x → x < i + n → ¬ lead C Y k d fr x) → fsL C Y k d fr n i = -1
  | 0, _, _ => rfl
  | n + 1, i, h => (if_neg (h i (Nat.le_refl i) (by omega))).trans (fsL_no (n := n) (i := i + 1) (fun x g1 g2 => h x (by omega) (by omega)))
theorem fsL_congr {C Y : V2} {k k' : Int} {d d' : Nat → Int} {fr : Int} : ∀ {n i : Nat}, (∀ x, i ≤ x → x < i + n → (lead C Y k d fr x ↔ lead C Y k' d' fr x)) → fsL C Y k d fr n i = fsL C Y k' d' fr n i
  | 0, _, _ => rfl
  | n + 1, i, h => by
    have h0 := h i (Nat.le_refl i) (by omega)
    have ih := fsL_congr (n := n) (i := i + 1) (fun x g1 g2 => h x (by omega) (by omega))
    by_cases q : lead C Y k d fr i
    · exact (if_pos q).trans (if_pos (h0.mp q)).symm
    · exact ((if_neg q).trans ih).trans (if_neg (fun w => q (h0.mpr w))).symm
theorem lead_iff {C Y : V2} {d m : Nat → Int} {fr : Nat} {i : Nat} (hC : CB C) (hW : WR d m) (hf : fr < 8) (hfin : d fr < 1000000) (hi : i < 6) : lead C Y 16 d fr i ↔ lead C Y 100 m fr i := by
  unfold lead
  rw [Int.toNat_natCast]
  refine and_congr_right fun hon => ?_
  have a1 := hC.2.2.2.1 i hi
  have a2 := hC.2.2.2.2.1 i hi hon.1
  have key : ∀ v, v < 8 → (d v + (16 * C 393 i + 1) = d fr ↔ m v + (100 * C 393 i + 1) = m fr) := fun v hv => by
    rcases hW fr hf with ⟨q1, q2⟩ | ⟨L, E, q1, q2, q3, q4, q5, q6, q7⟩
    · omega
    · rcases hW v hv with ⟨w1, w2⟩ | ⟨L', E', w1, w2, w3, w4, w5, w6, w7⟩ <;> omega
  rw [key (C 392 i).toNat (by omega), key (C 391 i).toNat (by omega)]
theorem m251a {C Y : V2} {t : S2} {m : Nat → Int} {fr : Nat} {to : Int} (hC : CB C) (hY : YB C Y) (hR : CR C t) (hV : YR C Y t) (h : rowI t 1603 m) (hm : ∀ v, v < 8 → 0 ≤ m v ∧ m v ≤ 100000) (hf : fr < 8) : cP (itr (fun x9 => f251_a fr to x9 t) am_fu 0) (se (fun z20 => some (z20, t)) (fun _ => some ((-1), t))) = some (if (fr : Int) = to then -1 else fsL C Y 100 m fr 6 0, t) := by
  have hcc := hC.1
  have h3 : t 1537 0 3 = C 388 0 := hR.1.2.2.2.1
  by_cases hft : (fr : Int) = to
  · rw [if_pos hft]
    have : itr (fun x9 => f251_a fr to x9 t) am_fu 0 = some (.inr ()) := itr_now (by
      show f251_a fr to 0 t = some (.inr (.inr ()))
      unfold f251_a
      rw [ld_t (by omega) (by omega), show t 1537 0 (Int.toNat 3) = C 388 0 from h3]
      by_cases q : C 388 0 ≤ 0
      · rw [if_pos q]
      · rw [if_neg q, if_pos hft])
    rw [this]
    rfl
  · rw [if_neg hft]
    refine inv_cP (a := (0 : Int)) (P := fun e => e = some (fsL C Y 100 m fr 6 0, t)) (fun (i : Nat) (x : Int) => x = i ∧ ∀ j, j < i → ¬ lead C Y 100 m fr j) (fun (z : Int ⊕ Unit) => match z with
      | .inl z => z = fsL C Y 100 m fr 6 0
      | .inr _ => fsL C Y 100 m fr 6 0 = -1) (C 388 0).toNat (by omega) ⟨rfl, fun j hj => by omega⟩ ?_ ?_
    · rintro i x hi ⟨rfl, g2⟩
      by_cases e : i = (C 388 0).toNat
      · refine Or.inr ⟨.inr (), ?_, ?_⟩
        · unfold f251_a
          rw [ld_t (by omega) (by omega), show t 1537 0 (Int.toNat 3) = C 388 0 from h3, if_pos (by omega)]
        · refine fsL_no fun x h1 h2 q => ?_
          by_cases c : x < i
          · exact g2 x c q
          · have := q.1.1
            omega
      · have hi6 : i < 6 := by omega
        have hi8 : (i : Int) < C 388 0 := by omega
        have a1 := hC.2.2.2.1 i hi6
        have a2 := hC.2.2.2.2.1 i hi6 hi8
        obtain ⟨v1, v2, v3, -⟩ := hR.2.1 i hi6 hi8
        obtain ⟨a, ha⟩ := Int.eq_ofNat_of_zero_le (show 0 ≤ C 391 i by omega)
        obtain ⟨b, hb⟩ := Int.eq_ofNat_of_zero_le (show 0 ≤ C 392 i by omega)
        have ma := hm a (by omega)
        have mb := hm b (by omega)
        have ej : jadd (i : Int) 1 = ((i + 1 : Nat) : Int) := by rw [jadd_e (by omega) (by omega)]; rfl
        have hgo : ¬ lead C Y 100 m fr i → f251_a fr to i t = some (.inl ((i + 1 : Nat) : Int)) → (i < (C 388 0).toNat ∧ ∃ a', f251_a fr to i t = some (.inl a') ∧ a' = ((i + 1 : Nat) : Int) ∧ ∀ j, j < i + 1 → ¬ lead C Y 100 m fr j) ∨ ∃ r, f251_a fr to i t = some (.inr r) ∧ (match r with
            | .inl z => z = fsL C Y 100 m fr 6 0
            | .inr _ => fsL C Y 100 m fr 6 0 = -1) := fun h1 h2 => Or.inl ⟨by omega, _, h2, rfl, fun j hj => by
          by_cases c : j = i
          · subst c; exact h1
          · exact g2 j (by omega)⟩
        have hend : lead C Y 100 m fr i → f251_a fr to i t = some (.inr (.inl (i : Int))) → (i < (C 388 0).toNat ∧ ∃ a', f251_a fr to i t = some (.inl a') ∧ a' = ((i + 1 : Nat) : Int) ∧ ∀ j, j < i + 1 → ¬ lead C Y 100 m fr j) ∨ ∃ r, f251_a fr to i t = some (.inr r) ∧ (match r with
            | .inl z => z = fsL C Y 100 m fr 6 0
            | .inr _ => fsL C Y 100 m fr 6 0 = -1) := fun h1 h2 => Or.inr ⟨.inl (i : Int), h2, (fsL_at h1 (by omega) (by omega) (fun x _ g => g2 x g)).symm⟩
        have hl : lead C Y 100 m fr i ↔ Y 514 i = 0 ∧ (((a : Int) = fr ∧ m b + (100 * C 393 i + 1) = m fr) ∨ ((b : Int) = fr ∧ m a + (100 * C 393 i + 1) = m fr)) := by
          unfold lead onL
          rw [ha, hb, Int.toNat_natCast, Int.toNat_natCast, Int.toNat_natCast]
          exact ⟨fun q => ⟨q.1.2, q.2⟩, fun q => ⟨⟨hi8, q.1⟩, q.2⟩⟩
        have e253 : f253 i fr t = some (if ¬ (a : Int) = fr then (if ¬ (b : Int) = fr then -1 else (a : Int)) else (b : Int)) := by
          unfold f253
          simp (disch := omega) only [ld_t, Int.toNat_natCast, v1, v2, ha, hb]
          split
          · split <;> rfl
          · rfl
        have hst : f251_a fr to i t = if Y 514 i = 0 then (if (if ¬ (a : Int) = fr then (if ¬ (b : Int) = fr then -1 else (a : Int)) else (b : Int)) = -1 then some (.inl ((i + 1 : Nat) : Int)) else ld t 1603 0 8 (if ¬ (a : Int) = fr then (if ¬ (b : Int) = fr then -1 else (a : Int)) else (b : Int)) fun v15 => ld t 1542 0 6 i fun v16 => ld t 1603 0 8 fr fun v17 => if ¬ (jadd (jadd v15 (jmul 100 v16)) 1) = v17 then some (.inl ((i + 1 : Nat) : Int)) else (some (.inr (.inl (i : Int))) : Option (Int ⊕ (Int ⊕ Unit)))) else some (.inl ((i + 1 : Nat) : Int)) := by
          unfold f251_a
          rw [ld_t (by omega) (by omega), show t 1537 0 (Int.toNat 3) = C 388 0 from h3, if_neg (by omega), if_neg hft, m201 hY hV hi6, cP_s]
          simp only [jn, e253, cP_s, bnd, ej, if_true]
        have hone : ∀ c : Nat, c < 8 → (if (c : Int) = (-1) then some (.inl ((i + 1 : Nat) : Int)) else ld t 1603 0 8 c fun v15 => ld t 1542 0 6 i fun v16 => ld t 1603 0 8 fr fun v17 => if ¬ (jadd (jadd v15 (jmul 100 v16)) 1) = v17 then some (.inl ((i + 1 : Nat) : Int)) else (some (.inr (.inl (i : Int))) : Option (Int ⊕ (Int ⊕ Unit)))) = if ¬ m c + (100 * C 393 i + 1) = m fr then some (.inl ((i + 1 : Nat) : Int)) else some (.inr (.inl (i : Int))) := fun c hc => by
          have := hm c hc
          rw [if_neg (by omega), ld_t (by omega) (by omega), Int.toNat_natCast, h c hc, ld_t (by omega) (by omega), Int.toNat_natCast, v3, ld_t (by omega) (by omega), Int.toNat_natCast, h fr hf, jmul_e (by omega) (by omega), jadd_e (x := m c) (by omega) (by omega), jadd_e (by omega) (by omega), Int.add_assoc]
        by_cases c0 : Y 514 i = 0
        · rw [if_pos c0] at hst
          by_cases c1 : (a : Int) = fr
          · rw [if_neg (show ¬ ¬ (a : Int) = fr from fun w => w c1), hone b (by omega)] at hst
            by_cases c2 : m b + (100 * C 393 i + 1) = m fr
            · rw [if_neg (fun w => w c2)] at hst
              exact hend (hl.mpr ⟨c0, Or.inl ⟨c1, c2⟩⟩) hst
            · rw [if_pos c2] at hst
              refine hgo (fun w => ?_) hst
              rcases (hl.mp w).2 with ⟨_, q⟩ | ⟨q, _⟩
              · exact c2 q
              · omega
          · rw [if_pos c1] at hst
            by_cases c3 : (b : Int) = fr
            · rw [if_neg (show ¬ ¬ (b : Int) = fr from fun w => w c3), hone a (by omega)] at hst
              by_cases c2 : m a + (100 * C 393 i + 1) = m fr
              · rw [if_neg (fun w => w c2)] at hst
                exact hend (hl.mpr ⟨c0, Or.inr ⟨c3, c2⟩⟩) hst
              · rw [if_pos c2] at hst
                refine hgo (fun w => ?_) hst
                rcases (hl.mp w).2 with ⟨q, _⟩ | ⟨_, q⟩
                · exact c1 q
                · exact c2 q
            · rw [if_pos c3, if_pos rfl] at hst
              refine hgo (fun w => ?_) hst
              rcases (hl.mp w).2 with ⟨q, _⟩ | ⟨q, _⟩
              · exact c1 q
              · exact c3 q
        · rw [if_neg c0] at hst
          exact hgo (fun w => c0 (hl.mp w).1) hst
    · rintro (z | z) hz
      · show some (z, t) = _
        rw [show z = _ from hz]
      · show some (-1, t) = _
        rw [show fsL C Y 100 m fr 6 0 = -1 from hz]
