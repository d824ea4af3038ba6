/-! WAYS: both sides in step; WAY -/
def cntD (d : Nat → Int) (x : Int) : Int := cntB 8 (fun u => decide (d u < x))
def WP (d m : Nat → Int) (v : Nat) : Prop := (d v = 1000000 ∧ m v = 100000) ∨ ∃ L E : Int, d v = 16 * L + E ∧ m v = 100 * L + E ∧ 0 ≤ E ∧ E ≤ 7 ∧ 0 ≤ L ∧ L ≤ 9 * E ∧ E ≤ cntD d (d v)
def WR (d m : Nat → Int) : Prop := ∀ v, v < 8 → WP d m v
theorem cntD_7 {d : Nat → Int} {v : Nat} (hv : v < 8) : cntD d (d v) ≤ 7 := by
  have := cntB_lt (p := fun u => decide (d u < d v)) (q := fun _ => true) (b := v) rfl (decide_eq_false (by omega)) (n := 8) hv (fun _ _ _ => rfl)
  have h2 := cntB_bd (p := fun _ => true) (n := 8)
  unfold cntD
  omega
theorem WR.rx {d m : Nat → Int} {a b : Nat} {l : Int} (h : WR d m) (ha : a < 8) (hb : b < 8) (hab : a ≠ b) (hl : 1 ≤ l ∧ l ≤ 9) : WR (rxD (16 * l + 1) a b d) (rxD (100 * l + 1) a b m) := by
  have hA := h a ha
  have hB := h b hb
  have same : ¬ d b + (16 * l + 1) < d a → ¬ m b + (100 * l + 1) < m a → WR (rxD (16 * l + 1) a b d) (rxD (100 * l + 1) a b m) := by
    intro h1 h2
    have e1 : rxD (16 * l + 1) a b d = d := by
      funext v
      by_cases e : v = a
      · subst e; rw [rx_a, if_neg h1]
      · rw [rx_n e]
    have e2 : rxD (100 * l + 1) a b m = m := by
      funext v
      by_cases e : v = a
      · subst e; rw [rx_a, if_neg h2]
      · rw [rx_n e]
    rw [e1, e2]
    exact h
  have ch : ∀ Lb Eb : Int, d b = 16 * Lb + Eb → m b = 100 * Lb + Eb → 0 ≤ Eb → Eb ≤ 7 → 0 ≤ Lb → Lb ≤ 9 * Eb → Eb ≤ cntD d (d b) → d b + (16 * l + 1) < d a → m b + (100 * l + 1) < m a → WR (rxD (16 * l + 1) a b d) (rxD (100 * l + 1) a b m) := by
    intro Lb Eb g1 g2 g3 g4 g5 g6 g7 h1 h2
    have hcnt : ∀ x, cntD d x ≤ cntD (rxD (16 * l + 1) a b d) x := fun x => cntB_le fun i _ hp => by
      have := of_decide_eq_true hp
      have := rx_le (w := 16 * l + 1) (a := a) (b := b) (v := i) (d := d)
      exact decide_eq_true (by omega)
    have hnew : Eb + 1 ≤ cntD (rxD (16 * l + 1) a b d) (rxD (16 * l + 1) a b d a) := by
      have := cntB_lt (p := fun u => decide (d u < d b)) (q := fun u => decide (rxD (16 * l + 1) a b d u < rxD (16 * l + 1) a b d a)) (b := b) (decide_eq_true (by rw [rx_a, if_pos h1, rx_n (Ne.symm hab)]; omega)) (decide_eq_false (by omega)) (n := 8) hb (fun i hi hp => by
        have := of_decide_eq_true hp
        have h3 := rx_le (w := 16 * l + 1) (a := a) (b := b) (v := i) (d := d)
        refine decide_eq_true ?_
        rw [rx_a, if_pos h1]
        omega)
      unfold cntD at g7 ⊢
      omega
    have h7 := cntD_7 (d := rxD (16 * l + 1) a b d) ha
    intro v hv
    by_cases e : v = a
    · subst e
      right
      refine ⟨Lb + l, Eb + 1, ?_, ?_, by omega, by omega, by omega, by omega, hnew⟩
      · rw [rx_a, if_pos h1, g1]; omega
      · rw [rx_a, if_pos h2, g2]; omega
    · rcases h v hv with ⟨q1, q2⟩ | ⟨L, E, q1, q2, q3, q4, q5, q6, q7⟩
      · left
        rw [rx_n e, rx_n e]
        exact ⟨q1, q2⟩
      · right
        refine ⟨L, E, by rw [rx_n e]; exact q1, by rw [rx_n e]; exact q2, q3, q4, q5, q6, ?_⟩
        rw [rx_n e]
        exact Int.le_trans q7 (hcnt _)
  rcases hB with ⟨b1, b2⟩ | ⟨Lb, Eb, b1, b2, b3, b4, b5, b6, b7⟩
  · rcases hA with ⟨a1, a2⟩ | ⟨La, Ea, a1, a2, a3, a4, a5, a6, a7⟩
    · exact same (by omega) (by omega)
    · exact same (by omega) (by omega)
  · rcases hA with ⟨a1, a2⟩ | ⟨La, Ea, a1, a2, a3, a4, a5, a6, a7⟩
    · exact ch Lb Eb b1 b2 b3 b4 b5 b6 b7 (by omega) (by omega)
    · by_cases q : d b + (16 * l + 1) < d a
      · exact ch Lb Eb b1 b2 b3 b4 b5 b6 b7 q (by omega)
      · exact same q (by omega)
theorem WR.rd {C Y : V2} {d m : Nat → Int} (hC : CB C) (h : WR d m) : ∀ {i : Nat}, i ≤ 6 → WR (rdN C Y 16 d i) (rdN C Y 100 m i)
  | 0, _ => h
  | i + 1, hi => by
    have ih := WR.rd (Y := Y) hC h (i := i) (by omega)
    show WR (lnD C Y 16 i (rdN C Y 16 d i)) (lnD C Y 100 i (rdN C Y 100 m i))
    by_cases q : onL C Y i
    · have a1 := hC.2.2.2.1 i (by omega)
      have a2 := hC.2.2.2.2.1 i (by omega) q.1
      rw [ln_t q, ln_t q]
      exact (ih.rx (by omega) (by omega) (by omega) (by omega)).rx (by omega) (by omega) (by omega) (by omega)
    · rw [ln_f q, ln_f q]
      exact ih
theorem WR.rs {C Y : V2} {d m : Nat → Int} (hC : CB C) (h : WR d m) : ∀ {r : Nat}, WR (rsN C Y 16 d r) (rsN C Y 100 m r)
  | 0 => h
  | r + 1 => (WR.rs (Y := Y) hC h (r := r)).rd hC (Nat.le_refl 6)
def d0 (far : Int) (to : Int) (v : Nat) : Int := if (v : Int) = to then 0 else far
theorem WR_0 {to : Int} : WR (d0 1000000 to) (d0 100000 to) := fun v hv => by
  unfold WP d0
  by_cases e : (v : Int) = to
  · right
    rw [if_pos e, if_pos e]
    refine ⟨0, 0, rfl, rfl, by omega, by omega, by omega, by omega, ?_⟩
    exact (cntB_bd (n := 8)).1
  · left
    rw [if_neg e, if_neg e]
    exact ⟨rfl, rfl⟩
theorem BI_0 {C Y : V2} {to : Nat} : BI C Y to (d0 1000000 to) := by
  refine ⟨if_pos rfl, fun v hv => ?_, fun v hv h1 h2 => ?_⟩
  · unfold d0
    split <;> omega
  · unfold d0 at h1
    rw [if_neg (by omega)] at h1
    omega
/-- a row of numbers in the memory -/
def rowI (s : S2) (f : Nat) (d : Nat → Int) : Prop := ∀ v, v < 8 → s f 0 v = d v
theorem rowI_st {s : S2} {f a : Nat} {d : Nat → Int} {x : Int} (h : rowI s f d) : ∀ v, v < 8 → st2 s f 0 a x f 0 v = if v = a then x else d v := fun v hv => by
  rw [st2_d]
  by_cases e : v = a
  · rw [if_pos ⟨rfl, rfl, e⟩, if_pos e]
  · rw [if_neg (by omega), if_neg e]
    exact h v hv
def pWc (f i : Nat) : Bool := (Nat.beq f 1280 || Nat.beq f 1282 || Nat.beq f 1291) && Nat.beq i 0
theorem pWc_f {f i : Nat} : pWc f i = false ↔ ¬ ((f = 1280 ∨ f = 1282 ∨ f = 1291) ∧ i = 0) := by
  unfold pWc
  rw [← Bool.not_eq_true, Bool.and_eq_true, Bool.or_eq_true, Bool.or_eq_true, Nat.beq_eq, Nat.beq_eq, Nat.beq_eq, Nat.beq_eq]
  grind
def Wb (C Y : V2) (s z : S2) : Prop := Fr pWc s z ∧ cw s 0 = C ∧ yv s 0 = Y
theorem jmin_e {x y : Int} : jmin x y = if y < x then y else x := rfl
theorem c130 {C Y : V2} {z : S2} {i : Nat} {d : Nat → Int} (hC : CB C) (hi : i < 6) (hon : onL C Y i) (h : rowI z 1291 d) (hz : cw z 0 = C) (hd : ∀ v, v < 8 → 0 ≤ d v ∧ d v ≤ 1000000) : ∃ z', f130 0 i z = some z' ∧ rowI z' 1291 (lnD C Y 16 i d) ∧ Fr pWc z z' := by
  have a1 := hC.2.2.2.1 i hi
  have a2 := hC.2.2.2.2.1 i hi hon.1
  have v1 : z 391 0 i = C 391 i := by rw [← hz, cw6 (by omega) (by omega) hi]
  have v2 : z 392 0 i = C 392 i := by rw [← hz, cw6 (by omega) (by omega) hi]
  have v3 : z 393 0 i = C 393 i := by rw [← hz, cw6 (by omega) (by omega) hi]
  obtain ⟨a, ha⟩ := Int.eq_ofNat_of_zero_le (show 0 ≤ C 391 i by omega)
  obtain ⟨b, hb⟩ := Int.eq_ofNat_of_zero_le (show 0 ≤ C 392 i by omega)
  have ha8 : a < 8 := by omega
  have hb8 : b < 8 := by omega
  have hab : a ≠ b := by omega
  have da := hd a ha8
  have db := hd b hb8
  have e1 : jmin (d a) (d b + (16 * C 393 i + 1)) = rxD (16 * C 393 i + 1) a b d a := by rw [rx_a, jmin_e]
  have hr1 : rowI (st2 z 1291 0 a (rxD (16 * C 393 i + 1) a b d a)) 1291 (rxD (16 * C 393 i + 1) a b d) := fun v hv => by
    rw [rowI_st h v hv]
    by_cases e : v = a
    · subst e; rw [if_pos rfl]
    · rw [if_neg e, rx_n e]
  have dx := rx_le (w := 16 * C 393 i + 1) (a := a) (b := b) (v := a) (d := d)
  have dx0 : 0 ≤ rxD (16 * C 393 i + 1) a b d a := by rw [rx_a]; split <;> omega
  generalize hD : rxD (16 * C 393 i + 1) a b d = D at e1 hr1 dx dx0
  have eb : D b = d b := by rw [← hD, rx_n (Ne.symm hab)]
  have e2 : jmin (D b) (D a + (16 * C 393 i + 1)) = rxD (16 * C 393 i + 1) b a D b := by rw [rx_a, jmin_e]
  refine ⟨st2 (st2 z 1291 0 a (D a)) 1291 0 b (rxD (16 * C 393 i + 1) b a D b), ?_, ?_, (Fr.rf.st rfl).st rfl⟩
  · unfold f130
    rw [ld_t (by omega) (by omega), Int.toNat_natCast, v1, ld_t (by omega) (by omega), Int.toNat_natCast, v2, if_neg (by omega), if_neg (by omega), if_neg (by omega), if_neg (by omega), ld_t (by omega) (by omega), Int.toNat_natCast, v3, jmul_e (by omega) (by omega), jadd_e (by omega) (by omega), bnd, ha, hb, ld_t (by omega) (by omega), Int.toNat_natCast, h a ha8, ld_t (by omega) (by omega), Int.toNat_natCast, h b hb8, jadd_e (by omega) (by omega), e1, sto_t (by omega) (by omega), Int.toNat_natCast, ld_t (by omega) (by omega), Int.toNat_natCast, hr1 b hb8, ld_t (by omega) (by omega), Int.toNat_natCast, hr1 a ha8, jadd_e (by omega) (by omega), e2, sto_t (by omega) (by omega), Int.toNat_natCast]
  · rw [ln_t hon, ha, hb, Int.toNat_natCast, Int.toNat_natCast, hD]
    intro v hv
    rw [rowI_st hr1 v hv]
    by_cases e : v = b
    · subst e; rw [if_pos rfl]
    · rw [if_neg e, rx_n e]
theorem c129c {C Y : V2} {s : S2} {to : Nat} {d : Nat → Int} (hC : CB C) (hs : cw s 0 = C) (hy : yv s 0 = Y) (h : rowI s 1291 d) (hd : BI C Y to d) : ∃ s', itr (fun (x22, s23) => f129_c 0 0 x22 s23) am_fu (0, s) = some s' ∧ rowI s' 1291 (rdN C Y 16 d 6) ∧ Fr pWc s s' := by
  refine itr_inv (fun (i : Nat) (z : Int × S2) => z.1 = i ∧ rowI z.2 1291 (rdN C Y 16 d i) ∧ Fr pWc s z.2) (fun (z : S2) => rowI z 1291 (rdN C Y 16 d 6) ∧ Fr pWc s z) 6 ?_ am_fu (fu_lt (by decide)) (0, s) ⟨rfl, h, Fr.rf⟩
  rintro i ⟨x, z⟩ hi ⟨g1, g2, g3⟩
  dsimp only at g1 g2 g3 ⊢
  subst g1
  by_cases e : i = 6
  · subst e
    exact Or.inr ⟨z, rfl, g2, g3⟩
  · have hi6 : i < 6 := by omega
    have hz : cw z 0 = C := by rw [g3.cw fun f g1 g2 => pWc_f.mpr (by omega)]; exact hs
    have q1 : z 388 0 0 = C 388 0 := by rw [← hz, cw0 (by omega) (by omega)]
    have q2 : z 514 0 i = Y 514 i := by rw [g3 _ _ (pWc_f.mpr (by omega)), ← hy, yv514 hi6]
    have ej : jadd (i : Int) 1 = ((i + 1 : Nat) : Int) := by rw [jadd_e (by omega) (by omega)]; rfl
    refine Or.inl ⟨hi6, ?_⟩
    by_cases q : onL C Y i
    · obtain ⟨z', k1, k2, k3⟩ := c130 hC hi6 q g2 hz (rd_BI hC hd (i := i) (by omega)).2.1
      refine ⟨(((i + 1 : Nat) : Int), z'), ?_, rfl, k2, g3.tr k3⟩
      show f129_c 0 0 i z = _
      unfold f129_c
      have := q.1
      rw [if_neg (by omega), m50t (by omega), cP_s, if_neg ne10, ld_t (by omega) (by omega), Int.toNat_natCast, q2, if_neg (fun w => w q.2), k1, cP_s, bnd, ej]
    · refine ⟨(((i + 1 : Nat) : Int), z), ?_, rfl, by show rowI z 1291 (lnD C Y 16 i _); rw [ln_f q]; exact g2, g3⟩
      show f129_c 0 0 i z = _
      unfold f129_c
      rw [if_neg (by omega)]
      by_cases c : (i : Int) < C 388 0
      · have c2 : ¬ Y 514 i = 0 := fun w => q ⟨c, w⟩
        rw [m50t (by omega), cP_s, if_neg ne10, ld_t (by omega) (by omega), Int.toNat_natCast, q2, if_pos c2, bnd, ej]
      · rw [m50f (by omega), cP_s, if_pos rfl, bnd, ej]
theorem c129b {C Y : V2} {s : S2} {to : Nat} {d : Nat → Int} (hC : CB C) (hs : cw s 0 = C) (hy : yv s 0 = Y) (h : rowI s 1291 d) (hd : BI C Y to d) : ∃ s', itr (fun (x15, s16) => f129_b 0 0 x15 s16) am_fu (1, s) = some s' ∧ rowI s' 1291 (rsN C Y 16 d 7) ∧ Fr pWc s s' := by
  refine itr_inv (fun (i : Nat) (z : Int × S2) => z.1 = (i : Int) + 1 ∧ rowI z.2 1291 (rsN C Y 16 d i) ∧ Fr pWc s z.2) (fun (z : S2) => rowI z 1291 (rsN C Y 16 d 7) ∧ Fr pWc s z) 7 ?_ am_fu (fu_lt (by decide)) (1, s) ⟨rfl, h, Fr.rf⟩
  rintro i ⟨x, z⟩ hi ⟨g1, g2, g3⟩
  dsimp only at g1 g2 g3 ⊢
  subst g1
  by_cases e : i = 7
  · subst e
    exact Or.inr ⟨z, rfl, g2, g3⟩
  · refine Or.inl ⟨by omega, ?_⟩
    obtain ⟨z', k1, k2, k3⟩ := c129c (to := to) hC (by rw [g3.cw fun f g1 g2 => pWc_f.mpr (by omega)]; exact hs) (by rw [g3.yv fun f g1 g2 => pWc_f.mpr (by omega)]; exact hy) g2 (rs_BI hC hd (r := i))
    refine ⟨(((i + 1 : Nat) : Int) + 1, z'), ?_, rfl, k2, g3.tr k3⟩
    show f129_b 0 0 _ z = _
    unfold f129_b
    rw [if_neg (by omega), k1, cP_s, bnd, jadd_e (by omega) (by omega)]
    rfl
theorem c129a {s : S2} {to : Int} : ∃ s', itr (fun (x5, s6) => f129_a to x5 s6) am_fu (0, s) = some s' ∧ rowI s' 1291 (d0 1000000 to) ∧ Fr pWc s s' := by
  refine itr_inv (fun (i : Nat) (z : Int × S2) => z.1 = i ∧ (∀ v, v < i → z.2 1291 0 v = d0 1000000 to v) ∧ Fr pWc s z.2) (fun (z : S2) => rowI z 1291 (d0 1000000 to) ∧ Fr pWc s z) 8 ?_ am_fu (fu_lt (by decide)) (0, s) ⟨rfl, fun v hv => by omega, Fr.rf⟩
  rintro i ⟨x, z⟩ hi ⟨g1, g2, g3⟩
  dsimp only at g1 g2 g3 ⊢
  subst g1
  by_cases e : i = 8
  · subst e
    exact Or.inr ⟨z, rfl, g2, g3⟩
  · refine Or.inl ⟨by omega, (((i + 1 : Nat) : Int), st2 z 1291 0 i (d0 1000000 to i)), ?_, rfl, fun v hv => ?_, g3.st rfl⟩
    · show f129_a to i z = _
      unfold f129_a d0
      rw [if_neg (by omega)]
      simp only [jn]
      by_cases q : (i : Int) = to
      · rw [if_neg (fun w => w q), if_pos q, sto_t (by omega) (by omega), Int.toNat_natCast, bnd, jadd_e (by omega) (by omega)]
        rfl
      · rw [if_pos q, if_neg q, sto_t (by omega) (by omega), Int.toNat_natCast, bnd, jadd_e (by omega) (by omega)]
        rfl
    · dsimp only
      by_cases q : v = i
      · subst q; rw [st2_eq]
      · rw [st2_ne (by omega)]
        exact g2 v (by omega)
theorem m131 {s : S2} {d : Nat → Int} {v : Nat} (h : rowI s 1291 d) (hv : v < 8) : f131 v s = some (d v) := by
  unfold f131
  rw [if_neg (by omega), if_neg (by omega), ld_t (by omega) (by omega), Int.toNat_natCast, h v hv]
/-- line i leads on from a pole -/
def lead (C Y : V2) (k : Int) (d : Nat → Int) (from' : Int) (i : Nat) : Prop := onL C Y i ∧ ((C 391 i = from' ∧ d (C 392 i).toNat + (k * C 393 i + 1) = d from'.toNat) ∨ (C 392 i = from' ∧ d (C 391 i).toNat + (k * C 393 i + 1) = d from'.toNat))
theorem c132 {C Y : V2} {z : S2} {i : Nat} {d : Nat → Int} {fr : Int} (hC : CB C) (hi : i < 6) (hon : onL C Y i) (h : rowI z 1291 d) (hz : cw z 0 = C) (hd : ∀ v, v < 8 → 0 ≤ d v ∧ d v ≤ 1000000) : (lead C Y 16 d fr i → f132 0 i fr (d fr.toNat) z = some 1) ∧ (¬ lead C Y 16 d fr i → f132 0 i fr (d fr.toNat) z = some 0) := by
  have a1 := hC.2.2.2.1 i hi
  have a2 := hC.2.2.2.2.1 i hi hon.1
  have v1 : z 391 0 i = C 391 i := by rw [← hz, cw6 (by omega) (by omega) hi]
  have v2 : z 392 0 i = C 392 i := by rw [← hz, cw6 (by omega) (by omega) hi]
  have v3 : z 393 0 i = C 393 i := by rw [← hz, cw6 (by omega) (by omega) hi]
  obtain ⟨a, ha⟩ := Int.eq_ofNat_of_zero_le (show 0 ≤ C 391 i by omega)
  obtain ⟨b, hb⟩ := Int.eq_ofNat_of_zero_le (show 0 ≤ C 392 i by omega)
  have da := hd a (by omega)
  have db := hd b (by omega)
  have hst : f132 0 i fr (d fr.toNat) z = if ¬ (a : Int) = fr then (if ¬ (b : Int) = fr then some 0 else if ¬ d a + (16 * C 393 i + 1) = d fr.toNat then some 0 else some 1) else (if d b + (16 * C 393 i + 1) = d fr.toNat then some 1 else (if ¬ (b : Int) = fr then some 0 else if ¬ d a + (16 * C 393 i + 1) = d fr.toNat then some 0 else some 1)) := by
    unfold f132
    simp only [jn]
    rw [ld_t (by omega) (by omega), Int.toNat_natCast, v3, jmul_e (by omega) (by omega), jadd_e (by omega) (by omega), bnd, ld_t (by omega) (by omega), Int.toNat_natCast, v1, ha, ld_t (by omega) (by omega), Int.toNat_natCast, v2, hb, ld_t (by omega) (by omega), Int.toNat_natCast, v1, ha, m131 h (by omega), cP_s, jadd_e (by omega) (by omega), ld_t (by omega) (by omega), Int.toNat_natCast, v2, hb, m131 h (by omega), cP_s, jadd_e (by omega) (by omega)]
  have hl : lead C Y 16 d fr i ↔ ((a : Int) = fr ∧ d b + (16 * C 393 i + 1) = d fr.toNat) ∨ ((b : Int) = fr ∧ d a + (16 * C 393 i + 1) = d fr.toNat) := by
    unfold lead
    rw [ha, hb, Int.toNat_natCast, Int.toNat_natCast]
    exact ⟨fun q => q.2, fun q => ⟨hon, q⟩⟩
  rw [hst, hl]
  by_cases q1 : (a : Int) = fr <;> by_cases q2 : (b : Int) = fr <;> by_cases q3 : d b + (16 * C 393 i + 1) = d fr.toNat <;> by_cases q4 : d a + (16 * C 393 i + 1) = d fr.toNat <;> simp [q1, q2, q3, q4]
def leadD (C Y : V2) (k : Int) (d : Nat → Int) (fr : Int) (i : Nat) : Decidable (lead C Y k d fr i) := by
  unfold lead
  have := onD C Y i
  exact inferInstance
/-- the first of the lines from i on that leads on -/
def fsL (C Y : V2) (k : Int) (d : Nat → Int) (fr : Int) : Nat → Nat → Int
  | 0, _ => -1
  | n + 1, i => @ite _ (lead C Y k d fr i) (leadD C Y k d fr i) (i : Int) (fsL C Y k d fr n (i + 1))
theorem itr_now {α β : Type} {b : α → Option (α ⊕ β)} {a : α} {r : β} (h : b a = some (.inr r)) : itr b am_fu a = some r := by
  obtain ⟨r', h1, h2⟩ := itr_inv (b := b) (fun (_ : Nat) x => x = a) (fun z => z = r) 0 (fun i x _ hx => Or.inr ⟨r, by rw [hx]; exact h, rfl⟩) am_fu (fu_lt (by decide)) a rfl
  rw [h1, h2]
theorem c129d_s {C Y : V2} {z : S2} {d : Nat → Int} {fr to : Int} {j : Nat} (hC : CB C) (hj : j < 6) (hft : ¬ fr = to) (hz : cw z 0 = C) (q2 : z 514 0 j = Y 514 j) (h : rowI z 1291 d) (hd : ∀ v, v < 8 → 0 ≤ d v ∧ d v ≤ 1000000) : f129_d 0 0 fr to (d fr.toNat) j z = some (.inl ((j : Int) - 1, @ite _ (lead C Y 16 d fr j) (leadD C Y 16 d fr j) (st2 z 1282 0 0 j) z)) := by
  have q1 : z 388 0 0 = C 388 0 := by rw [← hz, cw0 (by omega) (by omega)]
  have ej : jadd (j : Int) (-1) = (j : Int) - 1 := by rw [jadd_e (by omega) (by omega)]; omega
  unfold f129_d
  rw [if_neg (by omega), if_neg hft]
  by_cases q : onL C Y j
  · have hon := q.1
    obtain ⟨k1, k2⟩ := c132 (fr := fr) hC hj q h hz hd
    rw [m50t (by omega), cP_s, if_neg ne10, ld_t (by omega) (by omega), Int.toNat_natCast, q2, if_neg (fun w => w q.2)]
    by_cases hl : lead C Y 16 d fr j
    · rw [k1 hl, cP_s, if_neg ne10, bnd, bnd, ej, if_pos hl]
    · rw [k2 hl, cP_s, if_pos rfl, bnd, ej, if_neg hl]
  · rw [if_neg (fun w => q w.1)]
    by_cases c : (j : Int) < C 388 0
    · have c2 : ¬ Y 514 j = 0 := fun w => q ⟨c, w⟩
      rw [m50t (by omega), cP_s, if_neg ne10, ld_t (by omega) (by omega), Int.toNat_natCast, q2, if_pos c2, bnd, ej]
    · rw [m50f (by omega), cP_s, if_pos rfl, bnd, ej]
theorem fsL_s {C Y : V2} {k : Int} {d : Nat → Int} {fr : Int} {n i : Nat} : fsL C Y k d fr (n + 1) i = @ite _ (lead C Y k d fr i) (leadD C Y k d fr i) (i : Int) (fsL C Y k d fr n (i + 1)) := rfl
theorem c129d {C Y : V2} {s : S2} {d : Nat → Int} {fr to : Int} (hC : CB C) (hs : cw s 0 = C) (hy : yv s 0 = Y) (h : rowI s 1291 d) (hd : ∀ v, v < 8 → 0 ≤ d v ∧ d v ≤ 1000000) (h0 : s 1282 0 0 = -1) : ∃ s', itr (fun (x41, s42) => f129_d 0 0 fr to (d fr.toNat) x41 s42) am_fu (5, s) = some s' ∧ s' 1282 0 0 = (if fr = to then -1 else fsL C Y 16 d fr 6 0) ∧ s' 1280 0 0 = s 1280 0 0 ∧ Fr pWc s s' := by
  by_cases hft : fr = to
  · refine ⟨s, itr_now ?_, by rw [if_pos hft]; exact h0, rfl, Fr.rf⟩
    show f129_d 0 0 fr to (d fr.toNat) 5 s = some (.inr s)
    unfold f129_d
    rw [if_neg (by decide), if_pos hft]
  · rw [if_neg hft]
    refine itr_inv (fun (i : Nat) (z : Int × S2) => z.1 = 5 - (i : Int) ∧ z.2 1282 0 0 = fsL C Y 16 d fr i (6 - i) ∧ z.2 1280 0 0 = s 1280 0 0 ∧ rowI z.2 1291 d ∧ Fr pWc s z.2) (fun (z : S2) => z 1282 0 0 = fsL C Y 16 d fr 6 0 ∧ z 1280 0 0 = s 1280 0 0 ∧ Fr pWc s z) 6 ?_ am_fu (fu_lt (by decide)) (5, s) ⟨rfl, h0, rfl, h, Fr.rf⟩
    rintro i ⟨x, z⟩ hi ⟨g1, g2, g3, g4, g5⟩
    dsimp only at g1 g2 g3 g4 g5 ⊢
    by_cases e : i = 6
    · subst e
      refine Or.inr ⟨z, ?_, g2, g3, g5⟩
      rw [g1]
      show f129_d 0 0 fr to (d fr.toNat) (5 - ((6 : Nat) : Int)) z = some (.inr z)
      unfold f129_d
      rw [if_pos (by decide)]
    · obtain ⟨j, hj⟩ : ∃ j, i + j = 5 := ⟨5 - i, by omega⟩
      have hx : x = (j : Int) := by omega
      have hx2 : 6 - i = j + 1 := by omega
      have hx3 : 6 - (i + 1) = j := by omega
      have hj6 : j < 6 := by omega
      have hx4 : (j : Int) - 1 = 5 - ((i + 1 : Nat) : Int) := by omega
      have hi6 : i < 6 := by omega
      have hz : cw z 0 = C := by rw [g5.cw fun f g1 g2 => pWc_f.mpr (by omega)]; exact hs
      have q2 : z 514 0 j = Y 514 j := by rw [g5 _ _ (pWc_f.mpr (by omega)), ← hy, yv514 hj6]
      have hstep := c129d_s (fr := fr) (to := to) hC hj6 hft hz q2 g4 hd
      rw [hx2] at g2
      rw [hx3, hx]
      clear g1 hx hi e hj
      by_cases hl : lead C Y 16 d fr j
      · rw [if_pos hl] at hstep
        refine Or.inl ⟨hi6, ((j : Int) - 1, st2 z 1282 0 0 j), hstep, hx4, ?_, ?_, fun v hv => ?_, g5.st rfl⟩
        · show st2 z 1282 0 0 j 1282 0 0 = fsL C Y 16 d fr (i + 1) j
          rw [fsL_s, if_pos hl, st2_eq]
        · show st2 z 1282 0 0 j 1280 0 0 = _
          rw [st2_ne (by decide)]; exact g3
        · show st2 z 1282 0 0 j 1291 0 v = _
          rw [st2_ne (Or.inl (by decide))]; exact g4 v hv
      · rw [if_neg hl] at hstep
        refine Or.inl ⟨hi6, ((j : Int) - 1, z), hstep, hx4, ?_, g3, g4, g5⟩
        show z 1282 0 0 = fsL C Y 16 d fr (i + 1) j
        rw [fsL_s, if_neg hl]
        exact g2
