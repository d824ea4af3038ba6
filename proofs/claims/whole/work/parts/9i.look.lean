/-! LOOK -/
theorem rank_cnt {z : S2} {fit : Nat → Bool} {hl : Nat → Nat → Int} {n l : Nat} {fam : Int} (h : rowsK z fit hl n) (hl6 : l < 6) : ∀ {i : Nat}, i ≤ n → cntB (cntB i fit).toNat (fun c => decide (z 3000 c l = fam)) = cntB i (fun j => fit j && decide (hl j l = fam))
  | 0, _ => rfl
  | i + 1, hi => by
    have ih := rank_cnt (fam := fam) h hl6 (i := i) (by omega)
    have hb := cntB_bd (p := fit) (n := i)
    rw [cntB_s, cntB_s (p := fun j => fit j && decide (hl j l = fam))]
    cases hf : fit i with
    | false =>
      rw [if_neg (by decide), ih, Bool.false_and, if_neg (by decide)]
    | true =>
      have hrow := h i (by omega) hf l hl6
      rw [if_pos rfl, show (cntB i fit + 1).toNat = (cntB i fit).toNat + 1 by omega, cntB_s, ih, hrow, Bool.true_and]
/-- how many of those that fit are alike -/
def alK (fit : Nat → Bool) (hl : Nat → Nat → Int) (n l k : Nat) : Int := cntB n (fun j => fit j && decide (hl j l = (k : Int) - 1))
def moK (fit : Nat → Bool) (hl : Nat → Nat → Int) (n l : Nat) : Int := maxN 5 (alK fit hl n l)
theorem alK_bd {fit : Nat → Bool} {hl : Nat → Nat → Int} {n l k : Nat} : 0 ≤ alK fit hl n l k ∧ alK fit hl n l k ≤ n := cntB_bd
theorem maxN_s {f : Nat → Int} {n : Nat} : maxN (n + 1) f = if maxN n f < f n then f n else maxN n f := rfl
theorem m145 {z : S2} {fit : Nat → Bool} {hl : Nat → Nat → Int} {n l : Nat} (h : rowsK z fit hl n) (hn : n ≤ 7) (hc : z 1408 0 0 = cntB n fit) (hl6 : l < 6) : f145 l z = some (moK fit hl n l) := by
  have hb := cntB_bd (p := fit) (n := n)
  unfold f145
  refine seq_cP (fun i => (maxN i (alK fit hl n l), (i : Int) - 1)) 5 _ rfl (by decide) ?_ rfl rfl
  intro i hi
  have hin : cP (itr (fun (x8, x9) => f145_b l ((i : Int) - 1) x8 x9 z) am_fu (0, 0)) (fun z20 => bnd (jmax (maxN i (alK fit hl n l)) z20) fun v21 => bnd (jadd ((i : Int) - 1) 1) fun v22 => (some (.inl (v21, v22)) : Option ((Int × Int) ⊕ Int))) = some (.inl (maxN (i + 1) (alK fit hl n l), ((i + 1 : Nat) : Int) - 1)) := by
    refine seq_cP (fun c => (cntB c (fun c => decide (z 3000 c l = (i : Int) - 1)), (c : Int))) (cntB n fit).toNat (alK fit hl n l i) rfl (by omega) ?_ ?_ ?_
    · intro c hc'
      have hcb := cntB_bd (p := fun c => decide (z 3000 c l = (i : Int) - 1)) (n := c)
      have ec : jadd (c : Int) 1 = ((c + 1 : Nat) : Int) := by rw [jadd_e (by omega) (by omega)]; rfl
      have en : jadd (cntB c (fun c => decide (z 3000 c l = (i : Int) - 1))) 1 = cntB c (fun c => decide (z 3000 c l = (i : Int) - 1)) + 1 := jadd_e (by omega) (by omega)
      show f145_b l _ _ _ z = _
      unfold f145_b
      rw [bnd, hc, if_neg (by omega), if_neg (show ¬ (6 : Int) < c by omega), if_neg (show ¬ (l : Int) < 0 by omega), if_neg (show ¬ (6 : Int) ≤ l by omega), ldr_t (by omega) (by omega), ld_t (by omega) (by omega), Int.toNat_natCast, Int.toNat_natCast, cntB_s]
      simp only [bnd, ec, en]
      by_cases q : z 3000 c l = (i : Int) - 1
      · rw [if_neg (fun w => w q), if_pos (decide_eq_true q)]
      · rw [if_pos q, if_neg (by rw [decide_eq_false q]; decide)]
    · show f145_b l _ _ _ z = _
      unfold f145_b
      rw [bnd, hc, if_pos (by omega)]
      show some (Sum.inr (cntB (cntB n fit).toNat (fun c => decide (z 3000 c l = (i : Int) - 1)))) = _
      rw [rank_cnt h hl6 (Nat.le_refl n)]
      rfl
    · rw [bnd, bnd, jadd_e (by omega) (by omega), jmax_e, maxN_s, show (i : Int) - 1 + 1 = ((i + 1 : Nat) : Int) - 1 by omega]
  show f145_a l _ _ z = _
  unfold f145_a
  rw [if_neg (by omega)]
  exact hin
def blN (mo : Nat → Int) : Nat → Nat
  | 0 => 0
  | n + 1 => if n = 0 then 0 else if mo n < mo (blN mo n) then n else blN mo n
theorem blN_s {mo : Nat → Int} {n : Nat} : blN mo (n + 1) = if n = 0 then 0 else if mo n < mo (blN mo n) then n else blN mo n := rfl
theorem blN_lt {mo : Nat → Int} : ∀ {n : Nat}, 1 ≤ n → blN mo n < n
  | 0, h => by omega
  | n + 1, h => by
    rw [blN_s]
    split
    · omega
    · have := blN_lt (mo := mo) (n := n) (by omega)
      split <;> omega
theorem m144 {z : S2} {C : V2} {fit : Nat → Bool} {hl : Nat → Nat → Int} {n L : Nat} (h : rowsK z fit hl n) (hn : n ≤ 7) (hc : z 1408 0 0 = cntB n fit) (hz : z 388 0 0 = L) (hL : 1 ≤ L ∧ L ≤ 6) : f144 0 z = some (blN (moK fit hl n) L : Int) := by
  unfold f144
  refine seq_cP (fun i => ((blN (moK fit hl n) (i + 1) : Int), ((i + 1 : Nat) : Int))) (L - 1) (blN (moK fit hl n) L : Int) rfl (by omega) ?_ ?_ rfl
  · intro i hi
    have hb := blN_lt (mo := moK fit hl n) (n := i + 1) (by omega)
    have ej : jadd ((i + 1 : Nat) : Int) 1 = ((i + 1 + 1 : Nat) : Int) := by rw [jadd_e (by omega) (by omega)]; rfl
    show f144_a 0 _ _ z = _
    unfold f144_a
    rw [bnd, hz, if_neg (by omega), m145 h hn hc (show i + 1 < 6 by omega), cP_s, m145 h hn hc (show blN (moK fit hl n) (i + 1) < 6 by omega), cP_s, blN_s (n := i + 1), if_neg (show ¬ i + 1 = 0 by omega)]
    simp only [bnd, ej]
    by_cases q : moK fit hl n (i + 1) < moK fit hl n (blN (moK fit hl n) (i + 1))
    · rw [if_neg (by omega), if_pos q]
    · rw [if_pos (by omega), if_neg q]
  · show f144_a 0 _ _ z = _
    unfold f144_a
    rw [bnd, hz, if_pos (by omega), show L - 1 + 1 = L by omega]
theorem heldK_bd {C B : V2} {K : Nat → List Int} {hr i l : Nat} (hC : CB C) (hB : YB C B) (hB0 : B 512 0 = 0) (hh : hr ≤ 60) (hl : l < 6) : -1 ≤ heldK C B K hr i l ∧ heldK C B K hr i l ≤ 3 := by
  have := (passN_YB (code := lawK K ((i : Int) - 1)) (n := hr + 1) hC hB (by omega)).2.2.2.1 l hl
  have hcc := hC.1
  unfold heldK
  omega
/-- the model's table of those alike -/
def tabK (z : S2) (fit : Nat → Bool) (hl : Nat → Nat → Int) (n L : Nat) : Prop := ∀ l k, l < L → k < 5 → z 1605 0 (5 * l + k) = alK fit hl n l k
theorem c262c {z : S2} {C : V2} {fit : Nat → Bool} {hl : Nat → Nat → Int} {i L : Nat} (hL : C 388 0 = L) (hL6 : L ≤ 6) (h3 : z 1537 0 3 = C 388 0) (hi : i ≤ 7) (hf : fit i = true) (hsh : ∀ l : Nat, (l : Int) < C 388 0 → z 1604 0 l = hl i l) (hhb : ∀ l, l < 6 → -1 ≤ hl i l ∧ hl i l ≤ 3) (hT : tabK z fit hl i L) : ∃ z', itr (fun (x26, s27) => f262_c x26 s27) am_fu (0, z) = some z' ∧ tabK z' fit hl (i + 1) L ∧ Fr (pF1 1605) z z' := by
  refine itr_inv (fun (m : Nat) (w : Int × S2) => w.1 = m ∧ (∀ l k, l < L → k < 5 → w.2 1605 0 (5 * l + k) = if l < m then alK fit hl (i + 1) l k else alK fit hl i l k) ∧ Fr (pF1 1605) z w.2) (fun (w : S2) => tabK w fit hl (i + 1) L ∧ Fr (pF1 1605) z w) L ?_ am_fu (fu_lt (by omega)) (0, z) ⟨rfl, fun l k h1 h2 => by rw [if_neg (by omega)]; exact hT l k h1 h2, Fr.rf⟩
  rintro m ⟨x, w⟩ hm ⟨g1, g2, g3⟩
  dsimp only at g1 g2 g3 ⊢
  subst g1
  have w3 : w 1537 0 3 = L := by rw [g3 _ _ (pF1_f.mpr (by omega)), h3, hL]
  by_cases e : m = L
  · subst e
    refine Or.inr ⟨w, ?_, fun l k h1 h2 => by rw [g2 l k h1 h2, if_pos h1], g3⟩
    show f262_c m w = _
    unfold f262_c
    rw [ld_t (by omega) (by omega), show w 1537 0 (Int.toNat 3) = m from w3, if_pos (by omega)]
  · have hmL : m < L := by omega
    obtain ⟨b1, b2⟩ := hhb m (by omega)
    obtain ⟨k0, hk0⟩ := Int.eq_ofNat_of_zero_le (show 0 ≤ hl i m + 1 by omega)
    have w4 : w 1604 0 m = hl i m := by rw [g3 _ _ (pF1_f.mpr (by omega))]; exact hsh m (by omega)
    have hk5 : k0 < 5 := by omega
    have ei : jadd (jadd (jmul 5 (m : Int)) (hl i m)) 1 = ((5 * m + k0 : Nat) : Int) := by
      rw [jmul_e (by omega) (by omega), jadd_e (x := 5 * (m : Int)) (by omega) (by omega), jadd_e (by omega) (by omega)]
      omega
    have hab := alK_bd (fit := fit) (hl := hl) (n := i) (l := m) (k := k0)
    have w5 : w 1605 0 (5 * m + k0) = alK fit hl i m k0 := by rw [g2 m k0 hmL hk5, if_neg (by omega)]
    have hst : ∀ k, alK fit hl (i + 1) m k = if k = k0 then alK fit hl i m k + 1 else alK fit hl i m k := fun k => by
      unfold alK
      rw [cntB_s, hf, Bool.true_and]
      by_cases q : k = k0
      · rw [if_pos (decide_eq_true (by omega)), if_pos q]
      · rw [if_neg (by rw [decide_eq_false (by omega)]; decide), if_neg q]
    have ej : jadd (m : Int) 1 = ((m + 1 : Nat) : Int) := by rw [jadd_e (by omega) (by omega)]; rfl
    have ea : jadd (alK fit hl i m k0) 1 = alK fit hl i m k0 + 1 := jadd_e (by omega) (by omega)
    refine Or.inl ⟨hmL, (((m + 1 : Nat) : Int), st2 w 1605 0 (5 * m + k0) (alK fit hl i m k0 + 1)), ?_, rfl, fun l k h1 h2 => ?_, g3.st pF1_t⟩
    · show f262_c m w = _
      unfold f262_c
      rw [ld_t (by omega) (by omega), show w 1537 0 (Int.toNat 3) = L from w3, if_neg (by omega), ld_t (by omega) (by omega), Int.toNat_natCast, w4, ei, ld_t (by omega) (by omega), Int.toNat_natCast, w5, ea, sto_t (by omega) (by omega), Int.toNat_natCast, bnd, ej]
    · show st2 w 1605 0 (5 * m + k0) _ 1605 0 (5 * l + k) = _
      by_cases q : l = m
      · subst q
        rw [if_pos (by omega), hst]
        by_cases q2 : k = k0
        · subst q2
          rw [st2_eq, if_pos rfl]
        · rw [st2_ne (by omega), g2 l k h1 h2, if_neg (by omega), if_neg q2]
      · rw [st2_ne (by omega), g2 l k h1 h2]
        by_cases q2 : l < m
        · rw [if_pos q2, if_pos (by omega)]
        · rw [if_neg q2, if_neg (by omega)]
