theorem tL_bd {n p : Nat} {bs : Nat → Nat} (hp : p < n) : 1 ≤ tL n bs p ∧ p + tL n bs p ≤ n := by
  have h1 := run_bd (q := isD) (bs := bs) (show p ≤ n by omega)
  have h2 := run_bd (q := isLt) (bs := bs) (show p ≤ n by omega)
  unfold tL
  by_cases d : isD (bt n bs p) = true
  · rw [if_pos d]
    have := run_s (q := isD) (n := n) (bs := bs) (p := p) rfl d
    omega
  · rw [if_neg d]
    by_cases l : isLt (bt n bs p) = true
    · rw [if_pos l]
      have := run_s (q := isLt) (n := n) (bs := bs) (p := p) rfl l
      omega
    · rw [if_neg l]
      by_cases e : dbl n bs p = true
      · rw [if_pos e]
        have := (of_decide_eq_true e).2
        have := bt_lt (n := n) (bs := bs) (p := p + 1) (by omega)
        omega
      · rw [if_neg e]
        omega
theorem isB_32 {x : Int} (h : x = 32) : isB x = true := decide_eq_true h
theorem sk_b {n p : Nat} {bs : Nat → Nat} (h : bt n bs p = 32) : sk n bs (p + 1) = sk n bs p := by
  unfold sk
  rw [run_s (p := p) rfl (isB_32 h)]
  omega
theorem sk_n {n p : Nat} {bs : Nat → Nat} (h : bt n bs p ≠ 32) : sk n bs p = p := by
  unfold sk
  rw [run_z (decide_eq_false h)]
  rfl
theorem m22b {s : S2} {n : Nat} {bs : Nat → Nat} {p : Nat} (h : HC s bs n) (hn : n ≤ 400) (hp : p < n) (hb : bt n bs p = 32) : f22 p s = some (1, s) := by
  unfold f22
  rw [m23 h hn, if_pos hp, cP_s, if_neg (fun w => w (by rw [← bt_t (n := n) (bs := bs) hp]; exact hb))]
theorem m22 {s : S2} {n j : Nat} {bs : Nat → Nat} {p : Nat} (h : HC s bs n) (hn : n ≤ 400) (hp : p < n) (hj : s 133 0 0 = j) (hj4 : j ≤ 400) (hb : bt n bs p ≠ 32) : f22 p s = some ((tL n bs p : Int), tkS s j (tK n bs p) p (tV n bs p)) := by
  have e : bt n bs p = (bs p : Int) := bt_t hp
  unfold f22
  rw [m23 h hn, if_pos hp, cP_s, if_pos (by rw [← e]; exact hb)]
  unfold tL tK tV
  rw [if_neg (show ¬ n ≤ p by omega)]
  by_cases d : isD (bt n bs p) = true
  · rw [if_pos d, if_pos d, if_pos d, m24t (by rw [← e]; exact d), cP_s, if_neg ne10]
    unfold f25
    rw [m25a h hn (by omega), cP_s]
    show cR (cP (f26 2 p (nV n bs p) s) fun s16 => some ((run isD n bs p : Int), s16)) _ = _
    rw [m26 hj hj4, cP_s, cR_s]
  · rw [if_neg d, if_neg d, if_neg d, m24f (by rw [← e]; exact Bool.eq_false_iff.mpr d), cP_s, if_pos rfl]
    by_cases l : isLt (bt n bs p) = true
    · rw [if_pos l, if_pos l, m27t (by rw [← e]; exact l), cP_s, if_neg ne10]
      unfold f28
      rw [m28a h hn (by omega), cP_s, m29 h hn (by omega), cP_s, m26 hj hj4, cP_s, cR_s]
    · rw [if_neg l, if_neg l, m27f (by rw [← e]; exact Bool.eq_false_iff.mpr l), cP_s, if_pos rfl, m31 h hn hp hj hj4]
      by_cases q : dbl n bs p = true
      · rw [if_pos q, if_pos q, if_pos q, cR_s]
        rfl
      · rw [if_neg q, if_neg q, if_neg q, cR_s]
        rfl
/-- where the j-th token stands -/
def tq (n : Nat) (bs : Nat → Nat) : Nat → Nat
  | 0 => sk n bs 0
  | j + 1 => if n ≤ tq n bs j then tq n bs j else sk n bs (tq n bs j + tL n bs (tq n bs j))
def TKp (s : S2) (n : Nat) (bs : Nat → Nat) (m : Nat) : Prop := s 133 0 0 = m ∧ ∀ j, j < m → tq n bs j < n ∧ s 130 0 j = tK n bs (tq n bs j) ∧ s 131 0 j = tq n bs j ∧ s 132 0 j = tV n bs (tq n bs j)
def TK (s : S2) (n : Nat) (bs : Nat → Nat) (m : Nat) : Prop := m ≤ 400 ∧ s 133 0 0 = ((m + 1 : Nat) : Int) ∧ tq n bs m = n ∧ (∀ j, j < m → tq n bs j < n) ∧ ∀ j, j ≤ m → s 130 0 j = tK n bs (tq n bs j) ∧ s 131 0 j = tq n bs j ∧ s 132 0 j = tV n bs (tq n bs j)
def pTk (f i : Nat) : Bool := Nat.ble 130 f && Nat.ble f 135 && Nat.beq i 0
theorem pTk_f {f i : Nat} : pTk f i = false ↔ ¬ (130 ≤ f ∧ f ≤ 135 ∧ i = 0) := by
  rw [← Bool.not_eq_true]
  unfold pTk
  simp only [Bool.and_eq_true, Nat.beq_eq, Nat.ble_eq, and_assoc]
theorem tkS_fr {s s0 : S2} {j : Nat} {k p v : Int} (h : Fr pTk s0 s) : Fr pTk s0 (tkS s j k p v) := (((h.st rfl).st rfl).st rfl).st rfl
theorem tkS_p {s : S2} {n j : Nat} {bs : Nat → Nat} (h : TKp s n bs j) (hq : tq n bs j < n) : TKp (tkS s j (tK n bs (tq n bs j)) (tq n bs j) (tV n bs (tq n bs j))) n bs (j + 1) := by
  obtain ⟨h1, h2⟩ := h
  refine ⟨?_, fun i hi => ?_⟩
  · unfold tkS
    rw [st2_eq]
    rfl
  · unfold tkS
    by_cases e : i = j
    · subst e
      refine ⟨hq, ?_, ?_, ?_⟩
      · rw [st2_ne (by omega), st2_ne (by omega), st2_ne (by omega), st2_eq]
      · rw [st2_ne (by omega), st2_ne (by omega), st2_eq]
      · rw [st2_ne (by omega), st2_eq]
    · obtain ⟨a1, a2, a3, a4⟩ := h2 i (by omega)
      refine ⟨a1, ?_, ?_, ?_⟩
      · rw [st2_ne (by omega), st2_ne (by omega), st2_ne (by omega), st2_ne (by omega)]; exact a2
      · rw [st2_ne (by omega), st2_ne (by omega), st2_ne (by omega), st2_ne (by omega)]; exact a3
      · rw [st2_ne (by omega), st2_ne (by omega), st2_ne (by omega), st2_ne (by omega)]; exact a4
theorem m21 {s : S2} {n : Nat} {bs : Nat → Nat} (h : HC s bs n) (hn : n ≤ 400) : ∃ s' m, f21 s = some s' ∧ TK s' n bs m ∧ s' 134 0 0 = 0 ∧ s' 135 0 0 = 0 ∧ Fr pTk s s' := by
  unfold f21
  simp only [bnd]
  generalize hz : st2 (st2 (st2 s 133 0 0 0) 134 0 0 0) 135 0 0 0 = z
  have z3 : z 133 0 0 = ((0 : Nat) : Int) := by rw [← hz, st2_ne (by omega), st2_ne (by omega), st2_eq]; rfl
  have z4 : z 134 0 0 = 0 := by rw [← hz, st2_ne (by omega), st2_eq]
  have z5 : z 135 0 0 = 0 := by rw [← hz, st2_eq]
  have fz : Fr pTk s z := by
    rw [← hz]
    exact ((Fr.rf.st rfl).st rfl).st rfl
  refine inv_cP (a := ((0 : Int), (0 : Int), z)) (P := fun e => ∃ s' m, e = some s' ∧ TK s' n bs m ∧ s' 134 0 0 = 0 ∧ s' 135 0 0 = 0 ∧ Fr pTk s s') (fun (i : Nat) (y : Int × Int × S2) => ∃ p j : Nat, y.1 = p ∧ y.2.1 = i ∧ p ≤ n ∧ i ≤ p ∧ j ≤ p ∧ tq n bs j = sk n bs p ∧ TKp y.2.2 n bs j ∧ y.2.2 134 0 0 = 0 ∧ y.2.2 135 0 0 = 0 ∧ Fr pTk s y.2.2) (fun (y : S2) => ∃ j : Nat, j ≤ n ∧ tq n bs j = n ∧ TKp y n bs j ∧ y 134 0 0 = 0 ∧ y 135 0 0 = 0 ∧ Fr pTk s y) 400 (by decide) ⟨0, 0, rfl, rfl, by omega, by omega, by omega, rfl, ⟨z3, fun j hj => absurd hj (by omega)⟩, z4, z5, fz⟩ ?_ ?_
  · rintro i ⟨x, w, y⟩ hi ⟨p, j, g1, g2, g3, g4, g5, g6, g7, g8, g9, g10⟩
    dsimp only at g1 g2 g7 g8 g9 g10 ⊢
    subst g1 g2
    have hy : HC y bs n := h.fr g10 (pTk_f.mpr (by omega)) (pTk_f.mpr (by omega))
    by_cases e : p < n
    · refine Or.inl ⟨by omega, ?_⟩
      have st0 : f21_a p i y = cR (f22 p y) fun r8 s9 => some (.inl (jadd p r8, jadd i 1, s9)) := by
        unfold f21_a
        rw [if_neg (by omega), hy.1, bnd, if_neg (by omega)]
        rfl
      by_cases b : bt n bs p = 32
      · refine ⟨(((p + 1 : Nat) : Int), ((i + 1 : Nat) : Int), y), ?_, p + 1, j, rfl, rfl, by omega, by omega, by omega, by rw [sk_b b]; exact g6, g7, g8, g9, g10⟩
        show f21_a p i y = _
        rw [st0, m22b hy hn e b, cR_s, jadd_e (by omega) (by omega), jadd_e (by omega) (by omega)]
        rfl
      · obtain ⟨t1, t2⟩ := tL_bd (bs := bs) e
        have hq : tq n bs j = p := by rw [g6, sk_n b]
        have hp := tkS_p g7 (by omega)
        rw [hq] at hp
        refine ⟨(((p + tL n bs p : Nat) : Int), ((i + 1 : Nat) : Int), tkS y j (tK n bs p) p (tV n bs p)), ?_, p + tL n bs p, j + 1, rfl, rfl, t2, by omega, by omega, ?_, hp, ?_, ?_, tkS_fr g10⟩
        · show f21_a p i y = _
          rw [st0, m22 hy hn e g7.1 (by omega) b, cR_s, jadd_e (by omega) (by omega), jadd_e (by omega) (by omega)]
          rfl
        · show (if n ≤ tq n bs j then _ else _) = _
          rw [if_neg (by omega), hq]
        · show tkS y j (tK n bs p) p (tV n bs p) 134 0 0 = 0
          unfold tkS
          rw [st2_ne (by omega), st2_ne (by omega), st2_ne (by omega), st2_ne (by omega)]
          exact g8
        · show tkS y j (tK n bs p) p (tV n bs p) 135 0 0 = 0
          unfold tkS
          rw [st2_ne (by omega), st2_ne (by omega), st2_ne (by omega), st2_ne (by omega)]
          exact g9
    · have ep : p = n := by omega
      subst ep
      refine Or.inr ⟨y, ?_, j, g5, by rw [g6, sk_n (by rw [bt_o (by omega)]; decide)], g7, g8, g9, g10⟩
      show f21_a p i y = _
      unfold f21_a
      by_cases q : (400 : Int) ≤ i
      · rw [if_pos q]
      · rw [if_neg q, hy.1, bnd, if_pos (by omega)]
  · rintro y ⟨j, g1, g2, g3, g4, g5, g6⟩
    have hy : HC y bs n := h.fr g6 (pTk_f.mpr (by omega)) (pTk_f.mpr (by omega))
    refine ⟨tkS y j 0 n 0, j, ?_, ⟨by omega, ?_, g2, fun i hi => (g3.2 i hi).1, fun i hi => ?_⟩, ?_, ?_, tkS_fr g6⟩
    · rw [hy.1, m26 g3.1 (by omega), cP_s]
    · unfold tkS
      rw [st2_eq]
      rfl
    · unfold tkS
      by_cases e : i = j
      · subst e
        rw [g2, st2_ne (f' := 130) (by omega), st2_ne (f' := 130) (by omega), st2_ne (f' := 130) (by omega), st2_eq, st2_ne (f' := 131) (by omega), st2_ne (f' := 131) (by omega), st2_eq, st2_ne (f' := 132) (by omega), st2_eq]
        refine ⟨?_, rfl, ?_⟩
        · unfold tK
          rw [if_pos (by omega)]
        · unfold tV
          rw [bt_o (by omega)]
          rfl
      · obtain ⟨a1, a2, a3, a4⟩ := g3.2 i (by omega)
        refine ⟨?_, ?_, ?_⟩
        · rw [st2_ne (by omega), st2_ne (by omega), st2_ne (by omega), st2_ne (by omega)]; exact a2
        · rw [st2_ne (by omega), st2_ne (by omega), st2_ne (by omega), st2_ne (by omega)]; exact a3
        · rw [st2_ne (by omega), st2_ne (by omega), st2_ne (by omega), st2_ne (by omega)]; exact a4
    · unfold tkS
      rw [st2_ne (by omega), st2_ne (by omega), st2_ne (by omega), st2_ne (by omega)]
      exact g4
    · unfold tkS
      rw [st2_ne (by omega), st2_ne (by omega), st2_ne (by omega), st2_ne (by omega)]
      exact g5
