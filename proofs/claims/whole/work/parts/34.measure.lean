theorem jn_P {α β : Type} {r : α} {b : α → β} {P : β → Prop} (R : α → Prop) (hr : R r) (hb : ∀ j, R j → P (b j)) : P (jn r b) := hb r hr
theorem cel_bd {C Y : V2} {f l : Int} {n : Nat} (hn : n ≤ 10) (hC : ∀ i, i < 10 → -1 ≤ C 396 i ∧ C 396 i ≤ 4) : -10 ≤ cel n C Y f l ∧ cel n C Y f l ≤ 40 := by
  have := sumI_bd (f := fun i => if Y 515 i = l ∧ C 395 i = f then C 396 i else 0) (a := -1) (b := 4) (n := n) (fun j hj => by have := hC j (by omega); grind)
  unfold cel; omega
theorem dmp_bd {C Y : V2} {f l : Int} {n : Nat} (hn : n ≤ 10) (hC : ∀ i, i < 10 → -1 ≤ C 396 i ∧ C 396 i ≤ 4) : -10 ≤ dmp n C Y f l ∧ dmp n C Y f l ≤ 40 := by
  have := sumI_bd (f := fun i => if Y 515 i = l ∧ C 395 i = f then (if 0 < Y 516 i then C 396 i else 0) else 0) (a := -1) (b := 4) (n := n) (fun j hj => by have := hC j (by omega); grind)
  unfold dmp; omega
theorem wns_bd {C Y : V2} {f l : Int} {n : Nat} (hn : n ≤ 10) (hY : ∀ i, i < 10 → 0 ≤ Y 516 i ∧ Y 516 i ≤ 20) : 0 ≤ wns n C Y f l ∧ wns n C Y f l ≤ 200 := by
  have := sumI_bd (f := fun i => if Y 515 i = l ∧ C 395 i = f then Y 516 i else 0) (a := 0) (b := 20) (n := n) (fun j hj => by have := hY j (by omega); grind)
  unfold wns; omega
theorem lcl_bd {C Y : V2} {l : Int} {n : Nat} (hn : n ≤ 10) (hC : ∀ i, i < 10 → -1 ≤ C 396 i ∧ C 396 i ≤ 4) : -10 ≤ lcl n C Y l ∧ lcl n C Y l ≤ 40 := by
  have := sumI_bd (f := fun i => if Y 515 i = l then C 396 i else 0) (a := -1) (b := 4) (n := n) (fun j hj => by have := hC j (by omega); grind)
  unfold lcl; omega
theorem wst_bd {C Y : V2} {f l : Int} {n : Nat} (hn : n ≤ 10) (hY : ∀ i, i < 10 → 0 ≤ Y 516 i ∧ Y 516 i ≤ 20) : 0 ≤ wst n C Y f l ∧ wst n C Y f l ≤ 20 :=
  maxN_bd (by omega) (fun j hj => by have := hY j (by omega); grind)
theorem jmax_e {x y : Int} : jmax x y = if x < y then y else x := rfl
theorem m80 {a len wet : Int} {s : S2} (h0 : 0 ≤ a) (h1 : a < 24) (hl : -1 ≤ len ∧ len ≤ 4) (hw : 0 ≤ wet ∧ wet ≤ 20) (b1 : -1000 ≤ s 1156 0 a.toNat ∧ s 1156 0 a.toNat ≤ 1000) (b2 : -1000 ≤ s 1157 0 a.toNat ∧ s 1157 0 a.toNat ≤ 1000) (b4 : -1000 ≤ s 1159 0 a.toNat ∧ s 1159 0 a.toNat ≤ 1000) : f80 a len wet s = some (st2 (st2 (st2 (st2 s 1156 0 a.toNat (s 1156 0 a.toNat + len)) 1157 0 a.toNat (s 1157 0 a.toNat + if 0 < wet then len else 0)) 1158 0 a.toNat (if s 1158 0 a.toNat < wet then wet else s 1158 0 a.toNat)) 1159 0 a.toNat (s 1159 0 a.toNat + wet)) := by
  unfold f80
  by_cases h : wet ≤ 0
  · simp (disch := omega) only [st2_d, jmax_e, and_self, and_true, true_and, not_true_eq_false, not_false_eq_true, reduceIte, bnd, jn, se, cP_s, cR_s, if_pos, if_neg, gd_t, ld_t, ldr_t, sto_t, jadd_e, jsub_e, Int.toNat_natCast]
  · simp (disch := omega) only [st2_d, jmax_e, and_self, and_true, true_and, not_true_eq_false, not_false_eq_true, reduceIte, bnd, jn, se, cP_s, cR_s, if_pos, if_neg, gd_t, ld_t, ldr_t, sto_t, jadd_e, jsub_e, Int.toNat_natCast]
def pM (f i : Nat) : Bool := Nat.ble 1155 f && Nat.ble f 1160 && Nat.beq i 0
theorem pM_f {f i : Nat} : pM f i = false ↔ ¬ (1155 ≤ f ∧ f ≤ 1160 ∧ i = 0) := by
  unfold pM
  rw [← Bool.not_eq_true, Bool.and_eq_true, Bool.and_eq_true, Nat.ble_eq, Nat.ble_eq, Nat.beq_eq]
  grind
theorem CB.len {C : V2} (h : CB C) : ∀ i, i < 10 → -1 ≤ C 396 i ∧ C 396 i ≤ 4 := fun i hi => ⟨(h.2.1 i hi).2.2.1, (h.2.1 i hi).2.2.2.1⟩
/-- one piece more -/
theorem Ms_step {C Y : V2} {s : S2} {i : Nat} {on fam : Nat} (hi : i < 10) (hon : Y 515 i = on) (hfam : C 395 i = fam) (h1 : on < 6) (h2 : fam < 4) (hM : Ms i C Y s) : Ms (i + 1) C Y (st2 (st2 (st2 (st2 (st2 s 1156 0 (6 * fam + on) (s 1156 0 (6 * fam + on) + C 396 i)) 1157 0 (6 * fam + on) (s 1157 0 (6 * fam + on) + if 0 < Y 516 i then C 396 i else 0)) 1158 0 (6 * fam + on) (if s 1158 0 (6 * fam + on) < Y 516 i then Y 516 i else s 1158 0 (6 * fam + on))) 1159 0 (6 * fam + on) (s 1159 0 (6 * fam + on) + Y 516 i)) 1160 0 on (s 1160 0 on + C 396 i)) := by
  obtain ⟨m1, m2⟩ := hM
  refine ⟨fun f l hf hl => ?_, fun l hl => ?_⟩
  · obtain ⟨a1, a2, a3, a4⟩ := m1 f l hf hl
    have w0 : 0 ≤ wst i C Y f l := by
      unfold wst
      have : ∀ k g, 0 ≤ maxN k g := fun k g => by
        induction k with
        | zero => exact Int.le_refl 0
        | succ k ih => unfold maxN; split <;> omega
      exact this _ _
    by_cases e : f = fam ∧ l = on
    · obtain ⟨rfl, rfl⟩ := e
      refine ⟨?_, ?_, ?_, ?_⟩
      · simp only [st2_d, cel, sumI_s, hon, hfam]
        simp [a1, cel]
      · simp only [st2_d, dmp, sumI_s, hon, hfam]
        simp [a2, dmp]
      · simp only [st2_d, wst, maxN, hon, hfam]
        simp [a3, wst]
      · simp only [st2_d, wns, sumI_s, hon, hfam]
        simp [a4, wns]
    · have e1 : ¬ (6 * f + l = 6 * fam + on) := by omega
      have e2 : ¬ ((on : Int) = l ∧ (fam : Int) = f) := by omega
      refine ⟨?_, ?_, ?_, ?_⟩
      · simp only [st2_d, cel, sumI_s, hon, hfam]
        simp [a1, cel, e1, e2]
      · simp only [st2_d, dmp, sumI_s, hon, hfam]
        simp [a2, dmp, e1, e2]
      · simp only [st2_d, wst, maxN, hon, hfam]
        simp [a3, wst, e1, e2]
        intro h
        unfold wst at w0
        omega
      · simp only [st2_d, wns, sumI_s, hon, hfam]
        simp [a4, wns, e1, e2]
  · have a5 := m2 l hl
    by_cases e : l = on
    · subst e
      simp only [st2_d, lcl, sumI_s, hon]
      simp [a5, lcl]
    · have e2 : ¬ ((on : Int) = l) := by omega
      simp only [st2_d, lcl, sumI_s, hon]
      simp [a5, lcl, e, e2]
theorem Ms_skip {C Y : V2} {s : S2} {i : Nat} (hon : Y 515 i = -1) (hM : Ms i C Y s) : Ms (i + 1) C Y s := by
  obtain ⟨m1, m2⟩ := hM
  refine ⟨fun f l hf hl => ?_, fun l hl => ?_⟩
  · obtain ⟨a1, a2, a3, a4⟩ := m1 f l hf hl
    have e2 : ¬ ((-1 : Int) = l ∧ C 395 i = f) := by omega
    have w0 : 0 ≤ wst i C Y f l := by
      unfold wst
      have : ∀ k g, 0 ≤ maxN k g := fun k g => by
        induction k with
        | zero => exact Int.le_refl 0
        | succ k ih => unfold maxN; split <;> omega
      exact this _ _
    refine ⟨?_, ?_, ?_, ?_⟩
    · simp only [cel, sumI_s, hon]
      simp [a1, cel, e2]
    · simp only [dmp, sumI_s, hon]
      simp [a2, dmp, e2]
    · simp only [wst, maxN, hon]
      simp [a3, wst, e2]
      intro h
      unfold wst at w0
      omega
    · simp only [wns, sumI_s, hon]
      simp [a4, wns, e2]
  · have a5 := m2 l hl
    have e2 : ¬ ((-1 : Int) = l) := by omega
    simp only [lcl, sumI_s, hon]
    simp [a5, lcl, e2]
theorem m78a {β : Type} {k : S2 → Option β} {s : S2} : cP (itr (fun (x3, s4) => f78_a x3 s4) am_fu (0, s)) k = k (iterS (fun i s => st2 (st2 (st2 (st2 s 1156 0 i 0) 1157 0 i 0) 1158 0 i 0) 1159 0 i 0) 24 s) := by
  refine fill_cP 24 _ s (by decide) ?_ ?_
  · intro i s hi
    show f78_a _ _ = _
    simp (disch := omega) only [f78_a, and_self, and_true, true_and, not_true_eq_false, not_false_eq_true, reduceIte, bnd, jn, se, cP_s, cR_s, if_pos, if_neg, gd_t, ld_t, ldr_t, sto_t, jadd_e, jsub_e, Int.toNat_natCast]
    rfl
  · intro s
    rfl
theorem m78c {s : S2} : ∀ (n f' i' k' : Nat), iterS (fun i s => st2 (st2 (st2 (st2 s 1156 0 i 0) 1157 0 i 0) 1158 0 i 0) 1159 0 i 0) n s f' i' k' = if 1156 ≤ f' ∧ f' ≤ 1159 ∧ i' = 0 ∧ k' < n then 0 else s f' i' k'
  | 0, f', i', k' => by rw [if_neg (by omega)]; rfl
  | n + 1, f', i', k' => by
    show st2 (st2 (st2 (st2 (iterS _ n s) 1156 0 n 0) 1157 0 n 0) 1158 0 n 0) 1159 0 n 0 f' i' k' = _
    rw [st2_d, st2_d, st2_d, st2_d, m78c n f' i' k']
    grind
theorem m78b {β : Type} {k : S2 → Option β} {s : S2} : cP (itr (fun (x11, s12) => f78_b x11 s12) am_fu (0, s)) k = k (iterS (fun i s => st2 s 1160 0 i 0) 6 s) := by
  refine fill_cP 6 _ s (by decide) ?_ ?_
  · intro i s hi
    show f78_b _ _ = _
    simp (disch := omega) only [f78_b, and_self, and_true, true_and, not_true_eq_false, not_false_eq_true, reduceIte, bnd, jn, se, cP_s, cR_s, if_pos, if_neg, gd_t, ld_t, ldr_t, sto_t, jadd_e, jsub_e, Int.toNat_natCast]
    rfl
  · intro s
    rfl
theorem m78 {d : Int} {c : Nat} {s : S2} (hc : s 1153 0 0 = c) (hC : CB (cw s c)) (hY : YB (cw s c) (yv s 160)) : ∃ s', f78 d s = some s' ∧ s' 1155 0 0 = (if ¬ d = 0 ∨ rainB (cw s c) (s 512 160 0) = true then 1 else 0) ∧ Ms 10 (cw s c) (yv s 160) s' ∧ Fr pM s s' := by
  unfold f78
  refine jn_P (P := fun e => ∃ s', e = some s' ∧ s' 1155 0 0 = (if ¬ d = 0 ∨ rainB (cw s c) (s 512 160 0) = true then 1 else 0) ∧ Ms 10 (cw s c) (yv s 160) s' ∧ Fr pM s s') (fun (j : Int → Option S2) => ∀ x, (x = 0 ∨ x = 1) → ∃ s', j x = some s' ∧ s' 1155 0 0 = x ∧ Ms 10 (cw s c) (yv s 160) s' ∧ Fr pM s s') ?_ ?_
  · intro x hx
    rw [gd_t hx, bnd, m78a, m78b]
    have H : ∀ S : S2, S 1155 0 0 = x → Ms 0 (cw s c) (yv s 160) S → Fr pM s S → ∃ s', cP (itr (fun (x16, s17) => f78_c x16 s17) am_fu (0, S)) (fun s36 => some s36) = some s' ∧ s' 1155 0 0 = x ∧ Ms 10 (cw s c) (yv s 160) s' ∧ Fr pM s s' := by
      intro S h1 h2 h3
      refine inv_cP (a := (0, S)) (P := fun e => ∃ s', e = some s' ∧ s' 1155 0 0 = x ∧ Ms 10 (cw s c) (yv s 160) s' ∧ Fr pM s s') (fun (i : Nat) (z : Int × S2) => z.1 = i ∧ z.2 1155 0 0 = x ∧ Ms i (cw s c) (yv s 160) z.2 ∧ Fr pM s z.2) (fun (z : S2) => z 1155 0 0 = x ∧ Ms 10 (cw s c) (yv s 160) z ∧ Fr pM s z) 10 (by decide) ⟨rfl, h1, h2, h3⟩ ?_ ?_
      · rintro i ⟨y, z⟩ hi ⟨rfl, g1, g2, g3⟩
        dsimp only at g1 g2 g3 ⊢
        by_cases e : i = 10
        · subst e
          exact Or.inr ⟨z, rfl, g1, g2, g3⟩
        · refine Or.inl ⟨by omega, ?_⟩
          have q1 : z 515 160 i = yv s 160 515 i := by rw [g3 515 160 rfl, yv515 (by omega)]
          have q2 : z 1153 0 0 = c := by rw [g3 1153 0 rfl, hc]
          have q3 : z 395 c i = cw s c 395 i := by rw [g3 395 c (by unfold pM; rfl), cw10 (by omega) (by omega) (by omega)]
          have q4 : z 396 c i = cw s c 396 i := by rw [g3 396 c (by unfold pM; rfl), cw10 (by omega) (by omega) (by omega)]
          have q5 : z 516 160 i = yv s 160 516 i := by rw [g3 516 160 rfl, yv516 (by omega)]
          have q6 : z 388 c 0 = cw s c 388 0 := by rw [g3 388 c (by unfold pM; rfl), cw0 (by omega) (by omega)]
          have q7 : z 387 c 0 = cw s c 387 0 := by rw [g3 387 c (by unfold pM; rfl), cw0 (by omega) (by omega)]
          have hl := hC.len i (by omega)
          have hw := hY.2.1 i (by omega)
          have hcc := hC.1
          rcases hY.1 i (by omega) with h | ⟨ha, hb, hd⟩
          · refine ⟨(((i + 1 : Nat) : Int), z), ?_, rfl, g1, Ms_skip h g2, g3⟩
            show f78_c i z = _
            rw [h] at q1
            simp (disch := omega) only [f78_c, q1, q2, m50, q6, and_self, and_true, true_and, not_true_eq_false, not_false_eq_true, reduceIte, bnd, jn, se, cP_s, cR_s, if_pos, if_neg, gd_t, ld_t, ldr_t, sto_t, jadd_e, jsub_e, Int.toNat_natCast]
            rfl
          · obtain ⟨on, hon⟩ := Int.eq_ofNat_of_zero_le ha
            obtain ⟨f1, f2, -, -⟩ := hC.2.2.1 i (by omega) hd
            obtain ⟨fam, hfam⟩ := Int.eq_ofNat_of_zero_le f1
            have hon6 : on < 6 := by omega
            have hfam4 : fam < 4 := by omega
            obtain ⟨a1, a2, a3, a4⟩ := g2.1 fam on hfam4 hon6
            have a5 := g2.2 on hon6
            have b1 := cel_bd (C := cw s c) (Y := yv s 160) (f := fam) (l := on) (n := i) (by omega) hC.len
            have b2 := dmp_bd (C := cw s c) (Y := yv s 160) (f := fam) (l := on) (n := i) (by omega) hC.len
            have b4 := wns_bd (C := cw s c) (Y := yv s 160) (f := fam) (l := on) (n := i) (by omega) hY.2.1
            have b5 := lcl_bd (C := cw s c) (Y := yv s 160) (l := on) (n := i) (by omega) hC.len
            have ea : jadd (jmul (fam : Int) 6) on = ((6 * fam + on : Nat) : Int) := by
              rw [jmul_e (by omega) (by omega), jadd_e (by omega) (by omega)]; omega
            obtain ⟨S', hS', hms⟩ : ∃ S', S' = _ ∧ Ms (i + 1) (cw s c) (yv s 160) S' := ⟨_, rfl, Ms_step (by omega) hon hfam hon6 hfam4 g2⟩
            refine ⟨(((i + 1 : Nat) : Int), S'), ?_, rfl, ?_, hms, ?_⟩
            · show f78_c i z = _
              rw [hon] at q1
              rw [hfam] at q3
              have e80 := m80 (a := ((6 * fam + on : Nat) : Int)) (len := cw s c 396 i) (wet := yv s 160 516 i) (s := z) (by omega) (by omega) hl hw (by rw [Int.toNat_natCast]; omega) (by rw [Int.toNat_natCast]; omega) (by rw [Int.toNat_natCast]; omega)
              simp only [Int.toNat_natCast] at e80
              simp (disch := omega) only [f78_c, q1, q2, q3, q4, q5, q6, q7, m50, m51, hon, hfam, ea, e80, and_self, and_true, true_and, not_true_eq_false, not_false_eq_true, reduceIte, bnd, jn, se, cP_s, cR_s, if_pos, if_neg, gd_t, ld_t, ldr_t, sto_t, jadd_e, jsub_e, Int.toNat_natCast]
              simp [st2_d, q2, q4, hS', a5]
              rw [jadd_e (by omega) (by omega)]
            · rw [hS']
              simp only [st2_d]
              simp [g1]
            · rw [hS']
              exact ((((g3.st rfl).st rfl).st rfl).st rfl).st rfl
      · rintro z ⟨g1, g2, g3⟩
        exact ⟨z, rfl, g1, g2, g3⟩
    refine H _ ?_ ⟨fun f l hf hl => ?_, fun l hl => ?_⟩ (fun f i h => ?_)
    · rw [fill1, m78c, st2_d]
      simp
    · refine ⟨?_, ?_, ?_, ?_⟩ <;> rw [fill1, m78c] <;> simp [cel, dmp, wst, wns, sumI, maxN] <;> omega
    · rw [fill1]
      simp [lcl, sumI, hl]
    · have h := pM_f.mp h
      funext k
      rw [fill1, m78c, st2_d]
      grind
  · intro j hj
    have hj1 := hj 1 (Or.inr rfl)
    have hj0 := hj 0 (Or.inl rfl)
    by_cases hd : d = 0
    · have hr := m79 (c := c) (h := s 512 160 0) (s := s)
      simp only [jn, hd, bnd, hc, Int.toNat_natCast, hr, cP_s]
      cases hR : rainB (cw s c) (s 512 160 0) with
      | true => simpa using hj1
      | false => simpa using hj0
    · simpa [jn, hd] using hj1
