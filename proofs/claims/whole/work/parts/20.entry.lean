/-! THE LAW'S ENTRY: what the Statement gives there -/
def am_tmk (i : Nat) : Term := .string (am_txo i) (am_txi i)
abbrev am_giv : Cond := Jvm.Cond.and given_1 narrow_1
def am_fl0 : List Cond := flatC am_giv
theorem am_g_ex : ∀ i, i < 23 → Cond.exactly (am_tmk i) "java/lang/String" ∈ am_fl0 := by decide +kernel
theorem am_g_co : ∀ i, i < 23 → Cond.eq (.field (am_tmk i) "java/lang/String" "coder" "B") (.int 0) ∈ am_fl0 := by decide +kernel
theorem am_g_ar : ∀ i, i < 23 → Cond.arrayOf (.field (am_tmk i) "java/lang/String" "value" "[B") .byte ∈ am_fl0 := by decide +kernel
theorem am_g_le : ∀ i, i < 23 → Cond.eq (.length (.field (am_tmk i) "java/lang/String" "value" "[B")) (.int (Int32.ofNat (am_txl.getD i 0))) ∈ am_fl0 := by decide +kernel
/-- a list's rows among another's, in the same order: one pass -/
def am_subl : List Cond → List Cond → Bool
  | [], _ => true
  | _ :: _, [] => false
  | a :: r, b :: t => if a = b then am_subl r t else am_subl (a :: r) t
theorem am_subl_mem : ∀ {l m : List Cond}, am_subl l m = true → ∀ x ∈ l, x ∈ m
  | [], _, _, x, hx => by cases hx
  | a :: r, [], h, _, _ => by cases h
  | a :: r, b :: t, h, x, hx => by
    unfold am_subl at h
    by_cases e : a = b
    · rw [if_pos e] at h
      rcases List.mem_cons.mp hx with q | q
      · rw [q, e]; exact List.mem_cons_self
      · exact List.mem_cons_of_mem _ (am_subl_mem h x q)
    · rw [if_neg e] at h
      exact List.mem_cons_of_mem _ (am_subl_mem h x hx)
def am_elO : List (Nat × Nat) := [(0, 0), (0, 1), (0, 2), (0, 3), (0, 4), (0, 5), (0, 6), (0, 7), (0, 8), (0, 9), (0, 10), (0, 11), (0, 12), (0, 13), (0, 14), (0, 15), (0, 16), (0, 17), (0, 18), (0, 19), (0, 20), (0, 21), (0, 22), (0, 23), (0, 24), (0, 25), (0, 26), (0, 27), (0, 28), (0, 29), (0, 30), (0, 31), (0, 32), (0, 33), (0, 34), (0, 35), (0, 36), (0, 37), (0, 38), (0, 39), (0, 40), (0, 41), (0, 42), (0, 43), (0, 44), (0, 45), (0, 46), (0, 47), (0, 48), (0, 49), (0, 50), (0, 51), (0, 52), (0, 53), (0, 54), (0, 55), (0, 56), (0, 57), (0, 58), (0, 59), (0, 60), (0, 61), (0, 62), (0, 63), (0, 64), (0, 65), (0, 66), (0, 67), (0, 68), (0, 69), (0, 70), (0, 71), (0, 72), (0, 73), (0, 74), (0, 75), (0, 76), (0, 77), (0, 78), (0, 79), (0, 80), (0, 81), (0, 82), (0, 83), (0, 84), (0, 85), (0, 86), (0, 87), (0, 88), (0, 89), (0, 90), (0, 91), (0, 92), (0, 93), (0, 94), (0, 95), (0, 96), (0, 97), (0, 98), (0, 99), (0, 100), (0, 101), (0, 102), (0, 103), (0, 104), (0, 105), (0, 106), (0, 107), (0, 108), (1, 0), (1, 1), (1, 2), (1, 3), (1, 4), (1, 5), (1, 6), (1, 7), (1, 8), (1, 9), (1, 10), (2, 0), (2, 1), (2, 2), (2, 3), (2, 4), (3, 0), (3, 1), (3, 2), (3, 3), (3, 4), (3, 5), (4, 0), (4, 1), (4, 2), (4, 3), (4, 4), (5, 0), (5, 1), (5, 2), (5, 3), (6, 0), (6, 1), (6, 2), (6, 3), (7, 0), (7, 1), (7, 2), (7, 3), (8, 0), (8, 1), (8, 2), (8, 3), (8, 4), (9, 0), (9, 1), (9, 2), (9, 3), (9, 4), (9, 5), (10, 0), (10, 1), (10, 2), (10, 3), (10, 4), (11, 0), (11, 1), (11, 2), (12, 0), (12, 1), (12, 2), (12, 3), (12, 4), (12, 5), (12, 6), (13, 0), (13, 1), (13, 2), (14, 0), (14, 1), (14, 2), (14, 3), (14, 4), (14, 5), (15, 0), (15, 1), (15, 2), (15, 3), (16, 0), (16, 1), (16, 2), (16, 3), (17, 0), (17, 1), (17, 2), (18, 0), (18, 1), (18, 2), (18, 3), (19, 0), (19, 1), (20, 0), (20, 1), (20, 2), (21, 0), (21, 1), (21, 2), (22, 0), (22, 1)]
def am_neO : List (Nat × Nat) := [(0, 1), (0, 2), (1, 2), (0, 3), (1, 3), (2, 3), (0, 4), (1, 4), (2, 4), (3, 4), (0, 5), (1, 5), (2, 5), (3, 5), (4, 5), (0, 6), (1, 6), (2, 6), (3, 6), (4, 6), (5, 6), (0, 7), (1, 7), (2, 7), (3, 7), (4, 7), (5, 7), (6, 7), (0, 8), (1, 8), (2, 8), (3, 8), (4, 8), (5, 8), (6, 8), (7, 8), (0, 9), (1, 9), (2, 9), (3, 9), (4, 9), (5, 9), (6, 9), (7, 9), (8, 9), (0, 10), (1, 10), (2, 10), (3, 10), (4, 10), (5, 10), (6, 10), (7, 10), (8, 10), (9, 10), (0, 11), (1, 11), (2, 11), (3, 11), (4, 11), (5, 11), (6, 11), (7, 11), (8, 11), (9, 11), (10, 11), (0, 12), (1, 12), (2, 12), (3, 12), (4, 12), (5, 12), (6, 12), (7, 12), (8, 12), (9, 12), (10, 12), (11, 12), (0, 13), (1, 13), (2, 13), (3, 13), (4, 13), (5, 13), (6, 13), (7, 13), (8, 13), (9, 13), (10, 13), (11, 13), (12, 13), (0, 14), (1, 14), (2, 14), (3, 14), (4, 14), (5, 14), (6, 14), (7, 14), (8, 14), (9, 14), (10, 14), (11, 14), (12, 14), (13, 14), (0, 15), (1, 15), (2, 15), (3, 15), (4, 15), (5, 15), (6, 15), (7, 15), (8, 15), (9, 15), (10, 15), (11, 15), (12, 15), (13, 15), (14, 15), (0, 16), (1, 16), (2, 16), (3, 16), (4, 16), (5, 16), (6, 16), (7, 16), (8, 16), (9, 16), (10, 16), (11, 16), (12, 16), (13, 16), (14, 16), (15, 16), (0, 17), (1, 17), (2, 17), (3, 17), (4, 17), (5, 17), (6, 17), (7, 17), (8, 17), (9, 17), (10, 17), (11, 17), (12, 17), (13, 17), (14, 17), (15, 17), (16, 17), (0, 18), (1, 18), (2, 18), (3, 18), (4, 18), (5, 18), (6, 18), (7, 18), (8, 18), (9, 18), (10, 18), (11, 18), (12, 18), (13, 18), (14, 18), (15, 18), (16, 18), (17, 18), (0, 19), (1, 19), (2, 19), (3, 19), (4, 19), (5, 19), (6, 19), (7, 19), (8, 19), (9, 19), (10, 19), (11, 19), (12, 19), (13, 19), (14, 19), (15, 19), (16, 19), (17, 19), (18, 19), (0, 20), (1, 20), (2, 20), (3, 20), (4, 20), (5, 20), (6, 20), (7, 20), (8, 20), (9, 20), (10, 20), (11, 20), (12, 20), (13, 20), (14, 20), (15, 20), (16, 20), (17, 20), (18, 20), (19, 20), (0, 21), (1, 21), (2, 21), (3, 21), (4, 21), (5, 21), (6, 21), (7, 21), (8, 21), (9, 21), (10, 21), (11, 21), (12, 21), (13, 21), (14, 21), (15, 21), (16, 21), (17, 21), (18, 21), (19, 21), (20, 21), (0, 22), (1, 22), (2, 22), (3, 22), (4, 22), (5, 22), (6, 22), (7, 22), (8, 22), (9, 22), (10, 22), (11, 22), (12, 22), (13, 22), (14, 22), (15, 22), (16, 22), (17, 22), (18, 22), (19, 22), (20, 22), (21, 22)]
theorem am_elS : am_subl (am_elO.map fun q => Cond.eq (.elem (.field (am_tmk q.1) "java/lang/String" "value" "[B") (.int (Int32.ofNat q.2))) (.int ((am_txb.getD q.1 []).getD q.2 0))) am_fl0 = true := by decide +kernel
theorem am_neS : am_subl (am_neO.map fun q => Cond.not (Cond.eq (am_tmk q.1) (am_tmk q.2))) am_fl0 = true := by decide +kernel
theorem am_elM : ∀ i, i < 23 → ∀ j, j < am_txl.getD i 0 → (i, j) ∈ am_elO := by decide +kernel
theorem am_neM : ∀ i, i < 23 → ∀ j, j < 23 → i = j ∨ (i, j) ∈ am_neO ∨ (j, i) ∈ am_neO := by decide +kernel
theorem am_g_el (i : Nat) (hi : i < 23) (j : Nat) (hj : j < am_txl.getD i 0) : Cond.eq (.elem (.field (am_tmk i) "java/lang/String" "value" "[B") (.int (Int32.ofNat j))) (.int ((am_txb.getD i []).getD j 0)) ∈ am_fl0 :=
  am_subl_mem am_elS _ (List.mem_map.mpr ⟨(i, j), am_elM i hi j hj, rfl⟩)
theorem am_g_ne (i : Nat) (hi : i < 23) (j : Nat) (hj : j < 23) (hij : i ≠ j) : Cond.not (Cond.eq (am_tmk i) (am_tmk j)) ∈ am_fl0 ∨ Cond.not (Cond.eq (am_tmk j) (am_tmk i)) ∈ am_fl0 :=
  ((am_neM i hi j hj).resolve_left hij).imp (fun h => am_subl_mem am_neS _ (List.mem_map.mpr ⟨(i, j), h, rfl⟩)) (fun h => am_subl_mem am_neS _ (List.mem_map.mpr ⟨(j, i), h, rfl⟩))
theorem am_g_cs : Cond.eq (.static "java/lang/String" "COMPACT_STRINGS" "Z") (.int 1) ∈ am_fl0 := by decide +kernel
theorem am_g_si : Cond.isRef (.static "jdk/internal/util/Preconditions" "SIOOBE_FORMATTER" "Ljava/util/function/BiFunction;") ∈ am_fl0 := by decide +kernel
theorem am_w_cs : Cond.laysStatic "java/lang/String" "COMPACT_STRINGS" "Z" ∈ lw_tbl := by decide +kernel
theorem am_w_si : Cond.laysStatic "jdk/internal/util/Preconditions" "SIOOBE_FORMATTER" "Ljava/util/function/BiFunction;" ∈ lw_tbl := by decide +kernel
theorem am_w_i1 : Cond.initialized "java/lang/String" ∈ lw_tbl := by decide +kernel
theorem am_w_i2 : Cond.initialized "jdk/internal/util/Preconditions" ∈ lw_tbl := by decide +kernel
theorem am_w_sr : ∀ i, i < 23 → Cond.stringRef (am_txo i) (am_txi i) (am_tx.getD i "") ∈ lw_tbl := by decide +kernel
theorem am_w_nw : ∀ w ∈ am_nw, w ∈ lw_tbl := by decide +kernel
theorem am_w_ao : ∀ C ∈ am_ao, Cond.arrayOver (.object C) ∈ lw_tbl := by decide +kernel
theorem am_w_aoa : Cond.arrayOver (.array .int) ∈ lw_tbl := by decide +kernel
theorem am_w_in : ∀ c, c < 13 → Cond.instantiable (am_cl.getD c am_dq).1 (am_cl.getD c am_dq).2.2 ∈ lw_tbl := by decide +kernel
theorem am_pick {P : Nat → Nat → Prop} {N : Nat} (h : ∀ i, i < N → ∃ a, P i a) : ∃ f : Nat → Nat, ∀ i, i < N → P i (f i) := by
  have h2 : ∀ i, ∃ a, i < N → P i a := fun i => by
    by_cases hi : i < N
    · obtain ⟨a, ha⟩ := h i hi
      exact ⟨a, fun _ => ha⟩
    · exact ⟨0, fun q => absurd q hi⟩
  exact ⟨fun i => Classical.choose (h2 i), fun i hi => Classical.choose_spec (h2 i) hi⟩
theorem am_prim {s : State} {args : Array Value} {ty : FieldType} (hp : ty.isReference = false) (h : (Cond.arrayClass ty).before args s = true) : ∃ cA : ClassId, ArrOfT s cA ty ∧ va_RA s cA ty := by
  obtain ⟨c, k, comp, h1, h2, h3⟩ := Cond.arrayClass_spec h
  refine ⟨c, fun N z => ⟨(fun k' hk' => by cases hk'), k, h2, comp, h3⟩, ?_⟩
  cases ty with
  | object C => cases hp
  | _ => exact h1
/-- the classes, as the tables have them -/
theorem am_D {s : State} {args : Array Value} (hts : ∀ w ∈ lw_tbl, w.before args s = true) : ∃ D : va_G, ∀ (c : Nat) (q : vw_C), am_cl[c]? = some q → u_Kn s q.1 q.2.1 q.2.2 (D.1 c) (D.2 c) := by
  have h : ∀ c : Nat, ∃ z : ClassId × (Nat → Nat), ∀ q : vw_C, am_cl[c]? = some q → u_Kn s q.1 q.2.1 q.2.2 z.1 z.2 := fun c => by
    cases hq : am_cl[c]? with
    | none => exact ⟨(0, fun _ => 0), fun q h => by cases h⟩
    | some q =>
      have hlt := am_cl_lt hq
      have hin := hts _ (am_w_in c hlt)
      rw [List.getD_eq_getElem?_getD, hq, Option.getD_some] at hin
      obtain ⟨cC, iS, hK⟩ := u_known (C := q.1) (T := q.2.1) (N := q.2.2) (n := q.2.2) (ws := am_gw) (fun w hw => hts w (List.mem_filter.mp hw).1) (am_cl_ok hq).1 hin
      exact ⟨(cC, iS), fun q' h => by cases h; exact hK⟩
  exact ⟨(fun c => (Classical.choose (h c)).1, fun c => (Classical.choose (h c)).2), fun c q hq => Classical.choose_spec (h c) q hq⟩
/-- the rows' classes -/
theorem am_dA {s : State} {args : Array Value} (hts : ∀ w ∈ lw_tbl, w.before args s = true) : ∃ dA : Nat → ClassId, ∀ (k : Nat) (q : ClassId × FieldType), (am_tys dA)[k]? = some q → ArrOfT s q.1 q.2 ∧ va_RA s q.1 q.2 := by
  have g : ∀ {w : Cond}, w ∈ am_gw → w.before args s = true := fun hw => hts _ (List.mem_filter.mp hw).1
  obtain ⟨c0, a0⟩ := am_prim rfl (g am_arr_int)
  obtain ⟨c1, a1⟩ := am_prim rfl (g am_arr_byte)
  obtain ⟨c2, a2⟩ := am_prim rfl (g am_arr_bool)
  obtain ⟨c3, a3⟩ := am_prim rfl (g am_arr_long)
  have ob : ∀ C ∈ am_ao, ∃ cA : ClassId, ArrOfT s cA (.object C) ∧ va_RA s cA (.object C) := fun C hC => by
    obtain ⟨comp, c, k, h1, h2, h3, h4, h5⟩ := Cond.arrayOver_spec (hts _ (am_w_ao C hC))
    exact ⟨c, fun N z => ⟨(fun k' hk' => by cases hk'), k, h3, comp, h4⟩, k, comp, h3, h4, h1, h5⟩
  obtain ⟨c4, a4⟩ := ob "WashingLines$Yard" (by decide)
  obtain ⟨c5, a5⟩ := ob "WashingLines$Law" (by decide)
  obtain ⟨c6, a6⟩ := ob "WashingLines$World" (by decide)
  obtain ⟨c7, a7⟩ : ∃ cA : ClassId, ArrOfT s cA (.array .int) ∧ va_RA s cA (.array .int) := by
    obtain ⟨comp, c, k, h1, h2, h3, h4, h5⟩ := arrayOver_specB (hts _ am_w_aoa)
    exact ⟨c, fun N z => ⟨(fun k' hk' => by cases hk'), k, h3, comp, h4⟩, h5⟩
  refine ⟨fun t => if t = 0 then c0 else if t = 1 then c1 else if t = 2 then c2 else if t = 3 then c3 else if t = 104 then c4 else if t = 106 then c5 else if t = 108 then c6 else c7, fun k q hq => ?_⟩
  match k, hq with
  | 0, hq => cases hq; exact a0
  | 1, hq => cases hq; exact a1
  | 2, hq => cases hq; exact a2
  | 3, hq => cases hq; exact a3
  | 4, hq => cases hq; exact a4
  | 5, hq => cases hq; exact a5
  | 6, hq => cases hq; exact a6
  | 7, hq => cases hq; exact a7
  | n + 8, hq => simp [am_tys] at hq
theorem am_isref {args : Array Value} {s : State} {t : Term} (h : (Cond.isRef t).before args s = true) : t.eval args s none [] s = some .null ∨ ∃ a, t.eval args s none [] s = some (.ref a) := by
  cases he : t.eval args s none [] s with
  | none => simp [Cond.before, Cond.holds, Cond.value, he] at h
  | some v =>
    cases v with
    | ref a => exact Or.inr ⟨a, rfl⟩
    | null => exact Or.inl rfl
    | _ => simp [Cond.before, Cond.holds, Cond.value, he, Value.isRef] at h
/-- all that stands round the cells, at the law's entry -/
theorem am_E0 {s : State} {b L : Nat} {xs : Nat → Int32} (hts : ∀ w ∈ lw_tbl, w.before #[Value.ref b] s = true) (hL : L ≤ 3072) (hX : va_X b L xs s s.heap) (hbl : b < s.heap.size) (hgv : am_giv.before #[Value.ref b] s = true) :
    ∃ (D : va_G) (dA : Nat → ClassId) (B : Nat → Nat) (xs' : Nat → Int32), B 0 = b ∧ (∀ j, j < L → xs' j = xs j) ∧ am_E D dA B L xs' (fun q => s.heap.size ≤ q) s s.heap := by
  obtain ⟨D, hD⟩ := am_D hts
  obtain ⟨dA, hdA⟩ := am_dA hts
  have hq := flat_of_before _ hgv
  have hA : ∀ a : Nat, a < s.heap.size → ¬ (fun q : Nat => s.heap.size ≤ q) a := fun a h1 h2 => Nat.not_le.mpr h1 h2
  obtain ⟨adK, adV, hS, hev⟩ := vk_Sof (args := #[Value.ref b]) (s := s) (N := 23) (tm := am_tmk) (len := am_txl) (byt := am_txb) (A := fun q => s.heap.size ≤ q) (by decide +kernel) (fun i hi => hq _ (am_g_ex i hi)) (fun i hi => hq _ (am_g_co i hi)) (fun i hi => hq _ (am_g_ar i hi)) (fun i hi => hq _ (am_g_le i hi)) (fun i hi j hj => hq _ (am_g_el i hi j hj)) (fun i j hi hj hij => (am_g_ne i hi j hj hij).imp (fun h => hq _ h) (fun h => hq _ h)) hA
  obtain ⟨aS, fS, hSv⟩ : ∃ (aS : Nat) (fS : Int32), (fS = 0 ∧ va_Z "jdk/internal/util/Preconditions" "SIOOBE_FORMATTER" "Ljava/util/function/BiFunction;" .null (fun q => s.heap.size ≤ q) s s.heap) ∨ (¬ fS = 0 ∧ va_Z "jdk/internal/util/Preconditions" "SIOOBE_FORMATTER" "Ljava/util/function/BiFunction;" (.ref aS) (fun q => s.heap.size ≤ q) s s.heap) := by
    rcases am_isref (hq _ am_g_si) with h | ⟨a, h⟩
    · exact ⟨0, 0, Or.inl ⟨rfl, va_Zof (hts _ am_w_si) (hts _ am_w_i2) h hA⟩⟩
    · exact ⟨a, 1, Or.inr ⟨by decide, va_Zof (hts _ am_w_si) (hts _ am_w_i2) h hA⟩⟩
  have hX' : va_X b L (fun j => if j = 1000000 then fS else xs j) s s.heap := by
    obtain ⟨scr, x1, x2, x3, x4, x5⟩ := hX
    exact ⟨scr, x1, x2, x3, x4, fun j hj => by
      show _ = some (Value.int (if j = 1000000 then fS else xs j))
      rw [if_neg (by omega)]
      exact x5 j hj⟩
  refine ⟨D, dA, fun j => if j = 0 then b else if j = 5000 then aS else if j < 1001 then adK (j - 1) else adV (j - 1001), fun j => if j = 1000000 then fS else xs j, rfl, fun j hj => if_neg (by omega), ⟨⟨hD, hdA⟩, fun w hw => ?_, fun C hC => hts _ (am_w_ao C hC), hts _ am_w_aoa, fun j hj => ?_⟩, ⟨hX', hbl, fun h => Nat.not_le.mpr hbl h⟩, ?_, ?_, ?_⟩
  · obtain ⟨a, i, c, h, rfl⟩ := am_nw_nest w hw
    exact va_Nw.of rfl (hts _ (am_w_nw _ hw))
  · have e1 : (if j + 1 = 0 then b else if j + 1 = 5000 then aS else if j + 1 < 1001 then adK (j + 1 - 1) else adV (j + 1 - 1001)) = adK j := by
      rw [if_neg (by omega), if_neg (by omega), if_pos (by omega), Nat.add_sub_cancel]
    show vk_R _ _ _ (if j + 1 = 0 then b else if j + 1 = 5000 then aS else if j + 1 < 1001 then adK (j + 1 - 1) else adV (j + 1 - 1001)) s
    rw [e1]
    exact vk_R.of (hts _ (am_w_sr j hj)) (hev j hj)
  · have hB1 : ∀ i, i < 23 → (if i + 1 = 0 then b else if i + 1 = 5000 then aS else if i + 1 < 1001 then adK (i + 1 - 1) else adV (i + 1 - 1001)) = adK i := fun i hi => by
      rw [if_neg (by omega), if_neg (by omega), if_pos (by omega), Nat.add_sub_cancel]
    have hB2 : ∀ i, i < 23 → (if 1001 + i = 0 then b else if 1001 + i = 5000 then aS else if 1001 + i < 1001 then adK (1001 + i - 1) else adV (1001 + i - 1001)) = adV i := fun i hi => by
      rw [if_neg (by omega), if_neg (by omega), if_neg (by omega), Nat.add_sub_cancel_left]
    refine ⟨fun i hi => ?_, fun i j hi hj hij => ?_⟩
    · have h1 := hS.1 i hi
      simp only [hB1 i hi, hB2 i hi]
      exact h1
    · simp only [hB1 i hi, hB1 j hj] at hij
      exact hS.2 i j hi hj hij
  · exact va_Zof (hts _ am_w_cs) (hts _ am_w_i1) (va_eqi (hq _ am_g_cs)) hA
  · exact hSv
