/-- what a word stands for -/
def vls (C Y : V2) (rain : Int) (f l : Nat) (w : Int) : Int :=
  if w = 256 then f else if w = 257 then l else if w = 258 then C 393 l else if w = 259 then cel 10 C Y f l else if w = 260 then dmp 10 C Y f l else if w = 261 then wst 10 C Y f l else if w = 262 then wns 10 C Y f l else if w = 263 then lcl 10 C Y l - cel 10 C Y f l else if w = 264 then (if Y 513 l = f then 1 else 0) else if w = 265 then ji2l (Y 517 f) else if w = 266 then Y 518 f else if w = 267 then Y 512 0 else if w = 268 then (if rain = 0 then 0 else 1) else 0
/-- measured: ready to be asked -/
def Rd (s : S2) (c : Nat) (C Y : V2) (rain : Int) : Prop := s 1153 0 0 = c ∧ cw s c = C ∧ yv s 160 = Y ∧ Ms 10 C Y s ∧ s 1155 0 0 = rain
theorem Ms.fr {n : Nat} {C Y : V2} {s s' : S2} (h : Ms n C Y s) (e : ∀ f, 1156 ≤ f → f ≤ 1160 → s' f 0 = s f 0) : Ms n C Y s' := by
  refine ⟨fun f l hf hl => ?_, fun l hl => ?_⟩
  · rw [e 1156 (by omega) (by omega), e 1157 (by omega) (by omega), e 1158 (by omega) (by omega), e 1159 (by omega) (by omega)]
    exact h.1 f l hf hl
  · rw [e 1160 (by omega) (by omega)]
    exact h.2 l hl
def pQ (r : Nat) (f i : Nat) : Bool := (Nat.beq f 770 || Nat.beq f 771) && Nat.beq i r
theorem pQ_f {r f i : Nat} : pQ r f i = false ↔ ¬ ((f = 770 ∨ f = 771) ∧ i = r) := by
  unfold pQ
  rw [← Bool.not_eq_true, Bool.and_eq_true, Bool.or_eq_true, Nat.beq_eq, Nat.beq_eq, Nat.beq_eq]
theorem Rd.fr {s s' : S2} {c r : Nat} {C Y : V2} {rain : Int} (h : Rd s c C Y rain) (e : Fr (pQ r) s s') : Rd s' c C Y rain := by
  obtain ⟨h1, h2, h3, h4, h5⟩ := h
  refine ⟨?_, ?_, ?_, h4.fr fun f h1 h2 => e f 0 (pQ_f.mpr (by omega)), ?_⟩
  · rw [e 1153 0 (pQ_f.mpr (by omega))]; exact h1
  · rw [e.cw fun f h1 h2 => pQ_f.mpr (by omega)]; exact h2
  · rw [e.yv fun f h1 h2 => pQ_f.mpr (by omega)]; exact h3
  · rw [e 1155 0 (pQ_f.mpr (by omega))]; exact h5
theorem m84 {s : S2} {c : Nat} {C Y : V2} {rain : Int} {f l : Nat} {w : Int} (h : Rd s c C Y rain) (hC : CB C) (hY : YB C Y) (hf : f < 4) (hl : l < 6) : f84 w f l s = some (vls C Y rain f l w) := by
  obtain ⟨h1, h2, h3, h4, h5⟩ := h
  obtain ⟨a1, a2, a3, a4⟩ := h4.1 f l hf hl
  have a5 := h4.2 l hl
  have b1 := cel_bd (C := C) (Y := Y) (f := f) (l := l) (n := 10) (by omega) hC.len
  have b2 := dmp_bd (C := C) (Y := Y) (f := f) (l := l) (n := 10) (by omega) hC.len
  have b3 := wst_bd (C := C) (Y := Y) (f := f) (l := l) (n := 10) (by omega) hY.2.1
  have b4 := wns_bd (C := C) (Y := Y) (f := f) (l := l) (n := 10) (by omega) hY.2.1
  have b5 := lcl_bd (C := C) (Y := Y) (l := l) (n := 10) (by omega) hC.len
  have ea : jadd (jmul (f : Int) 6) l = ((6 * f + l : Nat) : Int) := by
    rw [jmul_e (by omega) (by omega), jadd_e (by omega) (by omega)]; omega
  have e1 : s 393 c l = C 393 l := by rw [← h2, cw6 (by omega) (by omega) hl]
  have e2 : s 513 160 l = Y 513 l := by rw [← h3, yv513 hl]
  have e3 : s 517 160 f = Y 517 f := by rw [← h3, yv517 hf]
  have e4 : s 518 160 f = Y 518 f := by rw [← h3, yv518 hf]
  have e5 : s 512 160 0 = Y 512 0 := by rw [← h3, yv512]
  have b6 := (hC.2.2.2.1 l hl).2.2.2.2
  have b7 := hY.2.2.2.2.1
  have b8 := hY.2.2.2.2.2 f hf
  unfold f84 vls
  rw [if_neg (by omega), if_neg (by omega), if_neg (by omega), if_pos (by omega), ea]
  simp only [bnd]
  by_cases g0 : w = 256
  · subst g0
    simp (disch := omega) only [reduceIte, Int.reduceEq, Nat.reduceEqDiff, if_pos, if_neg, ld_t, Int.toNat_natCast, h1, e1, e2, e3, e4, e5, h5, a1, a2, a3, a4, a5, ji2l_e, jsub_e]
    try (split <;> simp_all)
  rw [if_neg g0, if_neg g0]
  by_cases g1 : w = 257
  · subst g1
    simp (disch := omega) only [reduceIte, Int.reduceEq, Nat.reduceEqDiff, if_pos, if_neg, ld_t, Int.toNat_natCast, h1, e1, e2, e3, e4, e5, h5, a1, a2, a3, a4, a5, ji2l_e, jsub_e]
    try (split <;> simp_all)
  rw [if_neg g1, if_neg g1]
  by_cases g2 : w = 258
  · subst g2
    simp (disch := omega) only [reduceIte, Int.reduceEq, Nat.reduceEqDiff, if_pos, if_neg, ld_t, Int.toNat_natCast, h1, e1, e2, e3, e4, e5, h5, a1, a2, a3, a4, a5, ji2l_e, jsub_e]
    try (split <;> simp_all)
  rw [if_neg g2, if_neg g2]
  by_cases g3 : w = 259
  · subst g3
    simp (disch := omega) only [reduceIte, Int.reduceEq, Nat.reduceEqDiff, if_pos, if_neg, ld_t, Int.toNat_natCast, h1, e1, e2, e3, e4, e5, h5, a1, a2, a3, a4, a5, ji2l_e, jsub_e]
    try (split <;> simp_all)
  rw [if_neg g3, if_neg g3]
  by_cases g4 : w = 260
  · subst g4
    simp (disch := omega) only [reduceIte, Int.reduceEq, Nat.reduceEqDiff, if_pos, if_neg, ld_t, Int.toNat_natCast, h1, e1, e2, e3, e4, e5, h5, a1, a2, a3, a4, a5, ji2l_e, jsub_e]
    try (split <;> simp_all)
  rw [if_neg g4, if_neg g4]
  by_cases g5 : w = 261
  · subst g5
    simp (disch := omega) only [reduceIte, Int.reduceEq, Nat.reduceEqDiff, if_pos, if_neg, ld_t, Int.toNat_natCast, h1, e1, e2, e3, e4, e5, h5, a1, a2, a3, a4, a5, ji2l_e, jsub_e]
    try (split <;> simp_all)
  rw [if_neg g5, if_neg g5]
  by_cases g6 : w = 262
  · subst g6
    simp (disch := omega) only [reduceIte, Int.reduceEq, Nat.reduceEqDiff, if_pos, if_neg, ld_t, Int.toNat_natCast, h1, e1, e2, e3, e4, e5, h5, a1, a2, a3, a4, a5, ji2l_e, jsub_e]
    try (split <;> simp_all)
  rw [if_neg g6, if_neg g6]
  by_cases g7 : w = 263
  · subst g7
    simp (disch := omega) only [reduceIte, Int.reduceEq, Nat.reduceEqDiff, if_pos, if_neg, ld_t, Int.toNat_natCast, h1, e1, e2, e3, e4, e5, h5, a1, a2, a3, a4, a5, ji2l_e, jsub_e]
    try (split <;> simp_all)
  rw [if_neg g7, if_neg g7]
  by_cases g8 : w = 264
  · subst g8
    simp (disch := omega) only [reduceIte, Int.reduceEq, Nat.reduceEqDiff, if_pos, if_neg, ld_t, Int.toNat_natCast, h1, e1, e2, e3, e4, e5, h5, a1, a2, a3, a4, a5, ji2l_e, jsub_e]
    try (split <;> simp_all)
  rw [if_neg g8, if_neg g8]
  by_cases g9 : w = 265
  · subst g9
    simp (disch := omega) only [reduceIte, Int.reduceEq, Nat.reduceEqDiff, if_pos, if_neg, ld_t, Int.toNat_natCast, h1, e1, e2, e3, e4, e5, h5, a1, a2, a3, a4, a5, ji2l_e, jsub_e]
    try (split <;> simp_all)
  rw [if_neg g9, if_neg g9]
  by_cases g10 : w = 266
  · subst g10
    simp (disch := omega) only [reduceIte, Int.reduceEq, Nat.reduceEqDiff, if_pos, if_neg, ld_t, Int.toNat_natCast, h1, e1, e2, e3, e4, e5, h5, a1, a2, a3, a4, a5, ji2l_e, jsub_e]
    try (split <;> simp_all)
  rw [if_neg g10, if_neg g10]
  by_cases g11 : w = 267
  · subst g11
    simp (disch := omega) only [reduceIte, Int.reduceEq, Nat.reduceEqDiff, if_pos, if_neg, ld_t, Int.toNat_natCast, h1, e1, e2, e3, e4, e5, h5, a1, a2, a3, a4, a5, ji2l_e, jsub_e]
    try (split <;> simp_all)
  rw [if_neg g11, if_neg g11]
  by_cases g12 : w = 268
  · subst g12
    simp (disch := omega) only [reduceIte, Int.reduceEq, Nat.reduceEqDiff, if_pos, if_neg, ld_t, Int.toNat_natCast, h1, e1, e2, e3, e4, e5, h5, a1, a2, a3, a4, a5, ji2l_e, jsub_e]
    try (split <;> simp_all)
  rw [if_neg g12, if_neg g12]
theorem m83 {r : Nat} {x : Int} {s : S2} {n : Nat} (h : s 771 r 0 = n) (hn : n < 64) : f83 r x s = some (st2 (st2 s 770 r n x) 771 r 0 ((n + 1 : Nat) : Int)) := by
  unfold f83
  simp (disch := omega) only [h, st2_d, and_self, and_true, true_and, not_true_eq_false, not_false_eq_true, reduceIte, bnd, jn, se, cP_s, cR_s, if_pos, if_neg, gd_t, ld_t, ldr_t, sto_t, jadd_e, jsub_e, Int.toNat_natCast]
  simp [h]
theorem m85 {r : Nat} {s : S2} {n : Nat} (h : s 771 r 0 = ((n + 1 : Nat) : Int)) (hn : n < 64) : f85 r s = some (st2 s 770 r n (if s 770 r n = 0 then 1 else 0)) := by
  have e : jsub (((n + 1 : Nat)) : Int) 1 = n := by rw [jsub_e (by omega) (by omega)]; omega
  unfold f85
  simp (disch := omega) only [h, e, jcmp_eq, and_self, and_true, true_and, not_true_eq_false, not_false_eq_true, reduceIte, bnd, jn, se, cP_s, cR_s, if_pos, if_neg, gd_t, ld_t, ldr_t, sto_t, jadd_e, jsub_e, Int.toNat_natCast]
  split
  · simp (disch := omega) only [and_self, and_true, true_and, not_true_eq_false, not_false_eq_true, reduceIte, bnd, jn, se, cP_s, cR_s, if_pos, if_neg, gd_t, ld_t, ldr_t, sto_t, jadd_e, jsub_e, Int.toNat_natCast]
  · simp (disch := omega) only [and_self, and_true, true_and, not_true_eq_false, not_false_eq_true, reduceIte, bnd, jn, se, cP_s, cR_s, if_pos, if_neg, gd_t, ld_t, ldr_t, sto_t, jadd_e, jsub_e, Int.toNat_natCast]
