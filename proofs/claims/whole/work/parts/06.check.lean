/-! THE ENCODING IS THE BYTECODE'S: checked by the kernel, entry by entry -/
def am_fl (o i : Nat) : Option Nat := (am_flT.find? (fun e => Nat.beq e.1 o && Nat.beq e.2.1 i)).map (fun e => e.2.2.1)
def am_ml (o i : Nat) : Option (Nat × Nat) := (am_mlT.find? (fun e => Nat.beq e.1 o && Nat.beq e.2.1 i)).map (fun e => (e.2.2.1, e.2.2.2.1))
def am_clk (o i : Nat) : Option Nat := (am_clT.find? (fun e => Nat.beq e.1 o && Nat.beq e.2.1 i)).map (fun e => e.2.2.1)
def am_ct (o i : Nat) : Option Int := (am_ctT.find? (fun e => Nat.beq e.1 o && Nat.beq e.2.1 i)).map (fun e => e.2.2.1)
def am_lt (o i : Nat) : Option Int := (am_ltT.find? (fun e => Nat.beq e.1 o && Nat.beq e.2.1 i)).map (fun e => e.2.2.1)
def am_txk (o i : Nat) : Option Nat := am_txT.findIdx? (fun e => Nat.beq e.1 o && Nat.beq e.2.1 i)
def am_np (k : Nat) : Nat := (am_mi k).2.2.2.2.2.2.2.2.2
def am_fin (f : Nat) : Bool := match am_cl[f / 128]? with
  | some q => (q.2.1 (f % 128)).2.2.2
  | none => true
def am_natN (k : Nat) : Nat := match k with
  | 14 => 1
  | 10 => 5
  | 15 => 2
  | 16 => 2
  | 11 => 1
  | 12 => 2
  | 13 => 2
  | _ => 0
def am_tr (k : Nat) (ins : Jvm.ClassFile.Instr) (pc len : Nat) : Option am_I := match ins, len with
  | .getfield i, 3 => (am_fl (am_o k) i).map fun f => (24, 0, 1, (f : Int), [])
  | .putfield i, 3 => match am_fl (am_o k) i with
    | some f => if am_fin f = false ∨ (am_o k = f / 128 ∧ (am_y k).name = "<init>") then some (24, 1, 2, (f : Int), []) else none
    | none => none
  | .iaload, 1 => some (24, 2, 2, 0, [])
  | .baload, 1 => some (24, 2, 2, 1, [])
  | .laload, 1 => some (24, 2, 2, 3, [])
  | .aaload, 1 => some (24, 2, 2, 4, [])
  | .iastore, 1 => some (24, 3, 3, 0, [])
  | .bastore, 1 => some (24, 3, 3, 1, [])
  | .lastore, 1 => some (24, 3, 3, 3, [])
  | .aastore, 1 => some (24, 3, 3, 4, [])
  | .arraylength, 1 => some (24, 4, 1, 0, [])
  | .new i, 3 => (am_clk (am_o k) i).map fun c => (24, 5, 0, (c : Int), [])
  | .newarray t, 2 => match t with
    | .int => some (24, 6, 1, 0, [])
    | .byte => some (24, 6, 1, 1, [])
    | .boolean => some (24, 6, 1, 2, [])
    | .long => some (24, 6, 1, 3, [])
    | _ => none
  | .anewarray i, 3 => (am_clk (am_o k) i).map fun c => (24, 7, 1, (c : Int), [])
  | .multianewarray i 2, 4 => match am_clk (am_o k) i with
    | some 99 => some (24, 8, 2, 0, [])
    | _ => none
  | .ldc i, 2 => match am_ct (am_o k) i with
    | some v => some (0, 0, 0, v, [])
    | none => (am_txk (am_o k) i).map fun j => (24, 9, 0, (j : Int), [])
  | .ldc_w i, 3 => match am_ct (am_o k) i with
    | some v => some (0, 0, 0, v, [])
    | none => (am_txk (am_o k) i).map fun j => (24, 9, 0, (j : Int), [])
  | .ldc2_w i, 3 => (am_lt (am_o k) i).map fun v => (1, 0, 0, v, [])
  | .invokevirtual i, 3 => match am_ml (am_o k) i with
    | some (0, t) => some (21, t, am_np t + 1, 0, [])
    | some (4, t) => if t = 11 ∨ t = 12 ∨ t = 13 then some (24, t, am_natN t, 0, []) else none
    | _ => none
  | .invokestatic i, 3 => match am_ml (am_o k) i with
    | some (1, t) => some (21, t, am_np t, 1, [])
    | some (4, t) => if t = 10 ∨ t = 15 ∨ t = 16 then some (24, t, am_natN t, 0, []) else none
    | _ => none
  | .invokespecial i, 3 => match am_ml (am_o k) i with
    | some (2, t) => some (21, t, am_np t + 1, 2, [])
    | some (3, t) => some (21, t, am_np t + 1, 3, [])
    | some (4, t) => if t = 14 then some (24, t, am_natN t, 0, []) else none
    | _ => none
  | .ireturn, 1 => match am_rt k with
    | some .int => some (22, 0, 0, 0, [])
    | some .boolean => some (22, 1, 0, 0, [])
    | _ => none
  | .lreturn, 1 => match am_rt k with
    | some .long => some (22, 2, 0, 0, [])
    | _ => none
  | .areturn, 1 => match am_rt k with
    | some (.object _) => some (22, 3, 0, 0, [])
    | _ => none
  | .return_, 1 => match am_rt k with
    | none => some (23, 0, 0, 0, [])
    | _ => none
  | i, len => am_trp i pc len
def am_tbEq : List (Int × Nat) → List (Int × Nat) → Bool
  | [], [] => true
  | (a, b) :: r, (c, d) :: s => decide (a = c) && (Nat.beq b d && am_tbEq r s)
  | _, _ => false
theorem am_tbEq_eq : ∀ {a b : List (Int × Nat)}, am_tbEq a b = true → a = b
  | [], [], _ => rfl
  | (a, b) :: r, (c, d) :: s, h => by
    simp only [am_tbEq, Bool.and_eq_true, decide_eq_true_eq] at h
    obtain ⟨h1, h2, h3⟩ := h
    rw [h1, Nat.eq_of_beq_eq_true h2, am_tbEq_eq h3]
  | [], _ :: _, h => by cases h
  | _ :: _, [], h => by cases h
def am_Ieq : am_I → am_I → Bool
  | (a, b, c, d, e), (a', b', c', d', e') => Nat.beq a a' && (Nat.beq b b' && (Nat.beq c c' && (decide (d = d') && am_tbEq e e')))
theorem am_Ieq_eq : ∀ {a b : am_I}, am_Ieq a b = true → a = b
  | (a, b, c, d, e), (a', b', c', d', e'), h => by
    simp only [am_Ieq, Bool.and_eq_true, decide_eq_true_eq] at h
    obtain ⟨h1, h2, h3, h4, h5⟩ := h
    rw [Nat.eq_of_beq_eq_true h1, Nat.eq_of_beq_eq_true h2, Nat.eq_of_beq_eq_true h3, h4, am_tbEq_eq h5]
def am_chk (k : Nat) (e : Nat × am_I × Nat) : Bool := match decode (am_bc k) e.1 with
  | .ok (ins, len) => (match am_tr k ins e.1 len with
    | some i => am_Ieq i e.2.1
    | none => false) && Nat.beq e.2.2 (e.1 + len)
  | .error _ => false
def am_chkK (k : Nat) : Bool := (am_cs.getD k []).all (am_chk k)
theorem am_chkK_of {k a : Nat} (h1 : ((am_cs.getD k []).take a).all (am_chk k) = true) (h2 : ((am_cs.getD k []).drop a).all (am_chk k) = true) : am_chkK k = true := by
  unfold am_chkK
  rw [← List.take_append_drop a (am_cs.getD k []), List.all_append, h1, h2]
  rfl
def am_chkR (k a : Nat) : Bool := ((am_cs.getD k []).drop a).all (am_chk k)
theorem am_chkR_of {k a b : Nat} (h1 : (((am_cs.getD k []).drop a).take b).all (am_chk k) = true) (h2 : am_chkR k (a + b) = true) : am_chkR k a = true := by
  unfold am_chkR at h2 ⊢
  rw [← List.take_append_drop b ((am_cs.getD k []).drop a), List.all_append, h1, List.drop_drop, h2]
  rfl
theorem am_ckg0 : ∀ j, j < 5 → am_chkK (0 + j) = true := by decide +kernel
theorem am_ckg5 : ∀ j, j < 6 → am_chkK (5 + j) = true := by decide +kernel
theorem am_ckg11 : ∀ j, j < 7 → am_chkK (11 + j) = true := by decide +kernel
theorem am_ckg18 : ∀ j, j < 7 → am_chkK (18 + j) = true := by decide +kernel
theorem am_ckg25 : ∀ j, j < 6 → am_chkK (25 + j) = true := by decide +kernel
theorem am_ckg31 : ∀ j, j < 6 → am_chkK (31 + j) = true := by decide +kernel
theorem am_ckg37 : ∀ j, j < 6 → am_chkK (37 + j) = true := by decide +kernel
theorem am_ckg43 : ∀ j, j < 5 → am_chkK (43 + j) = true := by decide +kernel
theorem am_ckg48 : ∀ j, j < 9 → am_chkK (48 + j) = true := by decide +kernel
theorem am_ckg57 : ∀ j, j < 4 → am_chkK (57 + j) = true := by decide +kernel
theorem am_ckg61 : ∀ j, j < 4 → am_chkK (61 + j) = true := by decide +kernel
theorem am_ckg65 : ∀ j, j < 4 → am_chkK (65 + j) = true := by decide +kernel
theorem am_ckg69 : ∀ j, j < 9 → am_chkK (69 + j) = true := by decide +kernel
theorem am_ckg78 : ∀ j, j < 3 → am_chkK (78 + j) = true := by decide +kernel
theorem am_ckg81 : ∀ j, j < 3 → am_chkK (81 + j) = true := by decide +kernel
theorem am_ckg84 : ∀ j, j < 2 → am_chkK (84 + j) = true := by decide +kernel
theorem am_ckg86 : ∀ j, j < 4 → am_chkK (86 + j) = true := by decide +kernel
theorem am_ckg90 : ∀ j, j < 5 → am_chkK (90 + j) = true := by decide +kernel
theorem am_ckg95 : ∀ j, j < 5 → am_chkK (95 + j) = true := by decide +kernel
theorem am_ckg100 : ∀ j, j < 6 → am_chkK (100 + j) = true := by decide +kernel
theorem am_ckg106 : ∀ j, j < 5 → am_chkK (106 + j) = true := by decide +kernel
theorem am_ckg111 : ∀ j, j < 4 → am_chkK (111 + j) = true := by decide +kernel
theorem am_ckg115 : ∀ j, j < 5 → am_chkK (115 + j) = true := by decide +kernel
theorem am_ckg120 : ∀ j, j < 3 → am_chkK (120 + j) = true := by decide +kernel
theorem am_ckg123 : ∀ j, j < 4 → am_chkK (123 + j) = true := by decide +kernel
theorem am_ckg127 : ∀ j, j < 4 → am_chkK (127 + j) = true := by decide +kernel
theorem am_ckg131 : ∀ j, j < 3 → am_chkK (131 + j) = true := by decide +kernel
theorem am_ckg134 : ∀ j, j < 4 → am_chkK (134 + j) = true := by decide +kernel
theorem am_ckg138 : ∀ j, j < 4 → am_chkK (138 + j) = true := by decide +kernel
theorem am_ckg142 : ∀ j, j < 4 → am_chkK (142 + j) = true := by decide +kernel
theorem am_ckg146 : ∀ j, j < 4 → am_chkK (146 + j) = true := by decide +kernel
theorem am_ckg150 : ∀ j, j < 3 → am_chkK (150 + j) = true := by decide +kernel
theorem am_ckg153 : ∀ j, j < 4 → am_chkK (153 + j) = true := by decide +kernel
theorem am_ck157_0 : (((am_cs.getD 157 []).drop 0).take 50).all (am_chk 157) = true := by decide +kernel
theorem am_ck157_50 : (((am_cs.getD 157 []).drop 50).take 50).all (am_chk 157) = true := by decide +kernel
theorem am_ck157_100 : (((am_cs.getD 157 []).drop 100).take 50).all (am_chk 157) = true := by decide +kernel
theorem am_ck157_150 : (((am_cs.getD 157 []).drop 150).take 50).all (am_chk 157) = true := by decide +kernel
theorem am_ck157_200 : (((am_cs.getD 157 []).drop 200).take 50).all (am_chk 157) = true := by decide +kernel
theorem am_ck157_250 : (((am_cs.getD 157 []).drop 250).take 50).all (am_chk 157) = true := by decide +kernel
theorem am_ckk157 : am_chkR 157 0 = true := (am_chkR_of am_ck157_0 (am_chkR_of am_ck157_50 (am_chkR_of am_ck157_100 (am_chkR_of am_ck157_150 (am_chkR_of am_ck157_200 (am_chkR_of am_ck157_250 (by decide +kernel : am_chkR 157 300 = true)))))))
theorem am_ckg157 : ∀ j, j < 1 → am_chkK (157 + j) = true := fun j h => by rw [show j = 0 by omega]; exact am_ckk157
theorem am_ckg158 : ∀ j, j < 5 → am_chkK (158 + j) = true := by decide +kernel
theorem am_ckg163 : ∀ j, j < 7 → am_chkK (163 + j) = true := by decide +kernel
theorem am_ckg170 : ∀ j, j < 3 → am_chkK (170 + j) = true := by decide +kernel
theorem am_ckg173 : ∀ j, j < 5 → am_chkK (173 + j) = true := by decide +kernel
theorem am_ckg178 : ∀ j, j < 4 → am_chkK (178 + j) = true := by decide +kernel
theorem am_ckg182 : ∀ j, j < 3 → am_chkK (182 + j) = true := by decide +kernel
theorem am_ckg185 : ∀ j, j < 5 → am_chkK (185 + j) = true := by decide +kernel
theorem am_ckg190 : ∀ j, j < 4 → am_chkK (190 + j) = true := by decide +kernel
theorem am_ckg194 : ∀ j, j < 5 → am_chkK (194 + j) = true := by decide +kernel
theorem am_ckg199 : ∀ j, j < 6 → am_chkK (199 + j) = true := by decide +kernel
theorem am_ckg205 : ∀ j, j < 1 → am_chkK (205 + j) = true := by decide +kernel
theorem am_ckg206 : ∀ j, j < 3 → am_chkK (206 + j) = true := by decide +kernel
theorem am_ckg209 : ∀ j, j < 5 → am_chkK (209 + j) = true := by decide +kernel
theorem am_ckg214 : ∀ j, j < 8 → am_chkK (214 + j) = true := by decide +kernel
theorem am_ckg222 : ∀ j, j < 3 → am_chkK (222 + j) = true := by decide +kernel
theorem am_ckg225 : ∀ j, j < 6 → am_chkK (225 + j) = true := by decide +kernel
theorem am_ckg231 : ∀ j, j < 5 → am_chkK (231 + j) = true := by decide +kernel
theorem am_ckg236 : ∀ j, j < 4 → am_chkK (236 + j) = true := by decide +kernel
theorem am_ckg240 : ∀ j, j < 3 → am_chkK (240 + j) = true := by decide +kernel
theorem am_ckg243 : ∀ j, j < 2 → am_chkK (243 + j) = true := by decide +kernel
theorem am_ckg245 : ∀ j, j < 3 → am_chkK (245 + j) = true := by decide +kernel
theorem am_ckg248 : ∀ j, j < 3 → am_chkK (248 + j) = true := by decide +kernel
theorem am_ckg251 : ∀ j, j < 2 → am_chkK (251 + j) = true := by decide +kernel
theorem am_ckg253 : ∀ j, j < 1 → am_chkK (253 + j) = true := by decide +kernel
theorem am_ckg254 : ∀ j, j < 3 → am_chkK (254 + j) = true := by decide +kernel
theorem am_ckg257 : ∀ j, j < 4 → am_chkK (257 + j) = true := by decide +kernel
theorem am_ckg261 : ∀ j, j < 3 → am_chkK (261 + j) = true := by decide +kernel
theorem am_ckg264 : ∀ j, j < 1 → am_chkK (264 + j) = true := by decide +kernel
theorem am_ckg265 : ∀ j, j < 3 → am_chkK (265 + j) = true := by decide +kernel
theorem am_ckg268 : ∀ j, j < 5 → am_chkK (268 + j) = true := by decide +kernel
theorem am_ckg273 : ∀ j, j < 1 → am_chkK (273 + j) = true := by decide +kernel
theorem am_ck274_0 : (((am_cs.getD 274 []).drop 0).take 50).all (am_chk 274) = true := by decide +kernel
theorem am_ck274_50 : (((am_cs.getD 274 []).drop 50).take 50).all (am_chk 274) = true := by decide +kernel
theorem am_ck274_100 : (((am_cs.getD 274 []).drop 100).take 50).all (am_chk 274) = true := by decide +kernel
theorem am_ck274_150 : (((am_cs.getD 274 []).drop 150).take 50).all (am_chk 274) = true := by decide +kernel
theorem am_ck274_200 : (((am_cs.getD 274 []).drop 200).take 50).all (am_chk 274) = true := by decide +kernel
theorem am_ck274_250 : (((am_cs.getD 274 []).drop 250).take 50).all (am_chk 274) = true := by decide +kernel
theorem am_ck274_300 : (((am_cs.getD 274 []).drop 300).take 50).all (am_chk 274) = true := by decide +kernel
theorem am_ck274_350 : (((am_cs.getD 274 []).drop 350).take 50).all (am_chk 274) = true := by decide +kernel
theorem am_ck274_400 : (((am_cs.getD 274 []).drop 400).take 50).all (am_chk 274) = true := by decide +kernel
theorem am_ck274_450 : (((am_cs.getD 274 []).drop 450).take 50).all (am_chk 274) = true := by decide +kernel
theorem am_ck274_500 : (((am_cs.getD 274 []).drop 500).take 50).all (am_chk 274) = true := by decide +kernel
theorem am_ck274_550 : (((am_cs.getD 274 []).drop 550).take 50).all (am_chk 274) = true := by decide +kernel
theorem am_ck274_600 : (((am_cs.getD 274 []).drop 600).take 50).all (am_chk 274) = true := by decide +kernel
theorem am_ck274_650 : (((am_cs.getD 274 []).drop 650).take 50).all (am_chk 274) = true := by decide +kernel
theorem am_ck274_700 : (((am_cs.getD 274 []).drop 700).take 50).all (am_chk 274) = true := by decide +kernel
theorem am_ck274_750 : (((am_cs.getD 274 []).drop 750).take 50).all (am_chk 274) = true := by decide +kernel
theorem am_ck274_800 : (((am_cs.getD 274 []).drop 800).take 50).all (am_chk 274) = true := by decide +kernel
theorem am_ck274_850 : (((am_cs.getD 274 []).drop 850).take 50).all (am_chk 274) = true := by decide +kernel
theorem am_ckk274 : am_chkR 274 0 = true := (am_chkR_of am_ck274_0 (am_chkR_of am_ck274_50 (am_chkR_of am_ck274_100 (am_chkR_of am_ck274_150 (am_chkR_of am_ck274_200 (am_chkR_of am_ck274_250 (am_chkR_of am_ck274_300 (am_chkR_of am_ck274_350 (am_chkR_of am_ck274_400 (am_chkR_of am_ck274_450 (am_chkR_of am_ck274_500 (am_chkR_of am_ck274_550 (am_chkR_of am_ck274_600 (am_chkR_of am_ck274_650 (am_chkR_of am_ck274_700 (am_chkR_of am_ck274_750 (am_chkR_of am_ck274_800 (am_chkR_of am_ck274_850 (by decide +kernel : am_chkR 274 900 = true)))))))))))))))))))
theorem am_ckg274 : ∀ j, j < 1 → am_chkK (274 + j) = true := fun j h => by rw [show j = 0 by omega]; exact am_ckk274
