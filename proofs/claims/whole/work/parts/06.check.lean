/-! THE ENCODING IS THE BYTECODE'S: checked by the kernel, entry by entry -/
def am_fl (o i : Nat) : Option Nat := (am_flT.find? (fun e => Nat.beq e.1 o && Nat.beq e.2.1 i)).map (fun e => e.2.2.1)
def am_ml (o i : Nat) : Option (Nat × Nat) := (am_mlT.find? (fun e => Nat.beq e.1 o && Nat.beq e.2.1 i)).map (fun e => (e.2.2.1, e.2.2.2.1))
def am_clk (o i : Nat) : Option Nat := (am_clT.find? (fun e => Nat.beq e.1 o && Nat.beq e.2.1 i)).map (fun e => e.2.2.1)
def am_ct (o i : Nat) : Option Int := (am_ctT.find? (fun e => Nat.beq e.1 o && Nat.beq e.2.1 i)).map (fun e => e.2.2.1)
def am_lt (o i : Nat) : Option Int := (am_ltT.find? (fun e => Nat.beq e.1 o && Nat.beq e.2.1 i)).map (fun e => e.2.2.1)
def am_txk (o i : Nat) : Option Nat := am_txT.findIdx? (fun e => Nat.beq e.1 o && Nat.beq e.2.1 i)
def am_fs (o i : Nat) : Option Nat := (am_fsT.find? (fun e => Nat.beq e.1 o && Nat.beq e.2.1 i)).map (fun e => e.2.2.1)
def am_gs (o i : Nat) : Option Nat := (am_gsT.find? (fun e => Nat.beq e.1 o && Nat.beq e.2.1 i)).map (fun e => e.2.2.1)
def am_np (k : Nat) : Nat := (am_mi k).2.2.2.2.2.2.2.2.2
def am_fin (f : Nat) : Bool := match am_cl[f / 128]? with
  | some q => (q.2.1 (f % 128)).2.2.2
  | none => true
def am_natN (k : Nat) : Nat := match k with
  | 14 => 1
  | 10 => 5
  | 15 => 2
  | 16 => 2
  | _ => 0
def am_tr (k : Nat) (ins : Jvm.ClassFile.Instr) (pc len : Nat) : Option am_I := match ins, len with
  | .getfield i, 3 => match am_fl (am_o k) i with
    | some f => some (24, 0, 1, Int.ofNat f, [])
    | none => match am_fs (am_o k) i with
      | some f => some (24, 19, 1, Int.ofNat f, [])
      | none => none
  | .getstatic i, 3 => match am_gs (am_o k) i with
    | some f => some (24, 18, 0, Int.ofNat f, [])
    | none => none
  | .putfield i, 3 => match am_fl (am_o k) i with
    | some f => if am_fin f = false ∨ (am_o k = f / 128 ∧ (am_y k).name = "<init>") then some (24, 1, 2, Int.ofNat f, []) else none
    | none => none
  | .iaload, 1 => some (24, 2, 2, 0, [])
  | .baload, 1 => some (24, 2, 2, 1, [])
  | .laload, 1 => some (24, 2, 2, 3, [])
  | .aaload, 1 => some (24, 2, 2, 4, [])
  | .iastore, 1 => some (24, 3, 3, 0, [])
  | .bastore, 1 => some (24, 3, 3, 1, [])
  | .lastore, 1 => some (24, 3, 3, 3, [])
  | .aastore, 1 => some (24, 3, 3, 4, [])
  | .arraylength, 1 => some (24, 4, 1, 0, [])
  | .new i, 3 => match am_clk (am_o k) i with
    | some c => some (24, 5, 0, Int.ofNat c, [])
    | none => none
  | .newarray t, 2 => match t with
    | .int => some (24, 6, 1, 0, [])
    | .byte => some (24, 6, 1, 1, [])
    | .boolean => some (24, 6, 1, 2, [])
    | .long => some (24, 6, 1, 3, [])
    | _ => none
  | .anewarray i, 3 => match am_clk (am_o k) i with
    | some c => some (24, 7, 1, Int.ofNat c, [])
    | none => none
  | .multianewarray i 2, 4 => match am_clk (am_o k) i with
    | some 99 => some (24, 8, 2, 0, [])
    | _ => none
  | .ldc i, 2 => match am_ct (am_o k) i with
    | some v => some (0, 0, 0, v, [])
    | none => match am_txk (am_o k) i with
      | some j => some (24, 9, 0, Int.ofNat j, [])
      | none => none
  | .ldc_w i, 3 => match am_ct (am_o k) i with
    | some v => some (0, 0, 0, v, [])
    | none => match am_txk (am_o k) i with
      | some j => some (24, 9, 0, Int.ofNat j, [])
      | none => none
  | .ldc2_w i, 3 => (am_lt (am_o k) i).map fun v => (1, 0, 0, v, [])
  | .invokevirtual i, 3 => match am_ml (am_o k) i with
    | some (0, t) => some (21, t, am_np t + 1, 0, [])
    | _ => none
  | .invokestatic i, 3 => match am_ml (am_o k) i with
    | some (1, t) => some (21, t, am_np t, 1, [])
    | some (4, t) => if t = 10 ∨ t = 15 ∨ t = 16 then some (24, t, am_natN t, 0, []) else none
    | _ => none
  | .invokespecial i, 3 => match am_ml (am_o k) i with
    | some (2, t) => some (21, t, am_np t + 1, 2, [])
    | some (3, t) => some (21, t, am_np t + 1, 3, [])
    | some (4, t) => if t = 14 then some (24, t, am_natN t, 0, []) else none
    | _ => none
  | .ireturn, 1 => match am_rt k with
    | some .int => some (22, 0, 0, 0, [])
    | some .boolean => some (22, 1, 0, 0, [])
    | some .byte => some (22, 4, 0, 0, [])
    | some .char => some (22, 4, 0, 0, [])
    | _ => none
  | .lreturn, 1 => match am_rt k with
    | some .long => some (22, 2, 0, 0, [])
    | _ => none
  | .areturn, 1 => match am_rt k with
    | some (.object _) => some (22, 3, 0, 0, [])
    | _ => none
  | .return_, 1 => match am_rt k with
    | none => some (23, 0, 0, 0, [])
    | _ => none
  | i, len => am_trp i pc len
def am_tbEq : List (Int × Nat) → List (Int × Nat) → Bool
  | [], [] => true
  | (a, b) :: r, (c, d) :: s => decide (a = c) && (Nat.beq b d && am_tbEq r s)
  | _, _ => false
theorem am_tbEq_eq : ∀ {a b : List (Int × Nat)}, am_tbEq a b = true → a = b
  | [], [], _ => rfl
  | (a, b) :: r, (c, d) :: s, h => by
    simp only [am_tbEq, Bool.and_eq_true, decide_eq_true_eq] at h
    obtain ⟨h1, h2, h3⟩ := h
    rw [h1, Nat.eq_of_beq_eq_true h2, am_tbEq_eq h3]
  | [], _ :: _, h => by cases h
  | _ :: _, [], h => by cases h
def am_Ieq : am_I → am_I → Bool
  | (a, b, c, d, e), (a', b', c', d', e') => Nat.beq a a' && (Nat.beq b b' && (Nat.beq c c' && (decide (d = d') && am_tbEq e e')))
theorem am_Ieq_eq : ∀ {a b : am_I}, am_Ieq a b = true → a = b
  | (a, b, c, d, e), (a', b', c', d', e'), h => by
    simp only [am_Ieq, Bool.and_eq_true, decide_eq_true_eq] at h
    obtain ⟨h1, h2, h3, h4, h5⟩ := h
    rw [Nat.eq_of_beq_eq_true h1, Nat.eq_of_beq_eq_true h2, Nat.eq_of_beq_eq_true h3, h4, am_tbEq_eq h5]
def am_chk (k : Nat) (e : Nat × am_I × Nat) : Bool := match decode (am_bc k) e.1 with
  | .ok (ins, len) => (match am_tr k ins e.1 len with
    | some i => am_Ieq i e.2.1
    | none => false) && Nat.beq e.2.2 (e.1 + len)
  | .error _ => false
def am_chkK (k : Nat) : Bool := (am_cs.getD k []).all (am_chk k)
theorem am_chkK_of {k a : Nat} (h1 : ((am_cs.getD k []).take a).all (am_chk k) = true) (h2 : ((am_cs.getD k []).drop a).all (am_chk k) = true) : am_chkK k = true := by
  unfold am_chkK
  rw [← List.take_append_drop a (am_cs.getD k []), List.all_append, h1, h2]
  rfl
def am_chkR (k a : Nat) : Bool := ((am_cs.getD k []).drop a).all (am_chk k)
theorem am_chkR_of {k a b : Nat} (h1 : (((am_cs.getD k []).drop a).take b).all (am_chk k) = true) (h2 : am_chkR k (a + b) = true) : am_chkR k a = true := by
  unfold am_chkR at h2 ⊢
  rw [← List.take_append_drop b ((am_cs.getD k []).drop a), List.all_append, h1, List.drop_drop, h2]
  rfl
theorem am_ckg0 : ∀ j, j < 5 → am_chkK (0 + j) = true := by decide +kernel
theorem am_ckg5 : ∀ j, j < 6 → am_chkK (5 + j) = true := by decide +kernel
theorem am_ckg11 : ∀ j, j < 7 → am_chkK (11 + j) = true := by decide +kernel
theorem am_ckg18 : ∀ j, j < 7 → am_chkK (18 + j) = true := by decide +kernel
theorem am_ckg25 : ∀ j, j < 6 → am_chkK (25 + j) = true := by decide +kernel
theorem am_ckg31 : ∀ j, j < 6 → am_chkK (31 + j) = true := by decide +kernel
theorem am_ckg37 : ∀ j, j < 6 → am_chkK (37 + j) = true := by decide +kernel
theorem am_ckg43 : ∀ j, j < 5 → am_chkK (43 + j) = true := by decide +kernel
theorem am_ckg48 : ∀ j, j < 9 → am_chkK (48 + j) = true := by decide +kernel
theorem am_ckg57 : ∀ j, j < 4 → am_chkK (57 + j) = true := by decide +kernel
theorem am_ckg61 : ∀ j, j < 4 → am_chkK (61 + j) = true := by decide +kernel
theorem am_ckg65 : ∀ j, j < 4 → am_chkK (65 + j) = true := by decide +kernel
theorem am_ckg69 : ∀ j, j < 9 → am_chkK (69 + j) = true := by decide +kernel
theorem am_ckg78 : ∀ j, j < 3 → am_chkK (78 + j) = true := by decide +kernel
theorem am_ckg81 : ∀ j, j < 3 → am_chkK (81 + j) = true := by decide +kernel
theorem am_ckg84 : ∀ j, j < 2 → am_chkK (84 + j) = true := by decide +kernel
theorem am_ckg86 : ∀ j, j < 4 → am_chkK (86 + j) = true := by decide +kernel
theorem am_ckg90 : ∀ j, j < 4 → am_chkK (90 + j) = true := by decide +kernel
theorem am_ckg94 : ∀ j, j < 5 → am_chkK (94 + j) = true := by decide +kernel
theorem am_ckg99 : ∀ j, j < 6 → am_chkK (99 + j) = true := by decide +kernel
theorem am_ckg105 : ∀ j, j < 5 → am_chkK (105 + j) = true := by decide +kernel
theorem am_ckg110 : ∀ j, j < 4 → am_chkK (110 + j) = true := by decide +kernel
theorem am_ckg114 : ∀ j, j < 5 → am_chkK (114 + j) = true := by decide +kernel
theorem am_ckg119 : ∀ j, j < 3 → am_chkK (119 + j) = true := by decide +kernel
theorem am_ckg122 : ∀ j, j < 5 → am_chkK (122 + j) = true := by decide +kernel
theorem am_ckg127 : ∀ j, j < 3 → am_chkK (127 + j) = true := by decide +kernel
theorem am_ckg130 : ∀ j, j < 5 → am_chkK (130 + j) = true := by decide +kernel
theorem am_ckg135 : ∀ j, j < 4 → am_chkK (135 + j) = true := by decide +kernel
theorem am_ckg139 : ∀ j, j < 4 → am_chkK (139 + j) = true := by decide +kernel
theorem am_ckg143 : ∀ j, j < 4 → am_chkK (143 + j) = true := by decide +kernel
theorem am_ckg147 : ∀ j, j < 3 → am_chkK (147 + j) = true := by decide +kernel
theorem am_ckg150 : ∀ j, j < 4 → am_chkK (150 + j) = true := by decide +kernel
theorem am_ckg154 : ∀ j, j < 1 → am_chkK (154 + j) = true := by decide +kernel
theorem am_ck155_0 : (((am_cs.getD 155 []).drop 0).take 50).all (am_chk 155) = true := by decide +kernel
theorem am_ck155_50 : (((am_cs.getD 155 []).drop 50).take 50).all (am_chk 155) = true := by decide +kernel
theorem am_ck155_100 : (((am_cs.getD 155 []).drop 100).take 50).all (am_chk 155) = true := by decide +kernel
theorem am_ck155_150 : (((am_cs.getD 155 []).drop 150).take 50).all (am_chk 155) = true := by decide +kernel
theorem am_ck155_200 : (((am_cs.getD 155 []).drop 200).take 50).all (am_chk 155) = true := by decide +kernel
theorem am_ck155_250 : (((am_cs.getD 155 []).drop 250).take 50).all (am_chk 155) = true := by decide +kernel
theorem am_ckk155 : am_chkR 155 0 = true := (am_chkR_of am_ck155_0 (am_chkR_of am_ck155_50 (am_chkR_of am_ck155_100 (am_chkR_of am_ck155_150 (am_chkR_of am_ck155_200 (am_chkR_of am_ck155_250 (by decide +kernel : am_chkR 155 300 = true)))))))
theorem am_ckg155 : ∀ j, j < 1 → am_chkK (155 + j) = true := fun j h => by rw [show j = 0 by omega]; exact am_ckk155
theorem am_ckg156 : ∀ j, j < 5 → am_chkK (156 + j) = true := by decide +kernel
theorem am_ckg161 : ∀ j, j < 7 → am_chkK (161 + j) = true := by decide +kernel
theorem am_ckg168 : ∀ j, j < 3 → am_chkK (168 + j) = true := by decide +kernel
theorem am_ckg171 : ∀ j, j < 5 → am_chkK (171 + j) = true := by decide +kernel
theorem am_ckg176 : ∀ j, j < 4 → am_chkK (176 + j) = true := by decide +kernel
theorem am_ckg180 : ∀ j, j < 3 → am_chkK (180 + j) = true := by decide +kernel
theorem am_ckg183 : ∀ j, j < 5 → am_chkK (183 + j) = true := by decide +kernel
theorem am_ckg188 : ∀ j, j < 4 → am_chkK (188 + j) = true := by decide +kernel
theorem am_ckg192 : ∀ j, j < 5 → am_chkK (192 + j) = true := by decide +kernel
theorem am_ckg197 : ∀ j, j < 6 → am_chkK (197 + j) = true := by decide +kernel
theorem am_ckg203 : ∀ j, j < 1 → am_chkK (203 + j) = true := by decide +kernel
theorem am_ckg204 : ∀ j, j < 3 → am_chkK (204 + j) = true := by decide +kernel
theorem am_ckg207 : ∀ j, j < 5 → am_chkK (207 + j) = true := by decide +kernel
theorem am_ckg212 : ∀ j, j < 8 → am_chkK (212 + j) = true := by decide +kernel
theorem am_ckg220 : ∀ j, j < 3 → am_chkK (220 + j) = true := by decide +kernel
theorem am_ckg223 : ∀ j, j < 6 → am_chkK (223 + j) = true := by decide +kernel
theorem am_ckg229 : ∀ j, j < 5 → am_chkK (229 + j) = true := by decide +kernel
theorem am_ckg234 : ∀ j, j < 4 → am_chkK (234 + j) = true := by decide +kernel
theorem am_ckg238 : ∀ j, j < 3 → am_chkK (238 + j) = true := by decide +kernel
theorem am_ckg241 : ∀ j, j < 2 → am_chkK (241 + j) = true := by decide +kernel
theorem am_ckg243 : ∀ j, j < 3 → am_chkK (243 + j) = true := by decide +kernel
theorem am_ckg246 : ∀ j, j < 3 → am_chkK (246 + j) = true := by decide +kernel
theorem am_ckg249 : ∀ j, j < 2 → am_chkK (249 + j) = true := by decide +kernel
theorem am_ckg251 : ∀ j, j < 1 → am_chkK (251 + j) = true := by decide +kernel
theorem am_ckg252 : ∀ j, j < 3 → am_chkK (252 + j) = true := by decide +kernel
theorem am_ckg255 : ∀ j, j < 4 → am_chkK (255 + j) = true := by decide +kernel
theorem am_ckg259 : ∀ j, j < 3 → am_chkK (259 + j) = true := by decide +kernel
theorem am_ckg262 : ∀ j, j < 1 → am_chkK (262 + j) = true := by decide +kernel
theorem am_ckg263 : ∀ j, j < 3 → am_chkK (263 + j) = true := by decide +kernel
theorem am_ckg266 : ∀ j, j < 5 → am_chkK (266 + j) = true := by decide +kernel
theorem am_ckg271 : ∀ j, j < 13 → am_chkK (271 + j) = true := by decide +kernel
theorem am_ckg284 : ∀ j, j < 3 → am_chkK (284 + j) = true := by decide +kernel
theorem am_ck287_0 : (((am_cs.getD 287 []).drop 0).take 50).all (am_chk 287) = true := by decide +kernel
theorem am_ck287_50 : (((am_cs.getD 287 []).drop 50).take 50).all (am_chk 287) = true := by decide +kernel
theorem am_ck287_100 : (((am_cs.getD 287 []).drop 100).take 50).all (am_chk 287) = true := by decide +kernel
theorem am_ck287_150 : (((am_cs.getD 287 []).drop 150).take 50).all (am_chk 287) = true := by decide +kernel
theorem am_ck287_200 : (((am_cs.getD 287 []).drop 200).take 50).all (am_chk 287) = true := by decide +kernel
theorem am_ck287_250 : (((am_cs.getD 287 []).drop 250).take 50).all (am_chk 287) = true := by decide +kernel
theorem am_ck287_300 : (((am_cs.getD 287 []).drop 300).take 50).all (am_chk 287) = true := by decide +kernel
theorem am_ck287_350 : (((am_cs.getD 287 []).drop 350).take 50).all (am_chk 287) = true := by decide +kernel
theorem am_ck287_400 : (((am_cs.getD 287 []).drop 400).take 50).all (am_chk 287) = true := by decide +kernel
theorem am_ck287_450 : (((am_cs.getD 287 []).drop 450).take 50).all (am_chk 287) = true := by decide +kernel
theorem am_ck287_500 : (((am_cs.getD 287 []).drop 500).take 50).all (am_chk 287) = true := by decide +kernel
theorem am_ck287_550 : (((am_cs.getD 287 []).drop 550).take 50).all (am_chk 287) = true := by decide +kernel
theorem am_ck287_600 : (((am_cs.getD 287 []).drop 600).take 50).all (am_chk 287) = true := by decide +kernel
theorem am_ck287_650 : (((am_cs.getD 287 []).drop 650).take 50).all (am_chk 287) = true := by decide +kernel
theorem am_ck287_700 : (((am_cs.getD 287 []).drop 700).take 50).all (am_chk 287) = true := by decide +kernel
theorem am_ck287_750 : (((am_cs.getD 287 []).drop 750).take 50).all (am_chk 287) = true := by decide +kernel
theorem am_ck287_800 : (((am_cs.getD 287 []).drop 800).take 50).all (am_chk 287) = true := by decide +kernel
theorem am_ck287_850 : (((am_cs.getD 287 []).drop 850).take 50).all (am_chk 287) = true := by decide +kernel
theorem am_ckk287 : am_chkR 287 0 = true := (am_chkR_of am_ck287_0 (am_chkR_of am_ck287_50 (am_chkR_of am_ck287_100 (am_chkR_of am_ck287_150 (am_chkR_of am_ck287_200 (am_chkR_of am_ck287_250 (am_chkR_of am_ck287_300 (am_chkR_of am_ck287_350 (am_chkR_of am_ck287_400 (am_chkR_of am_ck287_450 (am_chkR_of am_ck287_500 (am_chkR_of am_ck287_550 (am_chkR_of am_ck287_600 (am_chkR_of am_ck287_650 (am_chkR_of am_ck287_700 (am_chkR_of am_ck287_750 (am_chkR_of am_ck287_800 (am_chkR_of am_ck287_850 (by decide +kernel : am_chkR 287 900 = true)))))))))))))))))))
theorem am_ckg287 : ∀ j, j < 1 → am_chkK (287 + j) = true := fun j h => by rw [show j = 0 by omega]; exact am_ckk287
