/-! PURE STEPS: the bytecode's, the small machine's -/
def am_tgt (pc : Nat) (off : Int) : Option Nat := if 0 ≤ (pc : Int) + off then some ((pc : Int) + off).toNat else none
def am_cn (c : Jvm.ClassFile.Cond) : Nat := match c with
  | .eq => 0
  | .ne => 1
  | .lt => 2
  | .ge => 3
  | .gt => 4
  | .le => 5
def am_trp (ins : Jvm.ClassFile.Instr) (pc len : Nat) : Option am_I := match ins, len with
  | .iconst i, 1 => some (0, 0, 0, (Int32.ofInt i).toInt, [])
  | .bipush i, 2 => some (0, 0, 0, ((Int8.ofInt i).toInt32).toInt, [])
  | .sipush i, 3 => some (0, 0, 0, ((Int16.ofInt i).toInt32).toInt, [])
  | .lconst f, 1 => some (1, 0, 0, (Int64.ofNat (f : Nat)).toInt, [])
  | .aconst_null, 1 => some (2, 0, 0, 0, [])
  | .iload i, 2 => some (3, i, 0, 0, [])
  | .iload_n f, 1 => some (3, (f : Nat), 0, 0, [])
  | .lload i, 2 => some (3, i, 1, 0, [])
  | .lload_n f, 1 => some (3, (f : Nat), 1, 0, [])
  | .aload i, 2 => some (3, i, 2, 0, [])
  | .aload_n f, 1 => some (3, (f : Nat), 2, 0, [])
  | .istore i, 2 => some (4, i, 0, 0, [])
  | .istore_n f, 1 => some (4, (f : Nat), 0, 0, [])
  | .lstore i, 2 => some (4, i, 1, 0, [])
  | .lstore_n f, 1 => some (4, (f : Nat), 1, 0, [])
  | .astore i, 2 => some (4, i, 2, 0, [])
  | .astore_n f, 1 => some (4, (f : Nat), 2, 0, [])
  | .iinc i c, 3 => some (5, i, 0, c, [])
  | .iadd, 1 => some (6, 0, 0, 0, [])
  | .isub, 1 => some (6, 1, 0, 0, [])
  | .imul, 1 => some (6, 2, 0, 0, [])
  | .iand, 1 => some (6, 3, 0, 0, [])
  | .ior, 1 => some (6, 4, 0, 0, [])
  | .ixor, 1 => some (6, 5, 0, 0, [])
  | .ishl, 1 => some (6, 6, 0, 0, [])
  | .ishr, 1 => some (6, 7, 0, 0, [])
  | .iushr, 1 => some (6, 8, 0, 0, [])
  | .idiv, 1 => some (6, 9, 0, 0, [])
  | .irem, 1 => some (6, 10, 0, 0, [])
  | .ineg, 1 => some (7, 0, 0, 0, [])
  | .i2b, 1 => some (7, 1, 0, 0, [])
  | .i2c, 1 => some (7, 2, 0, 0, [])
  | .i2l, 1 => some (8, 0, 0, 0, [])
  | .l2i, 1 => some (9, 0, 0, 0, [])
  | .ladd, 1 => some (10, 0, 0, 0, [])
  | .lsub, 1 => some (10, 1, 0, 0, [])
  | .lmul, 1 => some (10, 2, 0, 0, [])
  | .land, 1 => some (10, 3, 0, 0, [])
  | .lor, 1 => some (10, 4, 0, 0, [])
  | .ldiv, 1 => some (10, 5, 0, 0, [])
  | .lrem, 1 => some (10, 6, 0, 0, [])
  | .lcmp, 1 => some (11, 0, 0, 0, [])
  | .dup, 1 => some (12, 0, 0, 0, [])
  | .dup2, 1 => some (13, 0, 0, 0, [])
  | .pop, 1 => some (14, 0, 0, 0, [])
  | .if_icmp c o, 3 => (am_tgt pc o).map fun t => (15, am_cn c, t, 0, [])
  | .ifCond c o, 3 => (am_tgt pc o).map fun t => (16, am_cn c, t, 0, [])
  | .ifnull o, 3 => (am_tgt pc o).map fun t => (17, 0, t, 0, [])
  | .ifnonnull o, 3 => (am_tgt pc o).map fun t => (17, 1, t, 0, [])
  | .goto o, 3 => (am_tgt pc o).map fun t => (18, 0, t, 0, [])
  | .tableswitch d lo hi offs, _ => if hi - lo + 1 = offs.size ∧ 0 ≤ (pc : Int) + d ∧ offs.toList.all (fun o => decide (0 ≤ (pc : Int) + o)) = true then some (19, 0, ((pc : Int) + d).toNat, 0, offs.toList.zipIdx.map fun q => (lo + (q.2 : Int), ((pc : Int) + q.1).toNat)) else none
  | .lookupswitch d ps, _ => if (ps.toList.zip (ps.toList.drop 1)).all (fun (a, next) => a.1 < next.1) = true ∧ 0 ≤ (pc : Int) + d ∧ ps.toList.all (fun q => decide (0 ≤ (pc : Int) + q.2)) = true then some (19, 0, ((pc : Int) + d).toNat, 0, ps.toList.map fun q => (q.1, ((pc : Int) + q.2).toNat)) else none
  | _, _ => none
theorem am_tgt_eq {pc t : Nat} {off : Int} (h : am_tgt pc off = some t) : (pc : Int) + off = (t : Int) := by
  unfold am_tgt at h
  split at h
  · cases h; omega
  · cases h
theorem am_iEq {a b : Int} (ha : (Int32.ofInt a).toInt = a) (hb : (Int32.ofInt b).toInt = b) : Int32.ofInt a = Int32.ofInt b ↔ a = b :=
  ⟨fun h => by rw [← ha, ← hb, h], fun h => by rw [h]⟩
theorem am_iLt {a b : Int} (ha : (Int32.ofInt a).toInt = a) (hb : (Int32.ofInt b).toInt = b) : Int32.ofInt a < Int32.ofInt b ↔ a < b := by
  rw [Int32.lt_iff_toInt_lt, ha, hb]
theorem am_iLe {a b : Int} (ha : (Int32.ofInt a).toInt = a) (hb : (Int32.ofInt b).toInt = b) : Int32.ofInt a ≤ Int32.ofInt b ↔ a ≤ b := by
  rw [Int32.le_iff_toInt_le, ha, hb]
theorem am_lEq {a b : Int} (ha : (Int64.ofInt a).toInt = a) (hb : (Int64.ofInt b).toInt = b) : Int64.ofInt a = Int64.ofInt b ↔ a = b :=
  ⟨fun h => by rw [← ha, ← hb, h], fun h => by rw [h]⟩
theorem am_lLt {a b : Int} (ha : (Int64.ofInt a).toInt = a) (hb : (Int64.ofInt b).toInt = b) : Int64.ofInt a < Int64.ofInt b ↔ a < b := by
  rw [Int64.lt_iff_toInt_lt, ha, hb]
theorem am_io (X : Int32) : (Int32.ofInt X.toInt).toInt = X.toInt := by rw [Int32.ofInt_toInt]
theorem am_lo (X : Int64) : (Int64.ofInt X.toInt).toInt = X.toInt := by rw [Int64.ofInt_toInt]
theorem am_i0 {a : Int} (ha : (Int32.ofInt a).toInt = a) : Int32.ofInt a = 0 ↔ a = 0 := am_iEq (b := 0) ha (by decide)
theorem am_ilt0 {a : Int} (ha : (Int32.ofInt a).toInt = a) : Int32.ofInt a < 0 ↔ a < 0 := am_iLt (b := 0) ha (by decide)
theorem am_ile0 {a : Int} (ha : (Int32.ofInt a).toInt = a) : Int32.ofInt a ≤ 0 ↔ a ≤ 0 := am_iLe (b := 0) ha (by decide)
theorem am_ige0 {a : Int} (ha : (Int32.ofInt a).toInt = a) : 0 ≤ Int32.ofInt a ↔ 0 ≤ a := am_iLe (a := 0) (b := a) (by decide) ha
theorem am_igt0 {a : Int} (ha : (Int32.ofInt a).toInt = a) : 0 < Int32.ofInt a ↔ 0 < a := am_iLt (a := 0) (b := a) (by decide) ha
theorem am_sw_off {pc : Nat} {d x : Int} (hd : 0 ≤ (pc : Int) + d) : ∀ (ps : List (Int × Int)), ps.all (fun q => decide (0 ≤ (pc : Int) + q.2)) = true →
    (pc : Int) + Op.lookupswitch.offset ps d x = ((am_sw (ps.map fun q => (q.1, ((pc : Int) + q.2).toNat)) ((pc : Int) + d).toNat x : Nat) : Int)
  | [], _ => by
    show (pc : Int) + Op.lookupswitch.offset [] d x = ((((pc : Int) + d).toNat : Nat) : Int)
    unfold Op.lookupswitch.offset
    simp
    omega
  | (k, o) :: r, h => by
    simp only [List.all_cons, Bool.and_eq_true, decide_eq_true_eq] at h
    have ih := am_sw_off hd (x := x) r h.2
    unfold Op.lookupswitch.offset
    simp only [List.map_cons, am_sw]
    by_cases e : x = k
    · subst e
      simp
      omega
    · have e' : ¬ k = x := fun q => e q.symm
      rw [if_neg e, if_neg e']
      exact ih
theorem am_sw_in {pc : Nat} {D : Nat} {x : Int} : ∀ (offs : List Int) (lo : Int) (k : Nat), (∀ i o, offs[i]? = some o → x = lo + ((k + i : Nat) : Int) → am_sw ((offs.zipIdx k).map fun q => (lo + (q.2 : Int), ((pc : Int) + q.1).toNat)) D x = ((pc : Int) + o).toNat)
  | [], _, _, i, o, h, _ => by simp at h
  | a :: r, lo, k, 0, o, h, hx => by
    have h : a = o := by simpa using h
    subst h
    simp only [List.zipIdx_cons, List.map_cons, am_sw]
    rw [if_pos (by simpa using hx)]
  | a :: r, lo, k, i + 1, o, h, hx => by
    have h : r[i]? = some o := by simpa using h
    simp only [List.zipIdx_cons, List.map_cons, am_sw]
    rw [if_neg (by omega)]
    exact am_sw_in r lo (k + 1) i o h (by rw [hx]; congr 2; omega)
theorem am_sw_out {pc : Nat} {D : Nat} {x : Int} : ∀ (offs : List Int) (lo : Int) (k : Nat), (x < lo + (k : Int) ∨ lo + ((k + offs.length : Nat) : Int) ≤ x) → am_sw ((offs.zipIdx k).map fun q => (lo + (q.2 : Int), ((pc : Int) + q.1).toNat)) D x = D
  | [], _, _, _ => rfl
  | a :: r, lo, k, h => by
    simp only [List.zipIdx_cons, List.map_cons, am_sw]
    simp only [List.length_cons] at h
    rw [if_neg (by omega)]
    exact am_sw_out r lo (k + 1) (by omega)
