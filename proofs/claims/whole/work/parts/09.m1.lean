/-! THE CELLS of the small machine: objects (class, fields), rows of whole numbers (kind 0 int, 1 byte, 2 boolean, 3 long), rows of references (kind 100 + class; 99 of rows of ints). A reference: a cell, or a thing from outside: 0 the script, j + 1 the text j. -/
abbrev R1 : Type := Nat ⊕ Nat
abbrev C1 : Type := (Nat × List (AV R1)) ⊕ ((Nat × Nat × (Nat → Int)) ⊕ (Nat × Nat × (Nat → Option Nat)))
abbrev W1 : Type := List C1
def am_u (f : Nat → Int) (k : Nat) (x : Int) : Nat → Int := fun j => if j = k then x else f j
def am_uq (f : Nat → Option Nat) (k : Nat) (x : Option Nat) : Nat → Option Nat := fun j => if j = k then x else f j
def am_cp (f g : Nat → Int) (sp dp n : Nat) : Nat → Int := fun k => if dp ≤ k ∧ k < dp + n then f (sp + (k - dp)) else g k
def am_in (i : Int) (n : Nat) : Bool := decide (0 ≤ i ∧ i < n)
def am_tm (t idx : Nat) : Bool := Nat.beq t idx || (Nat.beq idx 1 && Nat.beq t 2)
/-- what a field takes: 0 an int, 1 a boolean, 2 a reference -/
def am_fit {ρ : Type} (t : Nat) (v : AV ρ) : Bool := match t, v with
  | 0, .inl _ => true
  | 1, .inl z => decide (z = 0 ∨ z = 1)
  | 2, .inr (.inr _) => true
  | _, _ => false
def am_def {ρ : Type} (t : Nat) : AV ρ := if t = 2 then vN else vI 0
def m1_get (idx : Nat) (as : List (AV R1)) (w : W1) : Option (Option (AV R1) × W1) := match as with
  | [.inr (.inr (some (.inl a)))] => match w[a]? with
    | some (.inl (c, fs)) => if idx / 128 = c then match fs[idx % 128]? with
      | some v => some (some v, w)
      | none => none
      else none
    | _ => none
  | _ => none
def m1_put (ft : Nat → List Nat) (idx : Nat) (as : List (AV R1)) (w : W1) : Option (Option (AV R1) × W1) := match as with
  | [.inr (.inr (some (.inl a))), v] => match w[a]? with
    | some (.inl (c, fs)) => if idx / 128 = c ∧ idx % 128 < fs.length then match (ft c)[idx % 128]? with
      | some t => if am_fit t v = true then some (none, w.set a (.inl (c, fs.set (idx % 128) v))) else none
      | none => none
      else none
    | _ => none
  | _ => none
def m1_ald (T : List (List Nat)) (sl : Nat) (sx : Nat → Int) (idx : Nat) (as : List (AV R1)) (w : W1) : Option (Option (AV R1) × W1) := match as with
  | [.inr (.inr (some (.inl a))), .inl i] => match w[a]? with
    | some (.inr (.inl (t, n, f))) => if am_tm t idx = true ∧ am_in i n = true then some (some (if t = 3 then vL (f i.toNat) else vI (f i.toNat)), w) else none
    | some (.inr (.inr (_, n, g))) => if idx = 4 ∧ am_in i n = true then some (some (.inr (.inr ((g i.toNat).map Sum.inl))), w) else none
    | _ => none
  | [.inr (.inr (some (.inr j))), .inl i] => if j = 0 ∧ idx = 0 ∧ am_in i sl = true then some (some (vI (sx i.toNat)), w)
    else if 1001 ≤ j ∧ idx = 1 then match T[j - 1001]? with
      | some bs => if am_in i bs.length = true then some (some (vI (Int.ofNat (bs.getD i.toNat 0))), w) else none
      | none => none
    else none
  | _ => none
def m1_ast (idx : Nat) (as : List (AV R1)) (w : W1) : Option (Option (AV R1) × W1) := match as with
  | [.inr (.inr (some (.inl a))), .inl i, .inl x] => match w[a]? with
    | some (.inr (.inl (t, n, f))) => if am_tm t idx = true ∧ am_in i n = true then match t with
      | 0 => some (none, w.set a (.inr (.inl (t, n, am_u f i.toNat x))))
      | 1 => some (none, w.set a (.inr (.inl (t, n, am_u f i.toNat (ji2b x)))))
      | 2 => if x = 0 ∨ x = 1 then some (none, w.set a (.inr (.inl (t, n, am_u f i.toNat x)))) else none
      | _ => none
      else none
    | _ => none
  | [.inr (.inr (some (.inl a))), .inl i, .inr (.inl x)] => match w[a]? with
    | some (.inr (.inl (t, n, f))) => if idx = 3 ∧ t = 3 ∧ am_in i n = true then some (none, w.set a (.inr (.inl (t, n, am_u f i.toNat x)))) else none
    | _ => none
  | [.inr (.inr (some (.inl a))), .inl i, .inr (.inr (some (.inl b)))] => match w[a]? with
    | some (.inr (.inr (t, n, g))) => match w[b]? with
      | some (.inl (c, _)) => if idx = 4 ∧ t = 100 + c ∧ am_in i n = true then some (none, w.set a (.inr (.inr (t, n, am_uq g i.toNat (some b))))) else none
      | _ => none
    | _ => none
  | _ => none
def m1_len (T : List (List Nat)) (sl : Nat) (as : List (AV R1)) (w : W1) : Option (Option (AV R1) × W1) := match as with
  | [.inr (.inr (some (.inl a)))] => match w[a]? with
    | some (.inr (.inl (_, n, _))) => if n ≤ 100000 then some (some (vI n), w) else none
    | some (.inr (.inr (_, n, _))) => if n ≤ 100000 then some (some (vI n), w) else none
    | _ => none
  | [.inr (.inr (some (.inr j)))] => if j = 0 ∧ sl ≤ 100000 then some (some (vI sl), w)
    else if 1001 ≤ j then match T[j - 1001]? with
      | some bs => if bs.length ≤ 100000 then some (some (vI bs.length), w) else none
      | none => none
    else none
  | _ => none
def m1_new (ft : Nat → List Nat) (idx : Nat) (as : List (AV R1)) (w : W1) : Option (Option (AV R1) × W1) := match as with
  | [] => if idx < 13 then some (some (vR (.inl w.length)), w ++ [.inl (idx, (ft idx).map am_def)]) else none
  | _ => none
def m1_newa (idx : Nat) (as : List (AV R1)) (w : W1) : Option (Option (AV R1) × W1) := match as with
  | [.inl n] => if 0 ≤ n ∧ n ≤ 100000 ∧ idx ≤ 3 then some (some (vR (.inl w.length)), w ++ [.inr (.inl (idx, n.toNat, fun _ => 0))]) else none
  | _ => none
def m1_newq (idx : Nat) (as : List (AV R1)) (w : W1) : Option (Option (AV R1) × W1) := match as with
  | [.inl n] => if 0 ≤ n ∧ n ≤ 100000 ∧ (idx = 4 ∨ idx = 6 ∨ idx = 8) then some (some (vR (.inl w.length)), w ++ [.inr (.inr (100 + idx, n.toNat, fun _ => none))]) else none
  | _ => none
def m1_mna (as : List (AV R1)) (w : W1) : Option (Option (AV R1) × W1) := match as with
  | [.inl n, .inl k] => if 0 ≤ n ∧ n ≤ 100 ∧ 0 ≤ k ∧ k ≤ 100 then
      some (some (vR (.inl w.length)), w ++ (.inr (.inr (99, n.toNat, fun j => if j < n.toNat then some (w.length + 1 + j) else none)) :: List.replicate n.toNat (.inr (.inl (0, k.toNat, fun _ => 0))))) else none
  | _ => none
def m1_cpy (as : List (AV R1)) (w : W1) : Option (Option (AV R1) × W1) := match as with
  | [.inr (.inr (some (.inl a))), .inl sp, .inr (.inr (some (.inl b))), .inl dp, .inl n] => match w[a]?, w[b]? with
    | some (.inr (.inl (t, n0, f))), some (.inr (.inl (u, n1, g))) => if t = 0 ∧ u = 0 ∧ 0 ≤ sp ∧ 0 ≤ dp ∧ 0 ≤ n ∧ sp.toNat + n.toNat ≤ n0 ∧ dp.toNat + n.toNat ≤ n1 then some (none, w.set b (.inr (.inl (u, n1, am_cp f g sp.toNat dp.toNat n.toNat)))) else none
    | _, _ => none
  | _ => none
/-- a text's fields: 0 its bytes, 1 its coder -/
def m1_tf (T : List (List Nat)) (idx : Nat) (as : List (AV R1)) (w : W1) : Option (Option (AV R1) × W1) := match as with
  | [.inr (.inr (some (.inr j)))] => if 1 ≤ j ∧ j ≤ T.length then match idx with
    | 0 => some (some (vR (.inr (1000 + j))), w)
    | 1 => some (some (vI 0), w)
    | _ => none
    else none
  | _ => none
/-- statics: 0 COMPACT_STRINGS, 1 the formatter (null or not: a place far behind the script says it) -/
def m1_gs (sx : Nat → Int) (idx : Nat) (as : List (AV R1)) (w : W1) : Option (Option (AV R1) × W1) := match as with
  | [] => match idx with
    | 0 => some (some (vI 1), w)
    | 1 => some (some (if sx 1000000 = 0 then vN else vR (.inr 5000)), w)
    | _ => none
  | _ => none
/-- what the machine asks of its cells: T the texts, sx the script of length sl -/
def m1 (ft : Nat → List Nat) (T : List (List Nat)) (sl : Nat) (sx : Nat → Int) (kind idx : Nat) (as : List (AV R1)) (w : W1) : Option (Option (AV R1) × W1) := match kind with
  | 0 => m1_get idx as w
  | 1 => m1_put ft idx as w
  | 2 => m1_ald T sl sx idx as w
  | 3 => m1_ast idx as w
  | 4 => m1_len T sl as w
  | 5 => m1_new ft idx as w
  | 6 => m1_newa idx as w
  | 7 => m1_newq idx as w
  | 8 => m1_mna as w
  | 9 => match as with
    | [] => if idx < T.length then some (some (vR (.inr (idx + 1))), w) else none
    | _ => none
  | 10 => m1_cpy as w
  | 14 => match as with
    | [.inr (.inr (some (.inl _)))] => some (none, w)
    | _ => none
  | 15 => match as with
    | [.inl x, .inl y] => some (some (vI (if x < y then y else x)), w)
    | _ => none
  | 16 => match as with
    | [.inl x, .inl y] => some (some (vI (if y < x then y else x)), w)
    | _ => none
  | 17 => match as with
    | [.inr (.inr (some (.inl a)))] => match w[a]? with
      | some (.inl (c, _)) => if c = am_o idx then some (none, w) else none
      | _ => none
    | [.inr (.inr (some (.inr j)))] => if 1 ≤ j ∧ j ≤ T.length ∧ am_o idx = 16 then some (none, w) else none
    | _ => none
  | 18 => m1_gs sx idx as w
  | 19 => m1_tf T idx as w
  | _ => none
