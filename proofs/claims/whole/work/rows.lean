section
/-! THE SMALL MACHINE: what the bytecode does, over whole numbers and a list of cells. Values: an int, a long, null, a reference. -/
abbrev AV (ρ : Type) : Type := Int ⊕ (Int ⊕ Option ρ)
abbrev vI {ρ : Type} (x : Int) : AV ρ := Sum.inl x
abbrev vL {ρ : Type} (x : Int) : AV ρ := Sum.inr (Sum.inl x)
abbrev vN {ρ : Type} : AV ρ := Sum.inr (Sum.inr none)
abbrev vR {ρ : Type} (a : ρ) : AV ρ := Sum.inr (Sum.inr (some a))
abbrev am_L (ρ : Type) : Type := List (Option (AV ρ))
/-- an instruction: its kind, two numbers, a whole number, a table -/
abbrev am_I : Type := Nat × Nat × Nat × Int × List (Int × Nat)
def jadd (x y : Int) : Int := (Int32.ofInt x + Int32.ofInt y).toInt
def jsub (x y : Int) : Int := (Int32.ofInt x - Int32.ofInt y).toInt
def jmul (x y : Int) : Int := (Int32.ofInt x * Int32.ofInt y).toInt
def jand (x y : Int) : Int := (Int32.ofInt x &&& Int32.ofInt y).toInt
def jor (x y : Int) : Int := (Int32.ofInt x ||| Int32.ofInt y).toInt
def jxor (x y : Int) : Int := (Int32.ofInt x ^^^ Int32.ofInt y).toInt
def jshl (x y : Int) : Int := (Int32.ofInt x <<< (Int32.ofInt y &&& 31)).toInt
def jshr (x y : Int) : Int := (Int32.ofInt x >>> (Int32.ofInt y &&& 31)).toInt
def jushr (x y : Int) : Int := (((Int32.ofInt x).toUInt32 >>> ((Int32.ofInt y).toUInt32 &&& Int32.toUInt32 31)).toInt32).toInt
def jdiv (x y : Int) : Int := (Int32.ofInt x / Int32.ofInt y).toInt
def jrem (x y : Int) : Int := (Int32.ofInt x - Int32.ofInt x / Int32.ofInt y * Int32.ofInt y).toInt
def jneg (x : Int) : Int := (-(Int32.ofInt x)).toInt
def ji2b (x : Int) : Int := ((Int32.ofInt x).toInt8.toInt32).toInt
def ji2c (x : Int) : Int := (((Int32.ofInt x).toUInt32 % 65536).toInt32).toInt
def ji2l (x : Int) : Int := ((Int32.ofInt x).toInt64).toInt
def jl2i (x : Int) : Int := ((Int64.ofInt x).toInt32).toInt
def kadd (x y : Int) : Int := (Int64.ofInt x + Int64.ofInt y).toInt
def ksub (x y : Int) : Int := (Int64.ofInt x - Int64.ofInt y).toInt
def kmul (x y : Int) : Int := (Int64.ofInt x * Int64.ofInt y).toInt
def kand (x y : Int) : Int := (Int64.ofInt x &&& Int64.ofInt y).toInt
def kor (x y : Int) : Int := (Int64.ofInt x ||| Int64.ofInt y).toInt
def kdiv (x y : Int) : Int := (Int64.ofInt x / Int64.ofInt y).toInt
def krem (x y : Int) : Int := (Int64.ofInt x - Int64.ofInt x / Int64.ofInt y * Int64.ofInt y).toInt
def jcmp (x y : Int) : Int := if y < x then 1 else if x = y then 0 else -1
def am_ibin (b : Nat) (x y : Int) : Option Int := match b with
  | 0 => some (jadd x y)
  | 1 => some (jsub x y)
  | 2 => some (jmul x y)
  | 3 => some (jand x y)
  | 4 => some (jor x y)
  | 5 => some (jxor x y)
  | 6 => some (jshl x y)
  | 7 => some (jshr x y)
  | 8 => some (jushr x y)
  | 9 => if y = 0 then none else some (jdiv x y)
  | 10 => if y = 0 then none else some (jrem x y)
  | _ => none
def am_iun (b : Nat) (x : Int) : Option Int := match b with
  | 0 => some (jneg x)
  | 1 => some (ji2b x)
  | 2 => some (ji2c x)
  | _ => none
def am_lbin (b : Nat) (x y : Int) : Option Int := match b with
  | 0 => some (kadd x y)
  | 1 => some (ksub x y)
  | 2 => some (kmul x y)
  | 3 => some (kand x y)
  | 4 => some (kor x y)
  | 5 => if y = 0 then none else some (kdiv x y)
  | 6 => if y = 0 then none else some (krem x y)
  | _ => none
def am_cond (b : Nat) (x y : Int) : Prop := match b with
  | 0 => x = y
  | 1 => ¬ x = y
  | 2 => x < y
  | 3 => y ≤ x
  | 4 => y < x
  | _ => x ≤ y
def am_condD (b : Nat) (x y : Int) : Decidable (am_cond b x y) := match b with
  | 0 => inferInstanceAs (Decidable (x = y))
  | 1 => inferInstanceAs (Decidable (¬ x = y))
  | 2 => inferInstanceAs (Decidable (x < y))
  | 3 => inferInstanceAs (Decidable (y ≤ x))
  | 4 => inferInstanceAs (Decidable (y < x))
  | 5 => inferInstanceAs (Decidable (x ≤ y))
  | _ + 6 => inferInstanceAs (Decidable (x ≤ y))
def am_isL {ρ : Type} : AV ρ → Bool
  | .inr (.inl _) => true
  | _ => false
def am_cat {ρ : Type} (v : AV ρ) : Nat := if am_isL v then 2 else 1
def am_ty {ρ : Type} (t : Nat) (v : AV ρ) : Bool := match t, v with
  | 0, .inl _ => true
  | 1, .inr (.inl _) => true
  | 2, .inr (.inr _) => true
  | _, _ => false
/-- a long one place ahead goes when a place is written -/
def am_kill {ρ : Type} (x : Nat) (L : am_L ρ) : am_L ρ := match x with
  | 0 => L
  | y + 1 => match L[y]? with
    | some (some (.inr (.inl _))) => L.set y none
    | _ => L
def am_st {ρ : Type} (x : Nat) (v : AV ρ) (L : am_L ρ) : Option (am_L ρ) := match v with
  | .inr (.inl _) => if x + 1 < L.length then some (((am_kill x L).set x (some v)).set (x + 1) none) else none
  | _ => if x < L.length then some ((am_kill x L).set x (some v)) else none
def am_sw (tb : List (Int × Nat)) (d : Nat) (x : Int) : Nat := match tb with
  | [] => d
  | (k, t) :: r => if x = k then t else am_sw r d x
/-- a step that touches neither cells nor calls: where it goes on, with which locals, which stack -/
def am_p {ρ : Type} (op x y : Nat) (im : Int) (tb : List (Int × Nat)) (nx : Nat) (L : am_L ρ) (S : List (AV ρ)) : Option (Nat × am_L ρ × List (AV ρ)) := match op with
  | 0 => some (nx, L, vI im :: S)
  | 1 => some (nx, L, vL im :: S)
  | 2 => some (nx, L, vN :: S)
  | 3 => match L[x]? with
    | some (some v) => if am_ty y v = true then some (nx, L, v :: S) else none
    | _ => none
  | 4 => match S with
    | v :: S' => if am_ty y v = true then match am_st x v L with
        | some L' => some (nx, L', S')
        | none => none
      else none
    | _ => none
  | 5 => match L[x]? with
    | some (some (.inl v)) => some (nx, L.set x (some (vI (jadd v im))), S)
    | _ => none
  | 6 => match S with
    | .inl b :: .inl a :: S' => match am_ibin x a b with
      | some r => some (nx, L, vI r :: S')
      | none => none
    | _ => none
  | 7 => match S with
    | .inl a :: S' => match am_iun x a with
      | some r => some (nx, L, vI r :: S')
      | none => none
    | _ => none
  | 8 => match S with
    | .inl a :: S' => some (nx, L, vL (ji2l a) :: S')
    | _ => none
  | 9 => match S with
    | .inr (.inl a) :: S' => some (nx, L, vI (jl2i a) :: S')
    | _ => none
  | 10 => match S with
    | .inr (.inl b) :: .inr (.inl a) :: S' => match am_lbin x a b with
      | some r => some (nx, L, vL r :: S')
      | none => none
    | _ => none
  | 11 => match S with
    | .inr (.inl b) :: .inr (.inl a) :: S' => some (nx, L, vI (jcmp a b) :: S')
    | _ => none
  | 12 => match S with
    | .inl v :: S' => some (nx, L, vI v :: vI v :: S')
    | .inr (.inr v) :: S' => some (nx, L, .inr (.inr v) :: .inr (.inr v) :: S')
    | _ => none
  | 13 => match S with
    | .inl v :: .inr (.inr u) :: S' => some (nx, L, vI v :: .inr (.inr u) :: vI v :: .inr (.inr u) :: S')
    | _ => none
  | 14 => match S with
    | .inl _ :: S' => some (nx, L, S')
    | .inr (.inr _) :: S' => some (nx, L, S')
    | _ => none
  | 15 => match S with
    | .inl b :: .inl a :: S' => some (@ite _ (am_cond x a b) (am_condD x a b) y nx, L, S')
    | _ => none
  | 16 => match S with
    | .inl a :: S' => some (@ite _ (am_cond x a 0) (am_condD x a 0) y nx, L, S')
    | _ => none
  | 17 => match S with
    | .inr (.inr none) :: S' => some (if x = 0 then y else nx, L, S')
    | .inr (.inr (some _)) :: S' => some (if x = 0 then nx else y, L, S')
    | _ => none
  | 18 => some (y, L, S)
  | 19 => match S with
    | .inl a :: S' => some (am_sw tb y a, L, S')
    | _ => none
  | _ => none
/-- the locals at a method's start -/
def am_loc {ρ : Type} (n : Nat) (as : List (AV ρ)) : am_L ρ := match as with
  | [] => List.replicate n none
  | v :: r => if am_isL v then some v :: none :: am_loc (n - 2) r else some v :: am_loc (n - 1) r
def am_small {ρ : Type} (S : List (AV ρ)) : Bool := decide ((S.map am_cat).sum ≤ 8)
/-- a run: n steps at most, calls d deep at most; what comes back, and the memory behind it -/
def am_run {ρ μ : Type} (P : Nat → Nat → Option (am_I × Nat)) (NL : Nat → Nat) (mem : Nat → Nat → List (AV ρ) → μ → Option (Option (AV ρ) × μ)) :
    Nat → Nat → Nat → Nat → am_L ρ → List (AV ρ) → μ → Option (Option (AV ρ) × μ)
  | 0, _, _, _, _, _, _ => none
  | n + 1, d, k, pc, L, S, m =>
    match P k pc with
    | none => none
    | some ((op, x, y, im, tb), nx) =>
      match op with
      | 21 => match d with
        | 0 => none
        | d' + 1 =>
          if y ≤ S.length ∧ am_small (S.drop y) = true then
            match am_run P NL mem n d' x 0 (am_loc (NL x) (S.take y).reverse) [] m with
            | none => none
            | some (rv, m') => am_run P NL mem n d k nx L (rv.toList ++ S.drop y) m'
          else none
      | 22 => match S with
        | [v] => if (match x, v with
            | 0, .inl _ => true
            | 1, .inl z => decide (z = 0 ∨ z = 1)
            | 2, .inr (.inl _) => true
            | 3, .inr (.inr _) => true
            | _, _ => false) = true then some (some v, m) else none
        | _ => none
      | 23 => match S with
        | [] => some (none, m)
        | _ => none
      | 24 => match d with
        | 0 => none
        | _ + 1 =>
          if y ≤ S.length ∧ am_small (S.drop y) = true then
            match mem x im.toNat (S.take y).reverse m with
            | none => none
            | some (rv, m') => am_run P NL mem n d k nx L (rv.toList ++ S.drop y) m'
          else none
      | _ => match am_p op x y im tb nx L S with
        | none => none
        | some (pc', L', S') => am_run P NL mem n d k pc' L' S' m
end
section
/-! THE CELLS of the small machine: objects (class, fields), rows of whole numbers (kind 0 int, 1 byte, 2 boolean, 3 long), rows of references (kind). A reference: a cell, or a thing from outside: 0 the script, j + 1 the text j. -/
abbrev R1 : Type := Nat ⊕ Nat
abbrev C1 : Type := (Nat × List (AV R1)) ⊕ ((Nat × Nat × (Nat → Int)) ⊕ (Nat × Nat × (Nat → Option Nat)))
abbrev W1 : Type := List C1
def am_u (f : Nat → Int) (k : Nat) (x : Int) : Nat → Int := fun j => if j = k then x else f j
def am_uq (f : Nat → Option Nat) (k : Nat) (x : Option Nat) : Nat → Option Nat := fun j => if j = k then x else f j
def am_cp (f g : Nat → Int) (sp dp n : Nat) : Nat → Int := fun k => if dp ≤ k ∧ k < dp + n then f (sp + (k - dp)) else g k
def am_in (i : Int) (n : Nat) : Bool := decide (0 ≤ i ∧ i < n)
/-- what a field takes: 0 an int, 1 a boolean, 2 a reference -/
def am_fit {ρ : Type} (t : Nat) (v : AV ρ) : Bool := match t, v with
  | 0, .inl _ => true
  | 1, .inl z => decide (z = 0 ∨ z = 1)
  | 2, .inr (.inr _) => true
  | _, _ => false
def am_def {ρ : Type} (t : Nat) : AV ρ := if t = 2 then vN else vI 0
/-- the texts: T the j-th text's bytes -/
def m1 (ft : Nat → List Nat) (T : List (List Nat)) (sl : Nat) (sx : Nat → Int) (kind idx : Nat) (as : List (AV R1)) (w : W1) : Option (Option (AV R1) × W1) := match kind with
  | 0 => match as with
    | [.inr (.inr (some (.inl a)))] => match w[a]? with
      | some (.inl (c, fs)) => if idx / 128 = c then match fs[idx % 128]? with
        | some v => some (some v, w)
        | none => none
        else none
      | _ => none
    | _ => none
  | 1 => match as with
    | [.inr (.inr (some (.inl a))), v] => match w[a]? with
      | some (.inl (c, fs)) => if idx / 128 = c ∧ idx % 128 < fs.length then match (ft c)[idx % 128]? with
        | some t => if am_fit t v = true then some (none, w.set a (.inl (c, fs.set (idx % 128) v))) else none
        | none => none
        else none
      | _ => none
    | _ => none
  | 2 => match as with
    | [.inr (.inr (some (.inl a))), .inl i] => match w[a]? with
      | some (.inr (.inl (t, n, f))) => if t = idx ∧ am_in i n = true then some (some (if t = 3 then vL (f i.toNat) else vI (f i.toNat)), w) else none
      | some (.inr (.inr (t, n, g))) => if t = idx ∧ am_in i n = true then some (some (.inr (.inr ((g i.toNat).map Sum.inl))), w) else none
      | _ => none
    | [.inr (.inr (some (.inr 0))), .inl i] => if idx = 0 ∧ am_in i sl = true then some (some (vI (sx i.toNat)), w) else none
    | _ => none
  | 3 => match as with
    | [.inr (.inr (some (.inl a))), .inl i, .inl x] => match w[a]? with
      | some (.inr (.inl (t, n, f))) => if t = idx ∧ am_in i n = true then match t with
        | 0 => some (none, w.set a (.inr (.inl (t, n, am_u f i.toNat x))))
        | 1 => some (none, w.set a (.inr (.inl (t, n, am_u f i.toNat (ji2b x)))))
        | 2 => if x = 0 ∨ x = 1 then some (none, w.set a (.inr (.inl (t, n, am_u f i.toNat x)))) else none
        | _ => none
        else none
      | _ => none
    | [.inr (.inr (some (.inl a))), .inl i, .inr (.inl x)] => match w[a]? with
      | some (.inr (.inl (t, n, f))) => if t = idx ∧ t = 3 ∧ am_in i n = true then some (none, w.set a (.inr (.inl (t, n, am_u f i.toNat x)))) else none
      | _ => none
    | [.inr (.inr (some (.inl a))), .inl i, .inr (.inr (some (.inl b)))] => match w[a]? with
      | some (.inr (.inr (t, n, g))) => match w[b]? with
        | some (.inl (c, _)) => if t = idx ∧ t = 10 + c ∧ am_in i n = true then some (none, w.set a (.inr (.inr (t, n, am_uq g i.toNat (some b))))) else none
        | _ => none
      | _ => none
    | _ => none
  | 4 => match as with
    | [.inr (.inr (some (.inl a)))] => match w[a]? with
      | some (.inr (.inl (_, n, _))) => if n ≤ 100000 then some (some (vI n), w) else none
      | some (.inr (.inr (_, n, _))) => if n ≤ 100000 then some (some (vI n), w) else none
      | _ => none
    | [.inr (.inr (some (.inr 0)))] => if sl ≤ 100000 then some (some (vI sl), w) else none
    | _ => none
  | 5 => match as with
    | [] => some (some (vR (.inl w.length)), w ++ [.inl (idx, (ft idx).map am_def)])
    | _ => none
  | 6 => match as with
    | [.inl n] => if 0 ≤ n ∧ n ≤ 100000 ∧ idx ≤ 3 then some (some (vR (.inl w.length)), w ++ [.inr (.inl (idx, n.toNat, fun _ => 0))]) else none
    | _ => none
  | 7 => match as with
    | [.inl n] => if 0 ≤ n ∧ n ≤ 100000 then some (some (vR (.inl w.length)), w ++ [.inr (.inr (idx, n.toNat, fun _ => none))]) else none
    | _ => none
  | 8 => match as with
    | [.inl n, .inl k] => if 0 ≤ n ∧ n ≤ 100 ∧ 0 ≤ k ∧ k ≤ 100 then
        some (some (vR (.inl w.length)), w ++ (.inr (.inr (9, n.toNat, fun j => if j < n.toNat then some (w.length + 1 + j) else none)) :: List.replicate n.toNat (.inr (.inl (0, k.toNat, fun _ => 0))))) else none
    | _ => none
  | 9 => match as with
    | [] => if idx < T.length then some (some (vR (.inr (idx + 1))), w) else none
    | _ => none
  | 10 => match as with
    | [.inr (.inr (some (.inl a))), .inl sp, .inr (.inr (some (.inl b))), .inl dp, .inl n] => match w[a]?, w[b]? with
      | some (.inr (.inl (t, n0, f))), some (.inr (.inl (u, n1, g))) => if t = 0 ∧ u = 0 ∧ 0 ≤ sp ∧ 0 ≤ dp ∧ 0 ≤ n ∧ sp.toNat + n.toNat ≤ n0 ∧ dp.toNat + n.toNat ≤ n1 then some (none, w.set b (.inr (.inl (u, n1, am_cp f g sp.toNat dp.toNat n.toNat)))) else none
      | _, _ => none
    | _ => none
  | 11 => match as with
    | [.inr (.inr (some (.inr (j + 1))))] => match T[j]? with
      | some bs => some (some (vI bs.length), w)
      | none => none
    | _ => none
  | 12 => match as with
    | [.inr (.inr (some (.inr (j + 1)))), .inl i] => match T[j]? with
      | some bs => if am_in i bs.length = true then some (some (vI (bs.getD i.toNat 0)), w) else none
      | none => none
    | _ => none
  | 13 => match as with
    | [.inr (.inr (some (.inr (j + 1)))), .inl c] => match T[j]? with
      | some bs => some (some (vI (match bs.findIdx? (fun b : Nat => decide ((b : Int) = c)) with
        | some i => (i : Int)
        | none => -1)), w)
      | none => none
    | _ => none
  | 14 => match as with
    | [.inr (.inr (some (.inl _)))] => some (none, w)
    | _ => none
  | 15 => match as with
    | [.inl x, .inl y] => some (some (vI (if x < y then y else x)), w)
    | _ => none
  | 16 => match as with
    | [.inl x, .inl y] => some (some (vI (if y < x then y else x)), w)
    | _ => none
  | _ => none
end
section
/-! THE SMALL MACHINE'S CELLS AND THE REAL HEAP: A gives each cell its address, B each thing from outside -/
def am_cv (A B : Nat → Nat) : AV R1 → Value
  | .inl x => .int (Int32.ofInt x)
  | .inr (.inl x) => .long (Int64.ofInt x)
  | .inr (.inr none) => .null
  | .inr (.inr (some (.inl a))) => .ref (A a)
  | .inr (.inr (some (.inr j))) => .ref (B j)
def am_cc (A B : Nat → Nat) (dA : Nat → ClassId) : C1 → va_E
  | .inl (c, fs) => .inr (c, fs.map (am_cv A B))
  | .inr (.inl (t, n, f)) => if t = 3 then .inl (dA 3, n, .inr (.inl (fun j => Int64.ofInt (f j)))) else .inl (dA t, n, .inl (fun j => Int32.ofInt (f j)))
  | .inr (.inr (t, n, g)) => .inl (dA t, n, .inr (.inr (.inr (.inr (fun j => (g j).map A)))))
def am_ws (A B : Nat → Nat) (dA : Nat → ClassId) (w : W1) : va_W := w.mapIdx fun i c => (A i, am_cc A B dA c)
def am_ok (n : Nat) : AV R1 → Prop
  | .inl x => (Int32.ofInt x).toInt = x
  | .inr (.inl x) => (Int64.ofInt x).toInt = x
  | .inr (.inr (some (.inl a))) => a < n
  | _ => True
def am_okc (n : Nat) : C1 → Prop
  | .inl (_, fs) => ∀ v ∈ fs, am_ok n v
  | .inr (.inl (t, _, f)) => ∀ j, if t = 3 then (Int64.ofInt (f j)).toInt = f j else (Int32.ofInt (f j)).toInt = f j
  | .inr (.inr (_, _, g)) => ∀ j a, g j = some a → a < n
def am_szc (ft : Nat → List Nat) : C1 → Nat
  | .inl (c, _) => (ft c).length
  | .inr (.inl (_, n, _)) => n
  | .inr (.inr (_, n, _)) => n
def am_sl (ft : Nat → List Nat) (w : W1) : Nat := (w.map (am_szc ft)).sum
theorem am_ws_get {A B : Nat → Nat} {dA : Nat → ClassId} {w : W1} (a : Nat) : (am_ws A B dA w)[a]? = (w[a]?).map (fun c => (A a, am_cc A B dA c)) := by
  unfold am_ws
  rw [List.getElem?_mapIdx]
theorem am_ws_at {A B : Nat → Nat} {dA : Nat → ClassId} {w : W1} {a : Nat} {c : C1} (h : w[a]? = some c) : (am_ws A B dA w)[a]? = some (A a, am_cc A B dA c) := by
  rw [am_ws_get, h]; rfl
theorem am_ws_set {A B : Nat → Nat} {dA : Nat → ClassId} {w : W1} {a : Nat} {c : C1} : (am_ws A B dA w).set a (A a, am_cc A B dA c) = am_ws A B dA (w.set a c) := by
  apply List.ext_getElem?
  intro i
  rw [am_ws_get, List.getElem?_set, List.getElem?_set, am_ws_get]
  have hl : (am_ws A B dA w).length = w.length := by unfold am_ws; simp
  rw [hl]
  by_cases h : a = i
  · subst h
    by_cases h2 : a < w.length <;> simp [h2]
  · simp [h]
theorem am_ws_len {A B : Nat → Nat} {dA : Nat → ClassId} {w : W1} : (am_ws A B dA w).length = w.length := by unfold am_ws; simp
theorem am_ok_mono {n n' : Nat} (h : n ≤ n') : ∀ {v : AV R1}, am_ok n v → am_ok n' v
  | .inl _, q => q
  | .inr (.inl _), q => q
  | .inr (.inr none), q => q
  | .inr (.inr (some (.inl _))), q => Nat.lt_of_lt_of_le q h
  | .inr (.inr (some (.inr _))), q => q
theorem am_okc_mono {n n' : Nat} (h : n ≤ n') : ∀ {c : C1}, am_okc n c → am_okc n' c
  | .inl _, q => fun v hv => am_ok_mono h (q v hv)
  | .inr (.inl _), q => q
  | .inr (.inr _), q => fun j a e => Nat.lt_of_lt_of_le (q j a e) h
theorem am_cv_congr {n : Nat} {A A' B : Nat → Nat} (hA : ∀ a, a < n → A' a = A a) : ∀ {v : AV R1}, am_ok n v → am_cv A' B v = am_cv A B v
  | .inl _, _ => rfl
  | .inr (.inl _), _ => rfl
  | .inr (.inr none), _ => rfl
  | .inr (.inr (some (.inl a))), q => by show Value.ref (A' a) = .ref (A a); rw [hA a q]
  | .inr (.inr (some (.inr _))), _ => rfl
theorem am_map_congr {n : Nat} {A A' B : Nat → Nat} (hA : ∀ a, a < n → A' a = A a) {S : List (AV R1)} (h : ∀ v ∈ S, am_ok n v) : S.map (am_cv A' B) = S.map (am_cv A B) :=
  List.map_congr_left fun v hv => am_cv_congr hA (h v hv)
theorem am_cc_congr {n : Nat} {A A' B : Nat → Nat} {dA : Nat → ClassId} (hA : ∀ a, a < n → A' a = A a) : ∀ {c : C1}, am_okc n c → am_cc A' B dA c = am_cc A B dA c
  | .inl (c, fs), q => by
    show (Sum.inr (c, fs.map (am_cv A' B)) : va_E) = .inr (c, fs.map (am_cv A B))
    rw [am_map_congr hA q]
  | .inr (.inl _), _ => rfl
  | .inr (.inr (t, n', g)), q => by
    show (Sum.inl (dA t, n', _) : va_E) = .inl (dA t, n', _)
    have : (fun j => (g j).map A') = fun j => (g j).map A := funext fun j => by
      cases hg : g j with
      | none => rfl
      | some a => show some (A' a) = some (A a); rw [hA a (q j a hg)]
    rw [this]
theorem am_ws_app {A A' B : Nat → Nat} {dA : Nat → ClassId} {w : W1} {c : C1} (hA : ∀ a, a < w.length → A' a = A a) (hw : ∀ c ∈ w, am_okc w.length c) : am_ws A' B dA (w ++ [c]) = am_ws A B dA w ++ [(A' w.length, am_cc A' B dA c)] := by
  apply List.ext_getElem?
  intro i
  rw [am_ws_get]
  by_cases h : i < w.length
  · rw [List.getElem?_append_left h, List.getElem?_append_left (by rw [am_ws_len]; exact h), am_ws_get]
    cases hc : w[i]? with
    | none => rfl
    | some x =>
      show some (A' i, _) = some (A i, _)
      rw [hA i h, am_cc_congr hA (hw x (List.mem_of_getElem? hc))]
  · rw [List.getElem?_append_right (by omega), List.getElem?_append_right (by rw [am_ws_len]; omega), am_ws_len]
    by_cases h2 : i = w.length
    · subst h2
      simp
    · have h3 : 1 ≤ i - w.length := by omega
      rw [List.getElem?_eq_none (by simpa using h3), List.getElem?_eq_none (by simpa using h3)]
      rfl
theorem am_ws_same {A A' B : Nat → Nat} {dA : Nat → ClassId} {w : W1} (hA : ∀ a, a < w.length → A' a = A a) (hw : ∀ c ∈ w, am_okc w.length c) : am_ws A' B dA w = am_ws A B dA w := by
  apply List.ext_getElem?
  intro i
  rw [am_ws_get, am_ws_get]
  cases hc : w[i]? with
  | none => rfl
  | some x =>
    show some (A' i, _) = some (A i, _)
    rw [hA i (List.getElem?_eq_some_iff.mp hc).1, am_cc_congr hA (hw x (List.mem_of_getElem? hc))]
theorem am_sl_app {ft : Nat → List Nat} {w : W1} {c : C1} : am_sl ft (w ++ [c]) = am_sl ft w + am_szc ft c := by unfold am_sl; simp
theorem am_sl_set {ft : Nat → List Nat} {c c0 : C1} (hs : am_szc ft c = am_szc ft c0) : ∀ (w : W1) (a : Nat), w[a]? = some c0 → am_sl ft (w.set a c) = am_sl ft w
  | [], a, h => by simp at h
  | x :: w, 0, h => by
    have h : x = c0 := by simpa using h
    subst h
    simp [am_sl, hs]
  | x :: w, a + 1, h => by
    have h : w[a]? = some c0 := by simpa using h
    have := am_sl_set hs w a h
    unfold am_sl at this ⊢
    simp only [List.set_cons_succ, List.map_cons, List.sum_cons, this]
theorem am_cat_cv {A B : Nat → Nat} : ∀ (v : AV R1), (am_cv A B v).category = am_cat v
  | .inl _ => rfl
  | .inr (.inl _) => rfl
  | .inr (.inr none) => rfl
  | .inr (.inr (some (.inl _))) => rfl
  | .inr (.inr (some (.inr _))) => rfl
theorem am_cats {A B : Nat → Nat} (S : List (AV R1)) : (S.map (am_cv A B)).map (fun v => v.category) = S.map am_cat := by
  rw [List.map_map]
  exact List.map_congr_left fun v _ => am_cat_cv v
/-- the locals -/
def am_LR (A B : Nat → Nat) (nL : Nat) (ls : Array Slot) (L : am_L R1) : Prop := ls.size = nL ∧ lv_wf ls ∧ ∀ (j : Nat) (v : AV R1), L[j]? = some (some v) → ls[j]? = some (Slot.val (am_cv A B v))
def am_ent (A B : Nat → Nat) (L : am_L R1) : List (Nat × Value) := (List.range L.length).filterMap fun j => match L[j]? with
  | some (some v) => some (j, am_cv A B v)
  | _ => none
theorem am_ent_mem {A B : Nat → Nat} {L : am_L R1} {q : Nat × Value} : q ∈ am_ent A B L ↔ ∃ v, L[q.1]? = some (some v) ∧ q.2 = am_cv A B v := by
  unfold am_ent
  rw [List.mem_filterMap]
  constructor
  · rintro ⟨j, hj, h⟩
    split at h
    · rename_i v hv
      cases h
      exact ⟨v, hv, rfl⟩
    · cases h
  · rintro ⟨v, h1, h2⟩
    refine ⟨q.1, List.mem_range.mpr (List.getElem?_eq_some_iff.mp h1).1, ?_⟩
    rw [h1]
    show some (q.1, am_cv A B v) = some q
    rw [← h2]
theorem am_LR.has {A B : Nat → Nat} {nL : Nat} {ls : Array Slot} {L : am_L R1} (h : am_LR A B nL ls L) : lv_has ls nL (am_ent A B L) :=
  ⟨h.1, h.2.1, fun q hq => by
    obtain ⟨v, h1, h2⟩ := am_ent_mem.mp hq
    rw [h2]; exact h.2.2 q.1 v h1⟩
theorem am_LR.moved {n : Nat} {A A' B : Nat → Nat} {nL : Nat} {ls : Array Slot} {L : am_L R1} (h : am_LR A B nL ls L) (hA : ∀ a, a < n → A' a = A a) (hL : ∀ v, some v ∈ L → am_ok n v) : am_LR A' B nL ls L :=
  ⟨h.1, h.2.1, fun j v hj => by rw [am_cv_congr hA (hL v (List.mem_of_getElem? hj))]; exact h.2.2 j v hj⟩
theorem am_kill_get {L : am_L R1} {x j : Nat} {v : AV R1} (h : (am_kill x L)[j]? = some (some v)) : L[j]? = some (some v) ∧ ¬ (j + 1 = x ∧ am_isL v = true) := by
  cases x with
  | zero => exact ⟨h, fun q => by omega⟩
  | succ y =>
    unfold am_kill at h
    simp only at h
    split at h
    · rename_i z hz
      by_cases e : y = j
      · subst e
        rw [List.getElem?_set_self (List.getElem?_eq_some_iff.mp hz).1] at h
        simp at h
      · rw [List.getElem?_set_ne e] at h
        exact ⟨h, fun q => e (by omega)⟩
    · rename_i hz
      refine ⟨h, fun q => ?_⟩
      have e : j = y := by omega
      subst e
      obtain ⟨-, q2⟩ := q
      match v, q2 with
      | .inr (.inl z), _ => exact hz z h
theorem am_isL_cat (v : AV R1) : am_isL v = true ↔ am_cat v = 2 := by
  unfold am_cat
  cases am_isL v <;> simp
end
section
/-! PURE STEPS: the bytecode's, the small machine's -/
def am_tgt (pc : Nat) (off : Int) : Option Nat := if 0 ≤ (pc : Int) + off then some ((pc : Int) + off).toNat else none
def am_cn (c : Jvm.ClassFile.Cond) : Nat := match c with
  | .eq => 0
  | .ne => 1
  | .lt => 2
  | .ge => 3
  | .gt => 4
  | .le => 5
def am_trp (ins : Jvm.ClassFile.Instr) (pc len : Nat) : Option am_I := match ins, len with
  | .iconst i, 1 => some (0, 0, 0, (Int32.ofInt i).toInt, [])
  | .bipush i, 2 => some (0, 0, 0, ((Int8.ofInt i).toInt32).toInt, [])
  | .sipush i, 3 => some (0, 0, 0, ((Int16.ofInt i).toInt32).toInt, [])
  | .lconst f, 1 => some (1, 0, 0, (Int64.ofNat (f : Nat)).toInt, [])
  | .aconst_null, 1 => some (2, 0, 0, 0, [])
  | .iload i, 2 => some (3, i, 0, 0, [])
  | .iload_n f, 1 => some (3, (f : Nat), 0, 0, [])
  | .lload i, 2 => some (3, i, 1, 0, [])
  | .lload_n f, 1 => some (3, (f : Nat), 1, 0, [])
  | .aload i, 2 => some (3, i, 2, 0, [])
  | .aload_n f, 1 => some (3, (f : Nat), 2, 0, [])
  | .istore i, 2 => some (4, i, 0, 0, [])
  | .istore_n f, 1 => some (4, (f : Nat), 0, 0, [])
  | .lstore i, 2 => some (4, i, 1, 0, [])
  | .lstore_n f, 1 => some (4, (f : Nat), 1, 0, [])
  | .astore i, 2 => some (4, i, 2, 0, [])
  | .astore_n f, 1 => some (4, (f : Nat), 2, 0, [])
  | .iinc i c, 3 => some (5, i, 0, c, [])
  | .iadd, 1 => some (6, 0, 0, 0, [])
  | .isub, 1 => some (6, 1, 0, 0, [])
  | .imul, 1 => some (6, 2, 0, 0, [])
  | .iand, 1 => some (6, 3, 0, 0, [])
  | .ior, 1 => some (6, 4, 0, 0, [])
  | .ixor, 1 => some (6, 5, 0, 0, [])
  | .ishl, 1 => some (6, 6, 0, 0, [])
  | .ishr, 1 => some (6, 7, 0, 0, [])
  | .iushr, 1 => some (6, 8, 0, 0, [])
  | .idiv, 1 => some (6, 9, 0, 0, [])
  | .irem, 1 => some (6, 10, 0, 0, [])
  | .ineg, 1 => some (7, 0, 0, 0, [])
  | .i2b, 1 => some (7, 1, 0, 0, [])
  | .i2c, 1 => some (7, 2, 0, 0, [])
  | .i2l, 1 => some (8, 0, 0, 0, [])
  | .l2i, 1 => some (9, 0, 0, 0, [])
  | .ladd, 1 => some (10, 0, 0, 0, [])
  | .lsub, 1 => some (10, 1, 0, 0, [])
  | .lmul, 1 => some (10, 2, 0, 0, [])
  | .land, 1 => some (10, 3, 0, 0, [])
  | .lor, 1 => some (10, 4, 0, 0, [])
  | .ldiv, 1 => some (10, 5, 0, 0, [])
  | .lrem, 1 => some (10, 6, 0, 0, [])
  | .lcmp, 1 => some (11, 0, 0, 0, [])
  | .dup, 1 => some (12, 0, 0, 0, [])
  | .dup2, 1 => some (13, 0, 0, 0, [])
  | .pop, 1 => some (14, 0, 0, 0, [])
  | .if_icmp c o, 3 => (am_tgt pc o).map fun t => (15, am_cn c, t, 0, [])
  | .ifCond c o, 3 => (am_tgt pc o).map fun t => (16, am_cn c, t, 0, [])
  | .ifnull o, 3 => (am_tgt pc o).map fun t => (17, 0, t, 0, [])
  | .ifnonnull o, 3 => (am_tgt pc o).map fun t => (17, 1, t, 0, [])
  | .goto o, 3 => (am_tgt pc o).map fun t => (18, 0, t, 0, [])
  | .tableswitch d lo hi offs, _ => if hi - lo + 1 = offs.size ∧ 0 ≤ (pc : Int) + d ∧ offs.toList.all (fun o => decide (0 ≤ (pc : Int) + o)) = true then some (19, 0, ((pc : Int) + d).toNat, 0, offs.toList.zipIdx.map fun q => (lo + (q.2 : Int), ((pc : Int) + q.1).toNat)) else none
  | .lookupswitch d ps, _ => if (ps.toList.zip (ps.toList.drop 1)).all (fun (a, next) => a.1 < next.1) = true ∧ 0 ≤ (pc : Int) + d ∧ ps.toList.all (fun q => decide (0 ≤ (pc : Int) + q.2)) = true then some (19, 0, ((pc : Int) + d).toNat, 0, ps.toList.map fun q => (q.1, ((pc : Int) + q.2).toNat)) else none
  | _, _ => none
theorem am_tgt_eq {pc t : Nat} {off : Int} (h : am_tgt pc off = some t) : (pc : Int) + off = (t : Int) := by
  unfold am_tgt at h
  split at h
  · cases h; omega
  · cases h
theorem am_iEq {a b : Int} (ha : (Int32.ofInt a).toInt = a) (hb : (Int32.ofInt b).toInt = b) : Int32.ofInt a = Int32.ofInt b ↔ a = b :=
  ⟨fun h => by rw [← ha, ← hb, h], fun h => by rw [h]⟩
theorem am_iLt {a b : Int} (ha : (Int32.ofInt a).toInt = a) (hb : (Int32.ofInt b).toInt = b) : Int32.ofInt a < Int32.ofInt b ↔ a < b := by
  rw [Int32.lt_iff_toInt_lt, ha, hb]
theorem am_iLe {a b : Int} (ha : (Int32.ofInt a).toInt = a) (hb : (Int32.ofInt b).toInt = b) : Int32.ofInt a ≤ Int32.ofInt b ↔ a ≤ b := by
  rw [Int32.le_iff_toInt_le, ha, hb]
theorem am_lEq {a b : Int} (ha : (Int64.ofInt a).toInt = a) (hb : (Int64.ofInt b).toInt = b) : Int64.ofInt a = Int64.ofInt b ↔ a = b :=
  ⟨fun h => by rw [← ha, ← hb, h], fun h => by rw [h]⟩
theorem am_lLt {a b : Int} (ha : (Int64.ofInt a).toInt = a) (hb : (Int64.ofInt b).toInt = b) : Int64.ofInt a < Int64.ofInt b ↔ a < b := by
  rw [Int64.lt_iff_toInt_lt, ha, hb]
theorem am_io (X : Int32) : (Int32.ofInt X.toInt).toInt = X.toInt := by rw [Int32.ofInt_toInt]
theorem am_lo (X : Int64) : (Int64.ofInt X.toInt).toInt = X.toInt := by rw [Int64.ofInt_toInt]
theorem am_i0 {a : Int} (ha : (Int32.ofInt a).toInt = a) : Int32.ofInt a = 0 ↔ a = 0 := am_iEq (b := 0) ha (by decide)
theorem am_ilt0 {a : Int} (ha : (Int32.ofInt a).toInt = a) : Int32.ofInt a < 0 ↔ a < 0 := am_iLt (b := 0) ha (by decide)
theorem am_ile0 {a : Int} (ha : (Int32.ofInt a).toInt = a) : Int32.ofInt a ≤ 0 ↔ a ≤ 0 := am_iLe (b := 0) ha (by decide)
theorem am_ige0 {a : Int} (ha : (Int32.ofInt a).toInt = a) : 0 ≤ Int32.ofInt a ↔ 0 ≤ a := am_iLe (a := 0) (b := a) (by decide) ha
theorem am_igt0 {a : Int} (ha : (Int32.ofInt a).toInt = a) : 0 < Int32.ofInt a ↔ 0 < a := am_iLt (a := 0) (b := a) (by decide) ha
theorem am_sw_off {pc : Nat} {d x : Int} (hd : 0 ≤ (pc : Int) + d) : ∀ (ps : List (Int × Int)), ps.all (fun q => decide (0 ≤ (pc : Int) + q.2)) = true →
    (pc : Int) + Op.lookupswitch.offset ps d x = ((am_sw (ps.map fun q => (q.1, ((pc : Int) + q.2).toNat)) ((pc : Int) + d).toNat x : Nat) : Int)
  | [], _ => by
    show (pc : Int) + Op.lookupswitch.offset [] d x = ((((pc : Int) + d).toNat : Nat) : Int)
    unfold Op.lookupswitch.offset
    simp
    omega
  | (k, o) :: r, h => by
    simp only [List.all_cons, Bool.and_eq_true, decide_eq_true_eq] at h
    have ih := am_sw_off hd (x := x) r h.2
    unfold Op.lookupswitch.offset
    simp only [List.map_cons, am_sw]
    by_cases e : x = k
    · subst e
      simp
      omega
    · have e' : ¬ k = x := fun q => e q.symm
      rw [if_neg e, if_neg e']
      exact ih
theorem am_sw_in {pc : Nat} {D : Nat} {x : Int} : ∀ (offs : List Int) (lo : Int) (k : Nat), (∀ i o, offs[i]? = some o → x = lo + ((k + i : Nat) : Int) → am_sw ((offs.zipIdx k).map fun q => (lo + (q.2 : Int), ((pc : Int) + q.1).toNat)) D x = ((pc : Int) + o).toNat)
  | [], _, _, i, o, h, _ => by simp at h
  | a :: r, lo, k, 0, o, h, hx => by
    have h : a = o := by simpa using h
    subst h
    simp only [List.zipIdx_cons, List.map_cons, am_sw]
    rw [if_pos (by simpa using hx)]
  | a :: r, lo, k, i + 1, o, h, hx => by
    have h : r[i]? = some o := by simpa using h
    simp only [List.zipIdx_cons, List.map_cons, am_sw]
    rw [if_neg (by omega)]
    exact am_sw_in r lo (k + 1) i o h (by rw [hx]; congr 2; omega)
theorem am_sw_out {pc : Nat} {D : Nat} {x : Int} : ∀ (offs : List Int) (lo : Int) (k : Nat), (x < lo + (k : Int) ∨ lo + ((k + offs.length : Nat) : Int) ≤ x) → am_sw ((offs.zipIdx k).map fun q => (lo + (q.2 : Int), ((pc : Int) + q.1).toNat)) D x = D
  | [], _, _, _ => rfl
  | a :: r, lo, k, h => by
    simp only [List.zipIdx_cons, List.map_cons, am_sw]
    simp only [List.length_cons] at h
    rw [if_neg (by omega)]
    exact am_sw_out r lo (k + 1) (by omega)
end
section
theorem am_oks_cons {n : Nat} {v : AV R1} {S : List (AV R1)} (h : ∀ u ∈ v :: S, am_ok n u) : am_ok n v ∧ ∀ u ∈ S, am_ok n u := ⟨h v List.mem_cons_self, fun u hu => h u (List.mem_cons_of_mem _ hu)⟩
theorem am_cons_oks {n : Nat} {v : AV R1} {S : List (AV R1)} (h : am_ok n v) (hS : ∀ u ∈ S, am_ok n u) : ∀ u ∈ v :: S, am_ok n u := fun u hu => (List.mem_cons.mp hu).elim (fun e => e ▸ h) (hS u)
section AMP
variable {p : Program} {l : Launch} {e : Env} {R : Room} {s : State} {m : MethodId} {args : Array Value} {below : List Frame} {meth : Method} {c : Code} {H : Heap} {locs : List Loc} {cells slots : Nat} {Q : State → Prop}
variable {cc : ByteArray} {pc : Nat} {ls : Array Slot}
theorem am_store1 {A B : Nat → Nat} {nL x : Nat} {v : AV R1} {L L' : am_L R1} {ls' : Array Slot} (hst : am_st x v L = some L') (hv : am_isL v = false) (h : lv_has ls' nL ((x, am_cv A B v) :: (am_ent A B L).filter (fun q => !(q.1 == x) && !(q.1 + 1 == x && q.2.category == 2)))) : am_LR A B nL ls' L' := by
  have hst : (if x < L.length then some ((am_kill x L).set x (some v)) else none) = some L' := by
    match v, hv, hst with
    | .inl _, _, h => exact h
    | .inr (.inr _), _, h => exact h
  split at hst
  · cases hst
    refine ⟨h.1, h.2.1, fun j u hj => ?_⟩
    by_cases e : x = j
    · subst e
      rw [List.getElem?_set_self'] at hj
      have : u = v := by
        cases hk : (am_kill x L)[x]? with
        | none => rw [hk] at hj; simp at hj
        | some z => rw [hk] at hj; simpa using hj.symm
      subst this
      exact h.2.2 (x, _) List.mem_cons_self
    · rw [List.getElem?_set_ne e] at hj
      obtain ⟨h1, h2⟩ := am_kill_get hj
      refine h.2.2 (j, am_cv A B u) (List.mem_cons_of_mem _ (List.mem_filter.mpr ⟨am_ent_mem.mpr ⟨u, h1, rfl⟩, ?_⟩))
      have e1 : ¬ j = x := fun q => e q.symm
      simp only [am_cat_cv, Bool.and_eq_true, Bool.not_eq_true', beq_eq_false_iff_ne, ne_eq, e1, not_false_eq_true, true_and, Bool.and_eq_false_iff]
      by_cases e2 : j + 1 = x
      · right
        intro e3
        exact h2 ⟨e2, (am_isL_cat u).mpr e3⟩
      · left; exact e2
  · cases hst
theorem am_store2 {A B : Nat → Nat} {nL x : Nat} {z : Int} {L L' : am_L R1} {ls' : Array Slot} (hst : am_st x (vL z : AV R1) L = some L') (h : lv_has ls' nL ((x, am_cv A B (vL z)) :: (am_ent A B L).filter (fun q => !(q.1 == x) && (!(q.1 == x + 1) && !(q.1 + 1 == x && q.2.category == 2))))) : am_LR A B nL ls' L' := by
  have hst : (if x + 1 < L.length then some (((am_kill x L).set x (some (vL z))).set (x + 1) none) else none) = some L' := hst
  split at hst
  · cases hst
    refine ⟨h.1, h.2.1, fun j u hj => ?_⟩
    by_cases e0 : x + 1 = j
    · subst e0
      rw [List.getElem?_set_self'] at hj
      cases hk : ((am_kill x L).set x (some (vL z)))[x + 1]? with
      | none => rw [hk] at hj; simp at hj
      | some q => rw [hk] at hj; simp at hj
    · rw [List.getElem?_set_ne e0] at hj
      by_cases e : x = j
      · subst e
        rw [List.getElem?_set_self'] at hj
        have : u = vL z := by
          cases hk : (am_kill x L)[x]? with
          | none => rw [hk] at hj; simp at hj
          | some q => rw [hk] at hj; simpa using hj.symm
        subst this
        exact h.2.2 (x, _) List.mem_cons_self
      · rw [List.getElem?_set_ne e] at hj
        obtain ⟨h1, h2⟩ := am_kill_get hj
        refine h.2.2 (j, am_cv A B u) (List.mem_cons_of_mem _ (List.mem_filter.mpr ⟨am_ent_mem.mpr ⟨u, h1, rfl⟩, ?_⟩))
        have e1 : ¬ j = x := fun q => e q.symm
        have e3 : ¬ j = x + 1 := fun q => e0 q.symm
        simp only [am_cat_cv, Bool.and_eq_true, Bool.not_eq_true', beq_eq_false_iff_ne, ne_eq, e1, e3, not_false_eq_true, true_and, Bool.and_eq_false_iff]
        by_cases e2 : j + 1 = x
        · right
          intro e3
          exact h2 ⟨e2, (am_isL_cat u).mpr e3⟩
        · left; exact e2
  · cases hst
theorem am_inc {A B : Nat → Nat} {nL x : Nat} {z z' : Int} {L : am_L R1} {ls ls' : Array Slot} (hl : am_LR A B nL ls L) (hx : L[x]? = some (some (vI z))) (h : lv_has ls' nL ((x, am_cv A B (vI z')) :: (am_ent A B L).filter (fun q => !(q.1 == x) && !(q.1 + 1 == x && q.2.category == 2)))) : am_LR A B nL ls' (L.set x (some (vI z'))) := by
  refine ⟨h.1, h.2.1, fun j u hj => ?_⟩
  by_cases e : x = j
  · subst e
    rw [List.getElem?_set_self (List.getElem?_eq_some_iff.mp hx).1] at hj
    have : u = vI z' := by simpa using hj.symm
    subst this
    exact h.2.2 (x, _) List.mem_cons_self
  · rw [List.getElem?_set_ne e] at hj
    refine h.2.2 (j, am_cv A B u) (List.mem_cons_of_mem _ (List.mem_filter.mpr ⟨am_ent_mem.mpr ⟨u, hj, rfl⟩, ?_⟩))
    have e1 : ¬ j = x := fun q => e q.symm
    simp only [am_cat_cv, Bool.and_eq_true, Bool.not_eq_true', beq_eq_false_iff_ne, ne_eq, e1, not_false_eq_true, true_and, Bool.and_eq_false_iff]
    by_cases e2 : j + 1 = x
    · right
      intro e3
      have h3 := hl.2.1.1 j _ (hl.2.2 j u hj) (by rw [am_cat_cv]; exact e3)
      rw [e2, hl.2.2 x _ hx] at h3
      cases h3
    · left; exact e2
end AMP
end
section
def am_Lok (n : Nat) (L : am_L R1) : Prop := ∀ (j : Nat) (u : AV R1), L[j]? = some (some u) → am_ok n u
theorem am_cv_i {A B : Nat → Nat} (X : Int32) : am_cv A B (vI X.toInt) = .int X := by simp [am_cv]
theorem am_cv_l {A B : Nat → Nat} (X : Int64) : am_cv A B (vL X.toInt) = .long X := by simp [am_cv]
theorem am_kill_len {L : am_L R1} {x : Nat} : (am_kill x L).length = L.length := by
  cases x with
  | zero => rfl
  | succ y => unfold am_kill; simp only; split <;> simp
theorem am_set_some {L : am_L R1} {x j : Nat} {o : Option (AV R1)} {u : AV R1} (h : (L.set x o)[j]? = some (some u)) : (j = x ∧ o = some u) ∨ L[j]? = some (some u) := by
  by_cases e : x = j
  · subst e
    rw [List.getElem?_set_self'] at h
    cases hk : L[x]? with
    | none => rw [hk] at h; simp at h
    | some q => rw [hk] at h; exact Or.inl ⟨rfl, by simpa using h⟩
  · rw [List.getElem?_set_ne e] at h
    exact Or.inr h
theorem am_st_ok {n x : Nat} {v : AV R1} {L L' : am_L R1} (hst : am_st x v L = some L') (hL : am_Lok n L) (hv : am_ok n v) : am_Lok n L' ∧ L'.length = L.length ∧ x < L.length := by
  have key : ∀ (L2 : am_L R1), L2 = (am_kill x L).set x (some v) → am_Lok n L2 ∧ L2.length = L.length := by
    intro L2 e
    subst e
    refine ⟨fun j u hj => ?_, by rw [List.length_set, am_kill_len]⟩
    rcases am_set_some hj with ⟨-, h⟩ | h
    · cases h; exact hv
    · exact hL j u (am_kill_get h).1
  match v, hst with
  | .inl z, h =>
    have h : (if x < L.length then some ((am_kill x L).set x (some (.inl z))) else none) = some L' := h
    split at h
    · cases h; exact ⟨(key _ rfl).1, (key _ rfl).2, by assumption⟩
    · cases h
  | .inr (.inr z), h =>
    have h : (if x < L.length then some ((am_kill x L).set x (some (.inr (.inr z)))) else none) = some L' := h
    split at h
    · cases h; exact ⟨(key _ rfl).1, (key _ rfl).2, by assumption⟩
    · cases h
  | .inr (.inl z), h =>
    have h : (if x + 1 < L.length then some (((am_kill x L).set x (some (.inr (.inl z)))).set (x + 1) none) else none) = some L' := h
    split at h
    · cases h
      refine ⟨fun j u hj => ?_, by rw [List.length_set]; exact (key _ rfl).2, by omega⟩
      rcases am_set_some hj with ⟨-, h⟩ | h
      · cases h
      · exact (key _ rfl).1 j u h
    · cases h
theorem am_st_2 {x : Nat} {z : Int} {L L' : am_L R1} (hst : am_st x (vL z : AV R1) L = some L') : x + 1 < L.length := by
  have h : (if x + 1 < L.length then some (((am_kill x L).set x (some (vL z))).set (x + 1) none) else none) = some L' := hst
  split at h
  · assumption
  · cases h
section AMQ
variable {p : Program} {l : Launch} {e : Env} {R : Room} {s : State} {m : MethodId} {args : Array Value} {below : List Frame} {meth : Method} {c : Code} {H : Heap} {locs : List Loc} {cells slots : Nat} {Q : State → Prop}
variable {cc : ByteArray} {pc : Nat} {ls : Array Slot}
set_option maxHeartbeats 4000000 in
theorem am_sim_p {A B : Nat → Nat} {n nL len op x y pc' : Nat} {im : Int} {tb : List (Int × Nat)} {ins : Jvm.ClassFile.Instr} {L L' : am_L R1} {S S' : List (AV R1)} (hx : p.tables.exec = Jvm.exec) (hb : c.code = cc) (htr : am_trp ins pc len = some (op, x, y, im, tb)) (hdg : decode cc pc = .ok (ins, len))
    (hp : am_p op x y im tb (pc + len) L S = some (pc', L', S')) (hL : am_LR A B nL ls L) (hlen : L.length ≤ nL) (hLo : am_Lok n L) (hSo : ∀ v ∈ S, am_ok n v)
    (kk : ∀ ls' : Array Slot, am_LR A B nL ls' L' → L'.length ≤ nL → am_Lok n L' → (∀ v ∈ S', am_ok n v) → W p l e R s m args below meth c H locs cells slots Q (F0 m pc' ls' (S'.map (am_cv A B)))) : W p l e R s m args below meth c H locs cells slots Q (F0 m pc ls (S.map (am_cv A B))) := by
  unfold am_trp at htr
  split at htr
  · rename_i i
    cases htr
    have hp : some (pc + 1, L, vI (Int32.ofInt i).toInt :: S) = some (pc', L', S') := hp
    cases hp
    refine lv_iconst hx hb (v := Int32.ofInt i) hdg rfl ?_
    have h := kk ls hL hlen hLo (am_cons_oks (am_io _) hSo)
    rw [List.map_cons, am_cv_i] at h
    exact h
  · rename_i i
    cases htr
    have hp : some (pc + 2, L, vI ((Int8.ofInt i).toInt32).toInt :: S) = some (pc', L', S') := hp
    cases hp
    refine lv_bipush hx hb (v := (Int8.ofInt i).toInt32) hdg rfl ?_
    have h := kk ls hL hlen hLo (am_cons_oks (am_io _) hSo)
    rw [List.map_cons, am_cv_i] at h
    exact h
  · rename_i i
    cases htr
    have hp : some (pc + 3, L, vI ((Int16.ofInt i).toInt32).toInt :: S) = some (pc', L', S') := hp
    cases hp
    refine lv_sipush hx hb (v := (Int16.ofInt i).toInt32) hdg rfl ?_
    have h := kk ls hL hlen hLo (am_cons_oks (am_io _) hSo)
    rw [List.map_cons, am_cv_i] at h
    exact h
  · rename_i f
    cases htr
    have hp : some (pc + 1, L, vL (Int64.ofNat (f : Nat)).toInt :: S) = some (pc', L', S') := hp
    cases hp
    refine lv_lconst hx hb (v := Int64.ofNat (f : Nat)) hdg rfl ?_
    have h := kk ls hL hlen hLo (am_cons_oks (am_lo _) hSo)
    rw [List.map_cons, am_cv_l] at h
    exact h
  · cases htr
    have hp : some (pc + 1, L, vN :: S) = some (pc', L', S') := hp
    cases hp
    exact lv_null hx hb hdg (kk ls hL hlen hLo (am_cons_oks trivial hSo))
  · rename_i i
    cases htr
    unfold am_p at hp
    simp only at hp
    split at hp
    · rename_i v hv
      split at hp
      · rename_i hty
        cases hp
        have hv2 := hL.2.2 _ _ hv
        have hvo := hLo _ _ hv
        have h := kk ls hL hlen hLo (am_cons_oks hvo hSo)
        match v, hty, hv2, h with
        | .inl z, _, hv2, h => exact lv_iload hx hb hdg hv2 h
      · cases hp
    · cases hp
  · rename_i f
    cases htr
    unfold am_p at hp
    simp only at hp
    split at hp
    · rename_i v hv
      split at hp
      · rename_i hty
        cases hp
        have hv2 := hL.2.2 _ _ hv
        have hvo := hLo _ _ hv
        have h := kk ls hL hlen hLo (am_cons_oks hvo hSo)
        match v, hty, hv2, h with
        | .inl z, _, hv2, h => exact lv_iload_n hx hb hdg rfl hv2 h
      · cases hp
    · cases hp
  · rename_i i
    cases htr
    unfold am_p at hp
    simp only at hp
    split at hp
    · rename_i v hv
      split at hp
      · rename_i hty
        cases hp
        have hv2 := hL.2.2 _ _ hv
        have hvo := hLo _ _ hv
        have h := kk ls hL hlen hLo (am_cons_oks hvo hSo)
        match v, hty, hv2, h with
        | .inr (.inl z), _, hv2, h => exact lv_lload hx hb hdg hv2 h
      · cases hp
    · cases hp
  · rename_i f
    cases htr
    unfold am_p at hp
    simp only at hp
    split at hp
    · rename_i v hv
      split at hp
      · rename_i hty
        cases hp
        have hv2 := hL.2.2 _ _ hv
        have hvo := hLo _ _ hv
        have h := kk ls hL hlen hLo (am_cons_oks hvo hSo)
        match v, hty, hv2, h with
        | .inr (.inl z), _, hv2, h => exact lv_lload_n hx hb hdg rfl hv2 h
      · cases hp
    · cases hp
  · rename_i i
    cases htr
    unfold am_p at hp
    simp only at hp
    split at hp
    · rename_i v hv
      split at hp
      · rename_i hty
        cases hp
        have hv2 := hL.2.2 _ _ hv
        have hvo := hLo _ _ hv
        have h := kk ls hL hlen hLo (am_cons_oks hvo hSo)
        match v, hty, hv2, h with
        | .inr (.inr none), _, hv2, h => exact lv_aloadN hx hb hdg hv2 h
        | .inr (.inr (some (.inl a))), _, hv2, h => exact lv_aload hx hb hdg hv2 h
        | .inr (.inr (some (.inr a))), _, hv2, h => exact lv_aload hx hb hdg hv2 h
      · cases hp
    · cases hp
  · rename_i f
    cases htr
    unfold am_p at hp
    simp only at hp
    split at hp
    · rename_i v hv
      split at hp
      · rename_i hty
        cases hp
        have hv2 := hL.2.2 _ _ hv
        have hvo := hLo _ _ hv
        have h := kk ls hL hlen hLo (am_cons_oks hvo hSo)
        match v, hty, hv2, h with
        | .inr (.inr none), _, hv2, h => exact lv_aload_nN hx hb hdg rfl hv2 h
        | .inr (.inr (some (.inl a))), _, hv2, h => exact lv_aload_n hx hb hdg rfl hv2 h
        | .inr (.inr (some (.inr a))), _, hv2, h => exact lv_aload_n hx hb hdg rfl hv2 h
      · cases hp
    · cases hp
  · rename_i i
    cases htr
    unfold am_p at hp
    simp only at hp
    split at hp
    · rename_i v S2
      obtain ⟨hvo, hSo2⟩ := am_oks_cons hSo
      split at hp
      · rename_i hty
        split at hp
        · rename_i L2 hst
          cases hp
          obtain ⟨k1, k2, k3⟩ := am_st_ok hst hLo hvo
          match v, hty, hst with
          | .inl z, _, hst => exact lv_istore hx hb hdg hL.has (by omega) rfl (fun ls2 h2 => kk ls2 (am_store1 hst rfl h2) (by omega) k1 hSo2)
        · cases hp
      · cases hp
    · cases hp
  · rename_i f
    cases htr
    unfold am_p at hp
    simp only at hp
    split at hp
    · rename_i v S2
      obtain ⟨hvo, hSo2⟩ := am_oks_cons hSo
      split at hp
      · rename_i hty
        split at hp
        · rename_i L2 hst
          cases hp
          obtain ⟨k1, k2, k3⟩ := am_st_ok hst hLo hvo
          match v, hty, hst with
          | .inl z, _, hst => exact lv_istore_n hx hb hdg rfl hL.has (by omega) rfl (fun ls2 h2 => kk ls2 (am_store1 hst rfl h2) (by omega) k1 hSo2)
        · cases hp
      · cases hp
    · cases hp
  · rename_i i
    cases htr
    unfold am_p at hp
    simp only at hp
    split at hp
    · rename_i v S2
      obtain ⟨hvo, hSo2⟩ := am_oks_cons hSo
      split at hp
      · rename_i hty
        split at hp
        · rename_i L2 hst
          cases hp
          obtain ⟨k1, k2, k3⟩ := am_st_ok hst hLo hvo
          match v, hty, hst with
          | .inr (.inl z), _, hst => exact lv_lstore hx hb hdg hL.has (by have := am_st_2 hst; omega) rfl (fun ls2 h2 => kk ls2 (am_store2 hst h2) (by omega) k1 hSo2)
        · cases hp
      · cases hp
    · cases hp
  · rename_i f
    cases htr
    unfold am_p at hp
    simp only at hp
    split at hp
    · rename_i v S2
      obtain ⟨hvo, hSo2⟩ := am_oks_cons hSo
      split at hp
      · rename_i hty
        split at hp
        · rename_i L2 hst
          cases hp
          obtain ⟨k1, k2, k3⟩ := am_st_ok hst hLo hvo
          match v, hty, hst with
          | .inr (.inl z), _, hst => exact lv_lstore_n hx hb hdg rfl hL.has (by have := am_st_2 hst; omega) rfl (fun ls2 h2 => kk ls2 (am_store2 hst h2) (by omega) k1 hSo2)
        · cases hp
      · cases hp
    · cases hp
  · rename_i i
    cases htr
    unfold am_p at hp
    simp only at hp
    split at hp
    · rename_i v S2
      obtain ⟨hvo, hSo2⟩ := am_oks_cons hSo
      split at hp
      · rename_i hty
        split at hp
        · rename_i L2 hst
          cases hp
          obtain ⟨k1, k2, k3⟩ := am_st_ok hst hLo hvo
          match v, hty, hst with
          | .inr (.inr none), _, hst => exact lv_astoreN hx hb hdg hL.has (by omega) rfl (fun ls2 h2 => kk ls2 (am_store1 hst rfl h2) (by omega) k1 hSo2)
          | .inr (.inr (some (.inl a))), _, hst => exact lv_astore hx hb hdg hL.has (by omega) rfl (fun ls2 h2 => kk ls2 (am_store1 hst rfl h2) (by omega) k1 hSo2)
          | .inr (.inr (some (.inr a))), _, hst => exact lv_astore hx hb hdg hL.has (by omega) rfl (fun ls2 h2 => kk ls2 (am_store1 hst rfl h2) (by omega) k1 hSo2)
        · cases hp
      · cases hp
    · cases hp
  · rename_i f
    cases htr
    unfold am_p at hp
    simp only at hp
    split at hp
    · rename_i v S2
      obtain ⟨hvo, hSo2⟩ := am_oks_cons hSo
      split at hp
      · rename_i hty
        split at hp
        · rename_i L2 hst
          cases hp
          obtain ⟨k1, k2, k3⟩ := am_st_ok hst hLo hvo
          match v, hty, hst with
          | .inr (.inr none), _, hst => exact lv_astore_nN hx hb hdg rfl hL.has (by omega) rfl (fun ls2 h2 => kk ls2 (am_store1 hst rfl h2) (by omega) k1 hSo2)
          | .inr (.inr (some (.inl a))), _, hst => exact lv_astore_n hx hb hdg rfl hL.has (by omega) rfl (fun ls2 h2 => kk ls2 (am_store1 hst rfl h2) (by omega) k1 hSo2)
          | .inr (.inr (some (.inr a))), _, hst => exact lv_astore_n hx hb hdg rfl hL.has (by omega) rfl (fun ls2 h2 => kk ls2 (am_store1 hst rfl h2) (by omega) k1 hSo2)
        · cases hp
      · cases hp
    · cases hp
  · rename_i i z
    cases htr
    unfold am_p at hp
    simp only at hp
    split at hp
    · rename_i v hv
      cases hp
      obtain ⟨k9, hk9⟩ := List.getElem?_of_mem (am_ent_mem.mpr ⟨vI v, hv, rfl⟩ : (x, am_cv A B (vI v)) ∈ am_ent A B L)
      refine lv_iinc hx hb hdg hL.has hk9 rfl (by have := (List.getElem?_eq_some_iff.mp hv).1; omega) rfl (fun ls2 h2 => kk ls2 (am_inc (z' := jadd v im) hL hv (by show lv_has ls2 nL ((x, .int (Int32.ofInt (jadd v im))) :: _); unfold jadd; rw [Int32.ofInt_toInt]; exact h2)) (by simpa using hlen) (fun j u hj => ?_) hSo)
      rcases am_set_some hj with ⟨-, h⟩ | h
      · cases h; exact am_io _
      · exact hLo j u h
    · cases hp
  · cases htr
    unfold am_p at hp
    simp only at hp
    split at hp
    · rename_i b a S2
      obtain ⟨hbo, hSo1⟩ := am_oks_cons hSo
      obtain ⟨hao, hSo2⟩ := am_oks_cons hSo1
      have hp : some (pc + 1, L, vI (jadd a b) :: S2) = some (pc', L', S') := hp
      cases hp
      have h := kk ls hL hlen hLo (am_cons_oks (am_io _) hSo2)
      unfold jadd at h
      rw [List.map_cons, am_cv_i] at h
      exact lv_iadd hx hb hdg h
    · cases hp
  · cases htr
    unfold am_p at hp
    simp only at hp
    split at hp
    · rename_i b a S2
      obtain ⟨hbo, hSo1⟩ := am_oks_cons hSo
      obtain ⟨hao, hSo2⟩ := am_oks_cons hSo1
      have hp : some (pc + 1, L, vI (jsub a b) :: S2) = some (pc', L', S') := hp
      cases hp
      have h := kk ls hL hlen hLo (am_cons_oks (am_io _) hSo2)
      unfold jsub at h
      rw [List.map_cons, am_cv_i] at h
      exact lv_isub hx hb hdg h
    · cases hp
  · cases htr
    unfold am_p at hp
    simp only at hp
    split at hp
    · rename_i b a S2
      obtain ⟨hbo, hSo1⟩ := am_oks_cons hSo
      obtain ⟨hao, hSo2⟩ := am_oks_cons hSo1
      have hp : some (pc + 1, L, vI (jmul a b) :: S2) = some (pc', L', S') := hp
      cases hp
      have h := kk ls hL hlen hLo (am_cons_oks (am_io _) hSo2)
      unfold jmul at h
      rw [List.map_cons, am_cv_i] at h
      exact lv_imul hx hb hdg h
    · cases hp
  · cases htr
    unfold am_p at hp
    simp only at hp
    split at hp
    · rename_i b a S2
      obtain ⟨hbo, hSo1⟩ := am_oks_cons hSo
      obtain ⟨hao, hSo2⟩ := am_oks_cons hSo1
      have hp : some (pc + 1, L, vI (jand a b) :: S2) = some (pc', L', S') := hp
      cases hp
      have h := kk ls hL hlen hLo (am_cons_oks (am_io _) hSo2)
      unfold jand at h
      rw [List.map_cons, am_cv_i] at h
      exact lv_iand hx hb hdg h
    · cases hp
  · cases htr
    unfold am_p at hp
    simp only at hp
    split at hp
    · rename_i b a S2
      obtain ⟨hbo, hSo1⟩ := am_oks_cons hSo
      obtain ⟨hao, hSo2⟩ := am_oks_cons hSo1
      have hp : some (pc + 1, L, vI (jor a b) :: S2) = some (pc', L', S') := hp
      cases hp
      have h := kk ls hL hlen hLo (am_cons_oks (am_io _) hSo2)
      unfold jor at h
      rw [List.map_cons, am_cv_i] at h
      exact lv_ior hx hb hdg h
    · cases hp
  · cases htr
    unfold am_p at hp
    simp only at hp
    split at hp
    · rename_i b a S2
      obtain ⟨hbo, hSo1⟩ := am_oks_cons hSo
      obtain ⟨hao, hSo2⟩ := am_oks_cons hSo1
      have hp : some (pc + 1, L, vI (jxor a b) :: S2) = some (pc', L', S') := hp
      cases hp
      have h := kk ls hL hlen hLo (am_cons_oks (am_io _) hSo2)
      unfold jxor at h
      rw [List.map_cons, am_cv_i] at h
      exact lv_ixor hx hb hdg h
    · cases hp
  · cases htr
    unfold am_p at hp
    simp only at hp
    split at hp
    · rename_i b a S2
      obtain ⟨hbo, hSo1⟩ := am_oks_cons hSo
      obtain ⟨hao, hSo2⟩ := am_oks_cons hSo1
      have hp : some (pc + 1, L, vI (jshl a b) :: S2) = some (pc', L', S') := hp
      cases hp
      have h := kk ls hL hlen hLo (am_cons_oks (am_io _) hSo2)
      unfold jshl at h
      rw [List.map_cons, am_cv_i] at h
      exact lv_ishl hx hb hdg h
    · cases hp
  · cases htr
    unfold am_p at hp
    simp only at hp
    split at hp
    · rename_i b a S2
      obtain ⟨hbo, hSo1⟩ := am_oks_cons hSo
      obtain ⟨hao, hSo2⟩ := am_oks_cons hSo1
      have hp : some (pc + 1, L, vI (jshr a b) :: S2) = some (pc', L', S') := hp
      cases hp
      have h := kk ls hL hlen hLo (am_cons_oks (am_io _) hSo2)
      unfold jshr at h
      rw [List.map_cons, am_cv_i] at h
      exact lv_ishr hx hb hdg h
    · cases hp
  · cases htr
    unfold am_p at hp
    simp only at hp
    split at hp
    · rename_i b a S2
      obtain ⟨hbo, hSo1⟩ := am_oks_cons hSo
      obtain ⟨hao, hSo2⟩ := am_oks_cons hSo1
      have hp : some (pc + 1, L, vI (jushr a b) :: S2) = some (pc', L', S') := hp
      cases hp
      have h := kk ls hL hlen hLo (am_cons_oks (am_io _) hSo2)
      unfold jushr at h
      rw [List.map_cons, am_cv_i] at h
      exact lv_iushr hx hb hdg rfl h
    · cases hp
  · cases htr
    unfold am_p at hp
    simp only at hp
    split at hp
    · rename_i b a S2
      obtain ⟨hbo, hSo1⟩ := am_oks_cons hSo
      obtain ⟨hao, hSo2⟩ := am_oks_cons hSo1
      unfold am_ibin at hp
      simp only at hp
      by_cases e0 : b = 0
      · rw [if_pos e0] at hp; cases hp
      · rw [if_neg e0] at hp
        cases hp
        have h := kk ls hL hlen hLo (am_cons_oks (am_io _) hSo2)
        unfold jdiv at h
        rw [List.map_cons, am_cv_i] at h
        exact lv_idiv hx hb hdg (fun q => e0 ((am_i0 hbo).mp q)) h
    · cases hp
  · cases htr
    unfold am_p at hp
    simp only at hp
    split at hp
    · rename_i b a S2
      obtain ⟨hbo, hSo1⟩ := am_oks_cons hSo
      obtain ⟨hao, hSo2⟩ := am_oks_cons hSo1
      unfold am_ibin at hp
      simp only at hp
      by_cases e0 : b = 0
      · rw [if_pos e0] at hp; cases hp
      · rw [if_neg e0] at hp
        cases hp
        have h := kk ls hL hlen hLo (am_cons_oks (am_io _) hSo2)
        unfold jrem at h
        rw [List.map_cons, am_cv_i] at h
        exact lv_irem hx hb hdg (fun q => e0 ((am_i0 hbo).mp q)) h
    · cases hp
  · cases htr
    unfold am_p at hp
    simp only at hp
    split at hp
    · rename_i a S2
      obtain ⟨hao, hSo2⟩ := am_oks_cons hSo
      have hp : some (pc + 1, L, vI (jneg a) :: S2) = some (pc', L', S') := hp
      cases hp
      have h := kk ls hL hlen hLo (am_cons_oks (am_io _) hSo2)
      unfold jneg at h
      rw [List.map_cons, am_cv_i] at h
      exact lv_ineg hx hb hdg h
    · cases hp
  · cases htr
    unfold am_p at hp
    simp only at hp
    split at hp
    · rename_i a S2
      obtain ⟨hao, hSo2⟩ := am_oks_cons hSo
      have hp : some (pc + 1, L, vI (ji2b a) :: S2) = some (pc', L', S') := hp
      cases hp
      have h := kk ls hL hlen hLo (am_cons_oks (am_io _) hSo2)
      unfold ji2b at h
      rw [List.map_cons, am_cv_i] at h
      exact lv_i2b hx hb hdg rfl h
    · cases hp
  · cases htr
    unfold am_p at hp
    simp only at hp
    split at hp
    · rename_i a S2
      obtain ⟨hao, hSo2⟩ := am_oks_cons hSo
      have hp : some (pc + 1, L, vI (ji2c a) :: S2) = some (pc', L', S') := hp
      cases hp
      have h := kk ls hL hlen hLo (am_cons_oks (am_io _) hSo2)
      unfold ji2c at h
      rw [List.map_cons, am_cv_i] at h
      exact lv_i2c hx hb hdg rfl h
    · cases hp
  · cases htr
    unfold am_p at hp
    simp only at hp
    split at hp
    · rename_i a S2
      obtain ⟨hao, hSo2⟩ := am_oks_cons hSo
      have hp : some (pc + 1, L, vL (ji2l a) :: S2) = some (pc', L', S') := hp
      cases hp
      have h := kk ls hL hlen hLo (am_cons_oks (am_lo _) hSo2)
      unfold ji2l at h
      rw [List.map_cons, am_cv_l] at h
      exact lv_i2l hx hb hdg rfl h
    · cases hp
  · cases htr
    unfold am_p at hp
    simp only at hp
    split at hp
    · rename_i a S2
      obtain ⟨hao, hSo2⟩ := am_oks_cons hSo
      have hp : some (pc + 1, L, vI (jl2i a) :: S2) = some (pc', L', S') := hp
      cases hp
      have h := kk ls hL hlen hLo (am_cons_oks (am_io _) hSo2)
      unfold jl2i at h
      rw [List.map_cons, am_cv_i] at h
      exact lv_l2i hx hb hdg rfl h
    · cases hp
  · cases htr
    unfold am_p at hp
    simp only at hp
    split at hp
    · rename_i b a S2
      obtain ⟨hbo, hSo1⟩ := am_oks_cons hSo
      obtain ⟨hao, hSo2⟩ := am_oks_cons hSo1
      have hp : some (pc + 1, L, vL (kadd a b) :: S2) = some (pc', L', S') := hp
      cases hp
      have h := kk ls hL hlen hLo (am_cons_oks (am_lo _) hSo2)
      unfold kadd at h
      rw [List.map_cons, am_cv_l] at h
      exact lv_ladd hx hb hdg h
    · cases hp
  · cases htr
    unfold am_p at hp
    simp only at hp
    split at hp
    · rename_i b a S2
      obtain ⟨hbo, hSo1⟩ := am_oks_cons hSo
      obtain ⟨hao, hSo2⟩ := am_oks_cons hSo1
      have hp : some (pc + 1, L, vL (ksub a b) :: S2) = some (pc', L', S') := hp
      cases hp
      have h := kk ls hL hlen hLo (am_cons_oks (am_lo _) hSo2)
      unfold ksub at h
      rw [List.map_cons, am_cv_l] at h
      exact lv_lsub hx hb hdg h
    · cases hp
  · cases htr
    unfold am_p at hp
    simp only at hp
    split at hp
    · rename_i b a S2
      obtain ⟨hbo, hSo1⟩ := am_oks_cons hSo
      obtain ⟨hao, hSo2⟩ := am_oks_cons hSo1
      have hp : some (pc + 1, L, vL (kmul a b) :: S2) = some (pc', L', S') := hp
      cases hp
      have h := kk ls hL hlen hLo (am_cons_oks (am_lo _) hSo2)
      unfold kmul at h
      rw [List.map_cons, am_cv_l] at h
      exact lv_lmul hx hb hdg h
    · cases hp
  · cases htr
    unfold am_p at hp
    simp only at hp
    split at hp
    · rename_i b a S2
      obtain ⟨hbo, hSo1⟩ := am_oks_cons hSo
      obtain ⟨hao, hSo2⟩ := am_oks_cons hSo1
      have hp : some (pc + 1, L, vL (kand a b) :: S2) = some (pc', L', S') := hp
      cases hp
      have h := kk ls hL hlen hLo (am_cons_oks (am_lo _) hSo2)
      unfold kand at h
      rw [List.map_cons, am_cv_l] at h
      exact lv_land hx hb hdg h
    · cases hp
  · cases htr
    unfold am_p at hp
    simp only at hp
    split at hp
    · rename_i b a S2
      obtain ⟨hbo, hSo1⟩ := am_oks_cons hSo
      obtain ⟨hao, hSo2⟩ := am_oks_cons hSo1
      have hp : some (pc + 1, L, vL (kor a b) :: S2) = some (pc', L', S') := hp
      cases hp
      have h := kk ls hL hlen hLo (am_cons_oks (am_lo _) hSo2)
      unfold kor at h
      rw [List.map_cons, am_cv_l] at h
      exact lv_lor hx hb hdg h
    · cases hp
  · cases htr
    unfold am_p at hp
    simp only at hp
    split at hp
    · rename_i b a S2
      obtain ⟨hbo, hSo1⟩ := am_oks_cons hSo
      obtain ⟨hao, hSo2⟩ := am_oks_cons hSo1
      unfold am_lbin at hp
      simp only at hp
      by_cases e0 : b = 0
      · rw [if_pos e0] at hp; cases hp
      · rw [if_neg e0] at hp
        cases hp
        have h := kk ls hL hlen hLo (am_cons_oks (am_lo _) hSo2)
        unfold kdiv at h
        rw [List.map_cons, am_cv_l] at h
        exact lv_ldiv hx hb hdg (fun q => e0 ((am_lEq (b := 0) hbo (by decide)).mp q)) h
    · cases hp
  · cases htr
    unfold am_p at hp
    simp only at hp
    split at hp
    · rename_i b a S2
      obtain ⟨hbo, hSo1⟩ := am_oks_cons hSo
      obtain ⟨hao, hSo2⟩ := am_oks_cons hSo1
      unfold am_lbin at hp
      simp only at hp
      by_cases e0 : b = 0
      · rw [if_pos e0] at hp; cases hp
      · rw [if_neg e0] at hp
        cases hp
        have h := kk ls hL hlen hLo (am_cons_oks (am_lo _) hSo2)
        unfold krem at h
        rw [List.map_cons, am_cv_l] at h
        exact lv_lrem hx hb hdg (fun q => e0 ((am_lEq (b := 0) hbo (by decide)).mp q)) h
    · cases hp
  · cases htr
    unfold am_p at hp
    simp only at hp
    split at hp
    · rename_i b a S2
      obtain ⟨hbo, hSo1⟩ := am_oks_cons hSo
      obtain ⟨hao, hSo2⟩ := am_oks_cons hSo1
      cases hp
      have e9 : Int32.ofInt (jcmp a b) = lg_cmp (Int64.ofInt a) (Int64.ofInt b) := by
        unfold jcmp lg_cmp
        have hlt : (Int64.ofInt a > Int64.ofInt b) ↔ b < a := am_lLt hbo hao
        simp only [hlt, am_lEq hao hbo]
        split
        · rfl
        · split <;> rfl
      have o9 : am_ok n (vI (jcmp a b) : AV R1) := by
        show (Int32.ofInt (jcmp a b)).toInt = jcmp a b
        unfold jcmp
        split
        · decide
        · split <;> decide
      have h := kk ls hL hlen hLo (am_cons_oks o9 hSo2)
      have h : W p l e R s m args below meth c H locs cells slots Q (F0 m (pc + 1) ls (.int (Int32.ofInt (jcmp a b)) :: S2.map (am_cv A B))) := h
      rw [e9] at h
      exact W.lcmp hx hb hdg h
    · cases hp
  · cases htr
    unfold am_p at hp
    simp only at hp
    split at hp
    · rename_i v S2
      obtain ⟨hvo, hSo2⟩ := am_oks_cons hSo
      cases hp
      exact lv_dup hx hb hdg rfl (kk ls hL hlen hLo (am_cons_oks hvo hSo))
    · rename_i v S2
      obtain ⟨hvo, hSo2⟩ := am_oks_cons hSo
      cases hp
      exact lv_dup hx hb hdg (by rw [am_cat_cv]; rfl) (kk ls hL hlen hLo (am_cons_oks hvo hSo))
    · cases hp
  · cases htr
    unfold am_p at hp
    simp only at hp
    split at hp
    · rename_i v u S2
      obtain ⟨hvo, hSo1⟩ := am_oks_cons hSo
      obtain ⟨huo, hSo2⟩ := am_oks_cons hSo1
      cases hp
      exact lv_dup2_11 hx hb hdg rfl (by rw [am_cat_cv]; rfl) (kk ls hL hlen hLo (am_cons_oks hvo (am_cons_oks huo hSo)))
    · cases hp
  · cases htr
    unfold am_p at hp
    simp only at hp
    split at hp
    · obtain ⟨hvo, hSo2⟩ := am_oks_cons hSo
      cases hp
      exact lv_pop hx hb hdg rfl (kk ls hL hlen hLo hSo2)
    · obtain ⟨hvo, hSo2⟩ := am_oks_cons hSo
      cases hp
      exact lv_pop hx hb hdg (by rw [am_cat_cv]; rfl) (kk ls hL hlen hLo hSo2)
    · cases hp
  · rename_i cnd o
    obtain ⟨t, ht, htr⟩ := Option.map_eq_some_iff.mp htr
    have ht := am_tgt_eq ht
    cases htr
    unfold am_p at hp
    simp only at hp
    split at hp
    · rename_i b a S2
      obtain ⟨hbo, hSo1⟩ := am_oks_cons hSo
      obtain ⟨hao, hSo2⟩ := am_oks_cons hSo1
      cases hp
      have k := kk ls hL hlen hLo hSo2
      cases cnd with
      | eq =>
        have hif : (@ite _ (am_cond (am_cn .eq) a b) (am_condD (am_cn .eq) a b) y (pc + 3)) = if a = b then y else pc + 3 := by unfold am_cond am_condD am_cn; rfl
        rw [hif] at k
        refine lv_icmp_eq hx hb hdg ht (fun q => ?_) (fun q => ?_)
        · rw [if_pos ((am_iEq hao hbo).mp q)] at k; exact k
        · rw [if_neg (fun z => q ((am_iEq hao hbo).mpr z))] at k; exact k
      | ne =>
        have hif : (@ite _ (am_cond (am_cn .ne) a b) (am_condD (am_cn .ne) a b) y (pc + 3)) = if ¬ a = b then y else pc + 3 := by unfold am_cond am_condD am_cn; rfl
        rw [hif] at k
        refine lv_icmp_ne hx hb hdg ht (fun q => ?_) (fun q => ?_)
        · rw [if_pos ((not_congr (am_iEq hao hbo)).mp q)] at k; exact k
        · rw [if_neg (fun z => z ((am_iEq hao hbo).mp q))] at k; exact k
      | lt =>
        have hif : (@ite _ (am_cond (am_cn .lt) a b) (am_condD (am_cn .lt) a b) y (pc + 3)) = if a < b then y else pc + 3 := by unfold am_cond am_condD am_cn; rfl
        rw [hif] at k
        refine lv_icmp_lt hx hb hdg ht (fun q => ?_) (fun q => ?_)
        · rw [if_pos ((am_iLt hao hbo).mp q)] at k; exact k
        · rw [if_neg (fun z => q ((am_iLt hao hbo).mpr z))] at k; exact k
      | ge =>
        have hif : (@ite _ (am_cond (am_cn .ge) a b) (am_condD (am_cn .ge) a b) y (pc + 3)) = if b ≤ a then y else pc + 3 := by unfold am_cond am_condD am_cn; rfl
        rw [hif] at k
        refine lv_icmp_ge hx hb hdg ht (fun q => ?_) (fun q => ?_)
        · rw [if_pos ((am_iLe hbo hao).mp q)] at k; exact k
        · rw [if_neg (fun z => q ((am_iLe hbo hao).mpr z))] at k; exact k
      | gt =>
        have hif : (@ite _ (am_cond (am_cn .gt) a b) (am_condD (am_cn .gt) a b) y (pc + 3)) = if b < a then y else pc + 3 := by unfold am_cond am_condD am_cn; rfl
        rw [hif] at k
        refine lv_icmp_gt hx hb hdg ht (fun q => ?_) (fun q => ?_)
        · rw [if_pos ((am_iLt hbo hao).mp q)] at k; exact k
        · rw [if_neg (fun z => q ((am_iLt hbo hao).mpr z))] at k; exact k
      | le =>
        have hif : (@ite _ (am_cond (am_cn .le) a b) (am_condD (am_cn .le) a b) y (pc + 3)) = if a ≤ b then y else pc + 3 := by unfold am_cond am_condD am_cn; rfl
        rw [hif] at k
        refine lv_icmp_le hx hb hdg ht (fun q => ?_) (fun q => ?_)
        · rw [if_pos ((am_iLe hao hbo).mp q)] at k; exact k
        · rw [if_neg (fun z => q ((am_iLe hao hbo).mpr z))] at k; exact k
    · cases hp
  · rename_i cnd o
    obtain ⟨t, ht, htr⟩ := Option.map_eq_some_iff.mp htr
    have ht := am_tgt_eq ht
    cases htr
    unfold am_p at hp
    simp only at hp
    split at hp
    · rename_i a S2
      obtain ⟨hao, hSo2⟩ := am_oks_cons hSo
      cases hp
      have k := kk ls hL hlen hLo hSo2
      cases cnd with
      | eq =>
        have hif : (@ite _ (am_cond (am_cn .eq) a 0) (am_condD (am_cn .eq) a 0) y (pc + 3)) = if a = 0 then y else pc + 3 := by unfold am_cond am_condD am_cn; rfl
        rw [hif] at k
        refine lv_if_eq hx hb hdg ht (fun q => ?_) (fun q => ?_)
        · rw [if_pos ((am_i0 hao).mp q)] at k; exact k
        · rw [if_neg (fun z => q ((am_i0 hao).mpr z))] at k; exact k
      | ne =>
        have hif : (@ite _ (am_cond (am_cn .ne) a 0) (am_condD (am_cn .ne) a 0) y (pc + 3)) = if ¬ a = 0 then y else pc + 3 := by unfold am_cond am_condD am_cn; rfl
        rw [hif] at k
        refine lv_if_ne hx hb hdg ht (fun q => ?_) (fun q => ?_)
        · rw [if_pos ((not_congr (am_i0 hao)).mp q)] at k; exact k
        · rw [if_neg (fun z => z ((am_i0 hao).mp q))] at k; exact k
      | lt =>
        have hif : (@ite _ (am_cond (am_cn .lt) a 0) (am_condD (am_cn .lt) a 0) y (pc + 3)) = if a < 0 then y else pc + 3 := by unfold am_cond am_condD am_cn; rfl
        rw [hif] at k
        refine lv_if_lt hx hb hdg ht (fun q => ?_) (fun q => ?_)
        · rw [if_pos ((am_ilt0 hao).mp q)] at k; exact k
        · rw [if_neg (fun z => q ((am_ilt0 hao).mpr z))] at k; exact k
      | ge =>
        have hif : (@ite _ (am_cond (am_cn .ge) a 0) (am_condD (am_cn .ge) a 0) y (pc + 3)) = if 0 ≤ a then y else pc + 3 := by unfold am_cond am_condD am_cn; rfl
        rw [hif] at k
        refine lv_if_ge hx hb hdg ht (fun q => ?_) (fun q => ?_)
        · rw [if_pos ((am_ige0 hao).mp q)] at k; exact k
        · rw [if_neg (fun z => q ((am_ige0 hao).mpr z))] at k; exact k
      | gt =>
        have hif : (@ite _ (am_cond (am_cn .gt) a 0) (am_condD (am_cn .gt) a 0) y (pc + 3)) = if 0 < a then y else pc + 3 := by unfold am_cond am_condD am_cn; rfl
        rw [hif] at k
        refine lv_if_gt hx hb hdg ht (fun q => ?_) (fun q => ?_)
        · rw [if_pos ((am_igt0 hao).mp q)] at k; exact k
        · rw [if_neg (fun z => q ((am_igt0 hao).mpr z))] at k; exact k
      | le =>
        have hif : (@ite _ (am_cond (am_cn .le) a 0) (am_condD (am_cn .le) a 0) y (pc + 3)) = if a ≤ 0 then y else pc + 3 := by unfold am_cond am_condD am_cn; rfl
        rw [hif] at k
        refine lv_if_le hx hb hdg ht (fun q => ?_) (fun q => ?_)
        · rw [if_pos ((am_ile0 hao).mp q)] at k; exact k
        · rw [if_neg (fun z => q ((am_ile0 hao).mpr z))] at k; exact k
    · cases hp
  · rename_i o
    obtain ⟨t, ht, htr⟩ := Option.map_eq_some_iff.mp htr
    have ht := am_tgt_eq ht
    cases htr
    unfold am_p at hp
    simp only at hp
    split at hp
    · obtain ⟨hvo, hSo2⟩ := am_oks_cons hSo
      cases hp
      exact lv_ifnullN hx hb hdg ht (kk ls hL hlen hLo hSo2)
    · rename_i r S2
      obtain ⟨hvo, hSo2⟩ := am_oks_cons hSo
      cases hp
      have k := kk ls hL hlen hLo hSo2
      match r, k with
      | .inl a, k => exact lv_ifnull hx hb hdg k
      | .inr a, k => exact lv_ifnull hx hb hdg k
    · cases hp
  · rename_i o
    obtain ⟨t, ht, htr⟩ := Option.map_eq_some_iff.mp htr
    have ht := am_tgt_eq ht
    cases htr
    unfold am_p at hp
    simp only at hp
    split at hp
    · obtain ⟨hvo, hSo2⟩ := am_oks_cons hSo
      cases hp
      exact lv_ifnonnullN hx hb hdg (kk ls hL hlen hLo hSo2)
    · rename_i r S2
      obtain ⟨hvo, hSo2⟩ := am_oks_cons hSo
      cases hp
      have k := kk ls hL hlen hLo hSo2
      match r, k with
      | .inl a, k => exact lv_ifnonnull hx hb hdg ht k
      | .inr a, k => exact lv_ifnonnull hx hb hdg ht k
    · cases hp
  · rename_i o
    obtain ⟨t, ht, htr⟩ := Option.map_eq_some_iff.mp htr
    have ht := am_tgt_eq ht
    cases htr
    have hp : some (y, L, S) = some (pc', L', S') := hp
    cases hp
    exact lv_goto hx hb hdg ht (kk ls hL hlen hLo hSo)
  · rename_i d lo hi offs
    split at htr
    · rename_i hc
      cases htr
      obtain ⟨c1, c2, c3⟩ := hc
      unfold am_p at hp
      simp only at hp
      split at hp
      · rename_i a S2
        obtain ⟨hao, hSo2⟩ := am_oks_cons hSo
        cases hp
        have k := kk ls hL hlen hLo hSo2
        have hT : (Int32.ofInt a).toInt = a := hao
        by_cases o1 : a < lo ∨ hi < a
        · rw [am_sw_out (pc := pc) (x := a) offs.toList lo 0 (by simp only [Array.length_toList]; omega)] at k
          exact lv_tableOut hx hb hdg (by rw [hT]; exact o1) (tgt := ((pc : Int) + d).toNat) (by omega) k
        · obtain ⟨i, hi1⟩ : ∃ i : Nat, a = lo + (i : Int) := ⟨(a - lo).toNat, by omega⟩
          have hi2 : i < offs.size := by omega
          have hi3 : offs.toList[i]? = some offs[i] := by simp [hi2]
          rw [am_sw_in (pc := pc) (x := a) offs.toList lo 0 i offs[i] hi3 (by rw [hi1]; congr 2; omega)] at k
          have hge := List.all_eq_true.mp c3 offs[i] (List.mem_of_getElem? hi3)
          simp only [decide_eq_true_eq] at hge
          refine lv_tableIn hx hb hdg (by rw [hT]; omega) (by rw [hT]; omega) (off := offs[i]) ?_ (tgt := ((pc : Int) + offs[i]).toNat) (by omega) k
          rw [hT, show (a - lo).toNat = i by omega]
          simp [hi2]
      · cases hp
    · cases htr
  · rename_i d ps
    split at htr
    · rename_i hc
      cases htr
      obtain ⟨c1, c2, c3⟩ := hc
      unfold am_p at hp
      simp only at hp
      split at hp
      · rename_i a S2
        obtain ⟨hao, hSo2⟩ := am_oks_cons hSo
        cases hp
        have k := kk ls hL hlen hLo hSo2
        have hT : (Int32.ofInt a).toInt = a := hao
        exact lv_lookup hx hb hdg c1 (off := Op.lookupswitch.offset ps.toList d a) (by rw [hT]) (am_sw_off c2 _ c3) k
      · cases hp
    · cases htr
  · cases htr
end AMQ
end
