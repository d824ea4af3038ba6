/-! THE SMALL MACHINE: what the bytecode does, over whole numbers and a list of cells. Values: an int, a long, null, a reference. -/
abbrev AV (ρ : Type) : Type := Int ⊕ (Int ⊕ Option ρ)
abbrev vI {ρ : Type} (x : Int) : AV ρ := Sum.inl x
abbrev vL {ρ : Type} (x : Int) : AV ρ := Sum.inr (Sum.inl x)
abbrev vN {ρ : Type} : AV ρ := Sum.inr (Sum.inr none)
abbrev vR {ρ : Type} (a : ρ) : AV ρ := Sum.inr (Sum.inr (some a))
abbrev am_L (ρ : Type) : Type := List (Option (AV ρ))
/-- an instruction: its kind, two numbers, a whole number, a table -/
abbrev am_I : Type := Nat × Nat × Nat × Int × List (Int × Nat)
def jadd (x y : Int) : Int := (Int32.ofInt x + Int32.ofInt y).toInt
def jsub (x y : Int) : Int := (Int32.ofInt x - Int32.ofInt y).toInt
def jmul (x y : Int) : Int := (Int32.ofInt x * Int32.ofInt y).toInt
def jand (x y : Int) : Int := (Int32.ofInt x &&& Int32.ofInt y).toInt
def jor (x y : Int) : Int := (Int32.ofInt x ||| Int32.ofInt y).toInt
def jxor (x y : Int) : Int := (Int32.ofInt x ^^^ Int32.ofInt y).toInt
def jshl (x y : Int) : Int := (Int32.ofInt x <<< (Int32.ofInt y &&& 31)).toInt
def jshr (x y : Int) : Int := (Int32.ofInt x >>> (Int32.ofInt y &&& 31)).toInt
def jushr (x y : Int) : Int := (((Int32.ofInt x).toUInt32 >>> ((Int32.ofInt y).toUInt32 &&& Int32.toUInt32 31)).toInt32).toInt
def jdiv (x y : Int) : Int := (Int32.ofInt x / Int32.ofInt y).toInt
def jrem (x y : Int) : Int := (Int32.ofInt x - Int32.ofInt x / Int32.ofInt y * Int32.ofInt y).toInt
def jneg (x : Int) : Int := (-(Int32.ofInt x)).toInt
def ji2b (x : Int) : Int := ((Int32.ofInt x).toInt8.toInt32).toInt
def ji2c (x : Int) : Int := (((Int32.ofInt x).toUInt32 % 65536).toInt32).toInt
def ji2l (x : Int) : Int := ((Int32.ofInt x).toInt64).toInt
def jl2i (x : Int) : Int := ((Int64.ofInt x).toInt32).toInt
def kadd (x y : Int) : Int := (Int64.ofInt x + Int64.ofInt y).toInt
def ksub (x y : Int) : Int := (Int64.ofInt x - Int64.ofInt y).toInt
def kmul (x y : Int) : Int := (Int64.ofInt x * Int64.ofInt y).toInt
def kand (x y : Int) : Int := (Int64.ofInt x &&& Int64.ofInt y).toInt
def kor (x y : Int) : Int := (Int64.ofInt x ||| Int64.ofInt y).toInt
def kdiv (x y : Int) : Int := (Int64.ofInt x / Int64.ofInt y).toInt
def krem (x y : Int) : Int := (Int64.ofInt x - Int64.ofInt x / Int64.ofInt y * Int64.ofInt y).toInt
def jcmp (x y : Int) : Int := if y < x then 1 else if x = y then 0 else -1
def am_ibin (b : Nat) (x y : Int) : Option Int := match b with
  | 0 => some (jadd x y)
  | 1 => some (jsub x y)
  | 2 => some (jmul x y)
  | 3 => some (jand x y)
  | 4 => some (jor x y)
  | 5 => some (jxor x y)
  | 6 => some (jshl x y)
  | 7 => some (jshr x y)
  | 8 => some (jushr x y)
  | 9 => if y = 0 then none else some (jdiv x y)
  | 10 => if y = 0 then none else some (jrem x y)
  | _ => none
def am_iun (b : Nat) (x : Int) : Option Int := match b with
  | 0 => some (jneg x)
  | 1 => some (ji2b x)
  | 2 => some (ji2c x)
  | _ => none
def am_lbin (b : Nat) (x y : Int) : Option Int := match b with
  | 0 => some (kadd x y)
  | 1 => some (ksub x y)
  | 2 => some (kmul x y)
  | 3 => some (kand x y)
  | 4 => some (kor x y)
  | 5 => if y = 0 then none else some (kdiv x y)
  | 6 => if y = 0 then none else some (krem x y)
  | _ => none
def am_cond (b : Nat) (x y : Int) : Prop := match b with
  | 0 => x = y
  | 1 => ¬ x = y
  | 2 => x < y
  | 3 => y ≤ x
  | 4 => y < x
  | _ => x ≤ y
def am_condD (b : Nat) (x y : Int) : Decidable (am_cond b x y) := match b with
  | 0 => inferInstanceAs (Decidable (x = y))
  | 1 => inferInstanceAs (Decidable (¬ x = y))
  | 2 => inferInstanceAs (Decidable (x < y))
  | 3 => inferInstanceAs (Decidable (y ≤ x))
  | 4 => inferInstanceAs (Decidable (y < x))
  | 5 => inferInstanceAs (Decidable (x ≤ y))
  | _ + 6 => inferInstanceAs (Decidable (x ≤ y))
def am_isL {ρ : Type} : AV ρ → Bool
  | .inr (.inl _) => true
  | _ => false
def am_cat {ρ : Type} (v : AV ρ) : Nat := if am_isL v then 2 else 1
def am_ty {ρ : Type} (t : Nat) (v : AV ρ) : Bool := match t, v with
  | 0, .inl _ => true
  | 1, .inr (.inl _) => true
  | 2, .inr (.inr _) => true
  | _, _ => false
/-- a long one place ahead goes when a place is written -/
def am_kill {ρ : Type} (x : Nat) (L : am_L ρ) : am_L ρ := match x with
  | 0 => L
  | y + 1 => match L[y]? with
    | some (some (.inr (.inl _))) => L.set y none
    | _ => L
def am_st {ρ : Type} (x : Nat) (v : AV ρ) (L : am_L ρ) : Option (am_L ρ) := match v with
  | .inr (.inl _) => if x + 1 < L.length then some (((am_kill x L).set x (some v)).set (x + 1) none) else none
  | _ => if x < L.length then some ((am_kill x L).set x (some v)) else none
def am_sw (tb : List (Int × Nat)) (d : Nat) (x : Int) : Nat := match tb with
  | [] => d
  | (k, t) :: r => if x = k then t else am_sw r d x
/-- a step that touches neither cells nor calls: where it goes on, with which locals, which stack -/
def am_p {ρ : Type} (op x y : Nat) (im : Int) (tb : List (Int × Nat)) (nx : Nat) (L : am_L ρ) (S : List (AV ρ)) : Option (Nat × am_L ρ × List (AV ρ)) := match op with
  | 0 => some (nx, L, vI im :: S)
  | 1 => some (nx, L, vL im :: S)
  | 2 => some (nx, L, vN :: S)
  | 3 => match L[x]? with
    | some (some v) => if am_ty y v = true then some (nx, L, v :: S) else none
    | _ => none
  | 4 => match S with
    | v :: S' => if am_ty y v = true then match am_st x v L with
        | some L' => some (nx, L', S')
        | none => none
      else none
    | _ => none
  | 5 => match L[x]? with
    | some (some (.inl v)) => some (nx, L.set x (some (vI (jadd v im))), S)
    | _ => none
  | 6 => match S with
    | .inl b :: .inl a :: S' => match am_ibin x a b with
      | some r => some (nx, L, vI r :: S')
      | none => none
    | _ => none
  | 7 => match S with
    | .inl a :: S' => match am_iun x a with
      | some r => some (nx, L, vI r :: S')
      | none => none
    | _ => none
  | 8 => match S with
    | .inl a :: S' => some (nx, L, vL (ji2l a) :: S')
    | _ => none
  | 9 => match S with
    | .inr (.inl a) :: S' => some (nx, L, vI (jl2i a) :: S')
    | _ => none
  | 10 => match S with
    | .inr (.inl b) :: .inr (.inl a) :: S' => match am_lbin x a b with
      | some r => some (nx, L, vL r :: S')
      | none => none
    | _ => none
  | 11 => match S with
    | .inr (.inl b) :: .inr (.inl a) :: S' => some (nx, L, vI (jcmp a b) :: S')
    | _ => none
  | 12 => match S with
    | .inl v :: S' => some (nx, L, vI v :: vI v :: S')
    | .inr (.inr v) :: S' => some (nx, L, .inr (.inr v) :: .inr (.inr v) :: S')
    | _ => none
  | 13 => match S with
    | .inl v :: .inr (.inr u) :: S' => some (nx, L, vI v :: .inr (.inr u) :: vI v :: .inr (.inr u) :: S')
    | _ => none
  | 14 => match S with
    | .inl _ :: S' => some (nx, L, S')
    | .inr (.inr _) :: S' => some (nx, L, S')
    | _ => none
  | 15 => match S with
    | .inl b :: .inl a :: S' => some (@ite _ (am_cond x a b) (am_condD x a b) y nx, L, S')
    | _ => none
  | 16 => match S with
    | .inl a :: S' => some (@ite _ (am_cond x a 0) (am_condD x a 0) y nx, L, S')
    | _ => none
  | 17 => match S with
    | .inr (.inr none) :: S' => some (if x = 0 then y else nx, L, S')
    | .inr (.inr (some _)) :: S' => some (if x = 0 then nx else y, L, S')
    | _ => none
  | 18 => some (y, L, S)
  | 19 => match S with
    | .inl a :: S' => some (am_sw tb y a, L, S')
    | _ => none
  | _ => none
/-- the locals at a method's start -/
def am_loc {ρ : Type} (n : Nat) (as : List (AV ρ)) : am_L ρ := match as with
  | [] => List.replicate n none
  | v :: r => if am_isL v then some v :: none :: am_loc (n - 2) r else some v :: am_loc (n - 1) r
def am_small {ρ : Type} (S : List (AV ρ)) : Bool := decide ((S.map am_cat).sum ≤ 8)
/-- a run: n steps at most, calls d deep at most; what comes back, and the memory behind it -/
def am_run {ρ μ : Type} (P : Nat → Nat → Option (am_I × Nat)) (NL : Nat → Nat) (mem : Nat → Nat → List (AV ρ) → μ → Option (Option (AV ρ) × μ)) :
    Nat → Nat → Nat → Nat → am_L ρ → List (AV ρ) → μ → Option (Option (AV ρ) × μ)
  | 0, _, _, _, _, _, _ => none
  | n + 1, d, k, pc, L, S, m =>
    match P k pc with
    | none => none
    | some ((op, x, y, im, tb), nx) =>
      match op with
      | 21 => match d with
        | 0 => none
        | d' + 1 =>
          if y ≤ S.length ∧ am_small (S.drop y) = true ∧ ((S.take y).map am_cat).sum ≤ NL x ∧ (im = 1 ∨ (mem 17 x ((S.take y).reverse.take 1) m).isSome = true) then
            match am_run P NL mem n d' x 0 (am_loc (NL x) (S.take y).reverse) [] m with
            | none => none
            | some (rv, m') => am_run P NL mem n d k nx L (rv.toList ++ S.drop y) m'
          else none
      | 22 => match S with
        | [v] => if (match x, v with
            | 0, .inl _ => true
            | 1, .inl z => decide (z = 0 ∨ z = 1)
            | 2, .inr (.inl _) => true
            | 3, .inr (.inr _) => true
            | 4, .inl z => decide (0 ≤ z ∧ z ≤ 127)
            | _, _ => false) = true then some (some v, m) else none
        | _ => none
      | 23 => match S with
        | [] => some (none, m)
        | _ => none
      | 24 => match d with
        | 0 => none
        | _ + 1 =>
          if y ≤ S.length ∧ am_small (S.drop y) = true then
            match mem x im.toNat (S.take y).reverse m with
            | none => none
            | some (rv, m') => am_run P NL mem n d k nx L (rv.toList ++ S.drop y) m'
          else none
      | _ => match am_p op x y im tb nx L S with
        | none => none
        | some (pc', L', S') => am_run P NL mem n d k pc' L' S' m
