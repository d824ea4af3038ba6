/-! LAWS: what a rule is worth -/
def joS (k a b : Int) : Int := if k = 3 then (if a ≤ b then 1 else 0) else if k = 4 then (if b ≤ a then 1 else 0) else if k = 37 then (if b = 0 then 0 else krem a b) else if k = 42 then kmul a b else if k = 43 then kadd a b else if k = 45 then ksub a b else if k = 47 then (if b = 0 then 0 else kdiv a b) else if k = 60 then (if a < b then 1 else 0) else if k = 61 then (if a = b then 1 else 0) else if k = 62 then (if b < a then 1 else 0) else if k = 271 then kand a b else kor a b
theorem m86 {k a b : Int} : f86 k a b = some (joS k a b) := by
  unfold f86 joS gd bnd
  simp only [jcmp_lt, jcmp_gt, jcmp_le, jcmp_ge, jcmp_eq]
  grind (splits := 40)
def isW (op : Int) : Prop := -268 ≤ op ∧ op ≤ -256
def opS (v : Int → Int) (op : Int) (st : List Int) : List Int :=
  if 0 ≤ op then op :: st
  else if -268 ≤ op ∧ op ≤ -256 then v (-op) :: st
  else if op = -273 then (match st with
    | x :: r => (if x = 0 then 1 else 0) :: r
    | [] => [])
  else match st with
    | b :: a :: r => joS (-op) a b :: r
    | r => r
/-- kinds of what lies on the stack: true for a truth -/
def ty1 (op : Int) (t : List Bool) : Option (List Bool) :=
  if 0 ≤ op ∨ (-268 ≤ op ∧ op ≤ -256) then some (false :: t)
  else if op = -273 then (match t with
    | true :: r => some (true :: r)
    | _ => none)
  else if op = -3 ∨ op = -4 ∨ op = -60 ∨ op = -61 ∨ op = -62 then (match t with
    | false :: false :: r => some (true :: r)
    | _ => none)
  else if op = -271 ∨ op = -272 then (match t with
    | true :: true :: r => some (true :: r)
    | _ => none)
  else if op = -37 ∨ op = -42 ∨ op = -43 ∨ op = -45 ∨ op = -47 then (match t with
    | false :: false :: r => some (false :: r)
    | _ => none)
  else none
def tyOK : List Int → List Bool → Prop
  | [], [] => True
  | x :: st, b :: t => (b = true → x = 0 ∨ x = 1) ∧ tyOK st t
  | _, _ => False
theorem tyOK.len : ∀ {st : List Int} {t : List Bool}, tyOK st t → st.length = t.length
  | [], [], _ => rfl
  | x :: st, b :: t, h => congrArg (· + 1) (tyOK.len (st := st) (t := t) h.2)
  | [], _ :: _, h => h.elim
  | _ :: _, [], h => h.elim
theorem kand01 {a b : Int} (ha : a = 0 ∨ a = 1) (hb : b = 0 ∨ b = 1) : kand a b = 0 ∨ kand a b = 1 := by
  rcases ha with rfl | rfl <;> rcases hb with rfl | rfl <;> decide
theorem kor01 {a b : Int} (ha : a = 0 ∨ a = 1) (hb : b = 0 ∨ b = 1) : kor a b = 0 ∨ kor a b = 1 := by
  rcases ha with rfl | rfl <;> rcases hb with rfl | rfl <;> decide
theorem tyOK_step {v : Int → Int} {op : Int} {st : List Int} {t t' : List Bool} (h : tyOK st t) (ht : ty1 op t = some t') : tyOK (opS v op st) t' := by
  unfold ty1 at ht
  split at ht
  · rename_i h0
    cases ht
    unfold opS
    by_cases h1 : 0 ≤ op
    · rw [if_pos h1]; exact ⟨fun q => Bool.noConfusion q, h⟩
    · rw [if_neg h1, if_pos (by omega)]; exact ⟨fun q => Bool.noConfusion q, h⟩
  · rename_i h0
    have e1 : ¬ 0 ≤ op := by omega
    have e2 : ¬ (-268 ≤ op ∧ op ≤ -256) := by omega
    unfold opS
    rw [if_neg e1, if_neg e2]
    split at ht
    · rename_i h3
      rw [if_pos h3]
      split at ht
      · cases ht
        match st, h with
        | x :: r, h =>
          refine ⟨fun _ => ?_, h.2⟩
          by_cases hx : x = 0 <;> simp [hx]
      · cases ht
    · rename_i h3
      rw [if_neg h3]
      split at ht
      · rename_i h4
        split at ht
        · cases ht
          match st, h with
          | b :: a :: r, h =>
            refine ⟨fun _ => ?_, h.2.2⟩
            rcases h4 with rfl | rfl | rfl | rfl | rfl <;> simp only [joS] <;> simp <;> omega
        · cases ht
      · split at ht
        · rename_i h5
          split at ht
          · cases ht
            match st, h with
            | b :: a :: r, h =>
              refine ⟨fun _ => ?_, h.2.2⟩
              have hb := h.1 rfl
              have ha := h.2.1 rfl
              rcases h5 with rfl | rfl
              · simpa [joS] using kand01 ha hb
              · simpa [joS] using kor01 ha hb
          · cases ht
        · split at ht
          · split at ht
            · cases ht
              match st, h with
              | b :: a :: r, h => exact ⟨fun q => Bool.noConfusion q, h.2.2⟩
            · cases ht
          · cases ht
/-- a stack in a row of cells -/
def stkA (a : Nat → Int) : List Int → Prop
  | [] => True
  | x :: r => a r.length = x ∧ stkA a r
theorem stkA.congr {a b : Nat → Int} : ∀ {st : List Int}, (∀ j, j < st.length → a j = b j) → stkA a st → stkA b st
  | [], _, _ => trivial
  | x :: r, h, hs => ⟨by rw [← h r.length (by simp)]; exact hs.1, stkA.congr (st := r) (fun j hj => h j (by simp; omega)) hs.2⟩
/-- a law's whole row of signs: sums, tests, their ends -/
def wfc : List Int → List Bool → Prop
  | [], _ => True
  | op :: c, t => if op = -59 then t = [false] else if op = -270 then t = [true, false] ∧ wfc c [] else ∃ t', ty1 op t = some t' ∧ t'.length ≤ 60 ∧ wfc c t'
def bot : List Int → Int
  | [] => 0
  | [x] => x
  | _ :: r => bot r
def runL (v : Int → Int) : List Int → List Int → Int
  | [], _ => 0
  | op :: c, st => if op = -59 then bot st else if op = -270 then (match st with
    | t :: s :: _ => if t = 0 then runL v c [] else s
    | _ => 0) else runL v c (opS v op st)
theorem stkA_bot {a : Nat → Int} : ∀ {st : List Int}, st ≠ [] → stkA a st → a 0 = bot st
  | [x], _, h => h.1
  | _ :: y :: r, _, h => by
    have := stkA_bot (a := a) (st := y :: r) (by simp) h.2
    exact this
