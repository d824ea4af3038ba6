/-! LAWS in the model: entries -/
def mopS (op : Int) : Int := if 0 ≤ op then 0 else if -268 ≤ op ∧ op ≤ -256 then 1 else if op = -43 then 2 else if op = -45 then 3 else if op = -60 then 4 else if op = -3 then 5 else if op = -61 then 6 else if op = -4 then 7 else if op = -62 then 8 else if op = -273 then 9 else if op = -271 then 10 else if op = -272 then 11 else if op = -42 then 13 else if op = -47 then 14 else 15
def entM (t : S2) (r j : Nat) (op : Int) : Prop := t 1580 0 (300 * r + j) = mopS op ∧ (0 ≤ op → op < 100000 ∧ t 1581 0 (300 * r + j) = op) ∧ (-268 ≤ op ∧ op ≤ -256 → t 1581 0 (300 * r + j) = -op - 256)
def tyR : List Int → List Bool → Option (List Bool)
  | [], t => some t
  | op :: c, t => match ty1 op t with
    | none => none
    | some t' => if t'.length ≤ 60 then tyR c t' else none
def evS (v : Int → Int) : List Int → List Int → List Int
  | [], st => st
  | op :: c, st => evS v c (opS v op st)
theorem evS_ok {v : Int → Int} : ∀ {ops : List Int} {st : List Int} {t t' : List Bool}, tyOK st t → tyR ops t = some t' → tyOK (evS v ops st) t'
  | [], _, _, _, h, ht => by cases ht; exact h
  | op :: c, st, t, t', h, ht => by
    unfold tyR at ht
    cases e : ty1 op t with
    | none => rw [e] at ht; cases ht
    | some t1 =>
      rw [e] at ht
      simp only at ht
      split at ht
      · exact evS_ok (ops := c) (tyOK_step h e) ht
      · cases ht
/-- the signs that are joints -/
def isJ (op : Int) : Prop := op = -3 ∨ op = -4 ∨ op = -60 ∨ op = -61 ∨ op = -62 ∨ op = -271 ∨ op = -272 ∨ op = -37 ∨ op = -42 ∨ op = -43 ∨ op = -45 ∨ op = -47
theorem ty1_cases {op : Int} {t t' : List Bool} (h : ty1 op t = some t') : (0 ≤ op ∨ (-268 ≤ op ∧ op ≤ -256)) ∧ t' = false :: t ∨ (op = -273 ∧ ∃ r, t = true :: r ∧ t' = true :: r) ∨ (isJ op ∧ ∃ a b c r, t = a :: b :: r ∧ t' = c :: r) := by
  unfold ty1 at h
  split at h
  · rename_i h0
    cases h
    exact Or.inl ⟨h0, rfl⟩
  · split at h
    · rename_i h1
      split at h
      · cases h
        exact Or.inr (Or.inl ⟨h1, _, rfl, rfl⟩)
      · cases h
    · split at h
      · rename_i h2
        split at h
        · cases h
          exact Or.inr (Or.inr ⟨by unfold isJ; omega, _, _, _, _, rfl, rfl⟩)
        · cases h
      · split at h
        · rename_i h2
          split at h
          · cases h
            exact Or.inr (Or.inr ⟨by unfold isJ; omega, _, _, _, _, rfl, rfl⟩)
          · cases h
        · split at h
          · rename_i h2
            split at h
            · cases h
              exact Or.inr (Or.inr ⟨by unfold isJ; omega, _, _, _, _, rfl, rfl⟩)
            · cases h
          · cases h
theorem m208 {x : Int} : f208 x = some (if x = 0 then 0 else 1) := by
  unfold f208
  split <;> rfl
theorem m207 {op a b : Int} (h : isJ op) : f207 (mopS op) a b = some (joS (-op) a b) := by
  rcases h with rfl | rfl | rfl | rfl | rfl | rfl | rfl | rfl | rfl | rfl | rfl | rfl
  all_goals
    simp only [mopS, joS, f207, jn, bnd, m208, cP_s, gd, jcmp_lt, jcmp_gt, jcmp_le, jcmp_ge, jcmp_eq]
    grind
