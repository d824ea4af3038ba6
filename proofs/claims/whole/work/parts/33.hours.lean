/-! trial hours: their start, rain -/
theorem m72 {r : Int} {s : S2} : f72 r s = some (if 0 ≤ r ∧ r < s 898 0 0 ∧ r < 6 then 1 else 0) := by
  unfold f72 bnd
  grind
def lawI (s : S2) (r : Int) : Nat := if 0 ≤ r ∧ r < s 898 0 0 ∧ r < 6 then r.toNat else 6
theorem m76 {r : Int} {s : S2} : f76 r s = some (lawI s r) := by
  unfold f76 lawI
  rw [m72, cP_s]
  by_cases h : 0 ≤ r ∧ r < s 898 0 0 ∧ r < 6
  · simp (disch := omega) only [h, and_self, and_true, true_and, not_true_eq_false, not_false_eq_true, reduceIte, bnd, jn, se, cP_s, cR_s, if_pos, if_neg, gd_t, ld_t, ldr_t, sto_t, jadd_e, jsub_e, Int.toNat_natCast]
    rfl
  · simp (disch := omega) only [h, and_self, and_true, true_and, not_true_eq_false, not_false_eq_true, reduceIte, bnd, jn, se, cP_s, cR_s, if_pos, if_neg, gd_t, ld_t, ldr_t, sto_t, jadd_e, jsub_e, Int.toNat_natCast]
def pS (f i : Nat) : Bool := (Nat.beq i 0 && (Nat.beq f 1153 || Nat.beq f 1154)) || pY 160 f i
theorem pS_f {f i : Nat} : pS f i = false ↔ ¬ (i = 0 ∧ (f = 1153 ∨ f = 1154)) ∧ pY 160 f i = false := by
  unfold pS
  rw [Bool.or_eq_false_iff, ← Bool.not_eq_true (Nat.beq i 0 && _), Bool.and_eq_true, Bool.or_eq_true, Nat.beq_eq, Nat.beq_eq, Nat.beq_eq]
theorem m77 {c r b : Nat} {s : S2} : ∃ s', f77 c r b s = some s' ∧ yv s' 160 = yv s b ∧ s' 1153 0 0 = (c : Int) ∧ s' 1154 0 0 = (r : Int) ∧ Fr pS s s' := by
  unfold f77
  simp only [bnd]
  have H : ∀ S : S2, S 1153 0 0 = (c : Int) → S 1154 0 0 = (r : Int) → Fr pS s S → (∀ f, 512 ≤ f → f ≤ 518 → S f b = s f b) → ∃ s', cP (f58 160 b S) (fun s3 => some s3) = some s' ∧ yv s' 160 = yv s b ∧ s' 1153 0 0 = (c : Int) ∧ s' 1154 0 0 = (r : Int) ∧ Fr pS s s' := by
    intro S h1 h2 h3 h4
    obtain ⟨s', e, g1, g2⟩ := m58 (a := 160) (b := b) (s := S)
    refine ⟨s', by rw [e]; rfl, ?_, ?_, ?_, h3.tr (g2.mo fun f i h => (pS_f.mp h).2)⟩
    · rw [g1]
      refine nY_ext fun f k hr => ?_
      show S f b k = s f b k
      rw [h4 f (by unfold yr at hr; omega) (by unfold yr at hr; omega)]
    · rw [g2 1153 0 (by decide)]; exact h1
    · rw [g2 1154 0 (by decide)]; exact h2
  refine H _ (by simp [st2]) (by simp [st2]) ((Fr.rf.st (by decide)).st (by decide)) (fun f h1 h2 => ?_)
  rw [st2_row (by omega), st2_row (by omega)]
theorem m75 {s : S2} : ∃ s', f75 s = some s' ∧ yv s' 160 = yv s 0 ∧ s' 1153 0 0 = 0 ∧ s' 1154 0 0 = (lawI s (s 1033 0 0) : Int) ∧ Fr pS s s' := by
  unfold f75
  simp only [bnd, m76, cP_s]
  obtain ⟨s', e, h1, h2, h3, h4⟩ := m77 (c := 0) (r := lawI s (s 1033 0 0)) (b := 0) (s := s)
  exact ⟨s', by rw [e]; rfl, h1, h2, h3, h4⟩
def anyN : Nat → (Nat → Bool) → Bool
  | 0, _ => false
  | n + 1, p => anyN n p || p n
theorem anyN_t {p : Nat → Bool} {i : Nat} (hp : p i = true) : ∀ {n : Nat}, i < n → anyN n p = true
  | n + 1, h => by
    unfold anyN
    by_cases e : i = n
    · subst e; rw [hp, Bool.or_true]
    · rw [anyN_t hp (n := n) (by omega), Bool.true_or]
theorem anyN_congr {p q : Nat → Bool} : ∀ {n : Nat}, (∀ i, i < n → p i = q i) → anyN n p = anyN n q
  | 0, _ => rfl
  | n + 1, h => by unfold anyN; rw [anyN_congr (n := n) (fun i hi => h i (by omega)), h n (by omega)]
theorem anyN_cut {p : Nat → Bool} {m : Nat} : ∀ {n : Nat}, m ≤ n → (∀ i, m ≤ i → i < n → p i = false) → anyN n p = anyN m p
  | 0, h, _ => by
    have : m = 0 := by omega
    subst this; rfl
  | n + 1, h, h0 => by
    by_cases e : m = n + 1
    · subst e; rfl
    · show (anyN n p || p n) = anyN m p
      rw [anyN_cut (n := n) (by omega) (fun i h1 h2 => h0 i h1 (by omega)), h0 n (by omega) (by omega), Bool.or_false]
def rainB (C : V2) (h : Int) : Bool := anyN 3 (fun r => decide ((r : Int) < C 390 0 ∧ C 398 r ≤ h ∧ h ≤ C 399 r))
theorem scan_cP {γ β : Type} {b : Int → Option (Int ⊕ γ)} {k : γ → Option β} (N : Nat) (p : Nat → Bool) (u v : γ) (hN : N < 1000000) (h1 : ∀ i : Nat, i < N → p i = true → b i = some (.inr u)) (h2 : ∀ i : Nat, i < N → p i = false → b i = some (.inl ((i + 1 : Nat) : Int))) (h3 : b N = some (.inr v)) : cP (itr b am_fu 0) k = k (if anyN N p = true then u else v) := by
  refine inv_cP (P := fun e => e = k (if anyN N p = true then u else v)) (fun i x => x = i ∧ anyN i p = false) (fun z => (z = u ∧ anyN N p = true) ∨ (z = v ∧ anyN N p = false)) N hN ⟨rfl, rfl⟩ ?_ ?_
  · rintro i x hi ⟨rfl, h⟩
    by_cases e : i = N
    · subst e
      exact Or.inr ⟨v, h3, Or.inr ⟨rfl, h⟩⟩
    · cases hp : p i with
      | true => exact Or.inr ⟨u, h1 i (by omega) hp, Or.inl ⟨rfl, anyN_t hp (by omega)⟩⟩
      | false => exact Or.inl ⟨by omega, _, h2 i (by omega) hp, rfl, by unfold anyN; rw [h, hp]; rfl⟩
  · rintro z (⟨rfl, h⟩ | ⟨rfl, h⟩) <;> simp [h]
theorem m79 {c : Nat} {h : Int} {s : S2} : f79 c h s = some (if rainB (cw s c) h = true then 1 else 0) := by
  unfold f79
  have hr : rainB (cw s c) h = anyN 3 (fun i => decide ((i : Int) < s 390 c 0 ∧ s 398 c i ≤ h ∧ h ≤ s 399 c i)) := anyN_congr fun i hi => by
    rw [cw0 (by omega) (by omega), cw3 (by omega) (by omega) hi, cw3 (by omega) (by omega) hi]
  rw [hr, scan_cP 3 (fun i => decide ((i : Int) < s 390 c 0 ∧ s 398 c i ≤ h ∧ h ≤ s 399 c i)) (.inl ()) (.inr ()) (by decide)]
  · cases anyN 3 _ <;> rfl
  · intro i hi hd
    have hd := of_decide_eq_true hd
    simp (disch := omega) only [f79_a, and_self, and_true, true_and, not_true_eq_false, not_false_eq_true, reduceIte, bnd, jn, se, cP_s, cR_s, if_pos, if_neg, gd_t, ld_t, ldr_t, sto_t, jadd_e, jsub_e, Int.toNat_natCast]
  · intro i hi hd
    have hd := of_decide_eq_false hd
    unfold f79_a
    simp (disch := omega) only [and_self, and_true, true_and, not_true_eq_false, not_false_eq_true, reduceIte, bnd, jn, se, cP_s, cR_s, if_pos, if_neg, gd_t, ld_t, ldr_t, sto_t, jadd_e, jsub_e, Int.toNat_natCast]
    grind
  · rfl
/-! what hangs, measured -/
def cel (n : Nat) (C Y : V2) (f l : Int) : Int := sumI n (fun i => if Y 515 i = l ∧ C 395 i = f then C 396 i else 0)
def dmp (n : Nat) (C Y : V2) (f l : Int) : Int := sumI n (fun i => if Y 515 i = l ∧ C 395 i = f then (if 0 < Y 516 i then C 396 i else 0) else 0)
def wns (n : Nat) (C Y : V2) (f l : Int) : Int := sumI n (fun i => if Y 515 i = l ∧ C 395 i = f then Y 516 i else 0)
def maxN : Nat → (Nat → Int) → Int
  | 0, _ => 0
  | n + 1, f => if maxN n f < f n then f n else maxN n f
def wst (n : Nat) (C Y : V2) (f l : Int) : Int := maxN n (fun i => if Y 515 i = l ∧ C 395 i = f then Y 516 i else 0)
def lcl (n : Nat) (C Y : V2) (l : Int) : Int := sumI n (fun i => if Y 515 i = l then C 396 i else 0)
/-- the measure's rows as far as the first n pieces -/
def Ms (n : Nat) (C Y : V2) (s : S2) : Prop := (∀ f l : Nat, f < 4 → l < 6 → s 1156 0 (6 * f + l) = cel n C Y f l ∧ s 1157 0 (6 * f + l) = dmp n C Y f l ∧ s 1158 0 (6 * f + l) = wst n C Y f l ∧ s 1159 0 (6 * f + l) = wns n C Y f l) ∧ ∀ l : Nat, l < 6 → s 1160 0 l = lcl n C Y l
theorem maxN_bd {f : Nat → Int} {b : Int} (hb : 0 ≤ b) : ∀ {n : Nat}, (∀ i, i < n → f i ≤ b) → 0 ≤ maxN n f ∧ maxN n f ≤ b
  | 0, _ => ⟨Int.le_refl 0, hb⟩
  | n + 1, h => by
    have h1 := maxN_bd (f := f) hb (n := n) (fun i hi => h i (by omega))
    have h2 := h n (by omega)
    unfold maxN
    split <;> omega
theorem maxN_congr {f g : Nat → Int} : ∀ {n : Nat}, (∀ i, i < n → f i = g i) → maxN n f = maxN n g
  | 0, _ => rfl
  | n + 1, h => by unfold maxN; rw [maxN_congr (n := n) (fun i hi => h i (by omega)), h n (by omega)]
theorem maxN_cut {f : Nat → Int} {m : Nat} : ∀ {n : Nat}, m ≤ n → (∀ i, m ≤ i → i < n → f i = 0) → maxN n f = maxN m f
  | 0, h, _ => by
    have : m = 0 := by omega
    subst this; rfl
  | n + 1, h, h0 => by
    by_cases e : m = n + 1
    · subst e; rfl
    · have h1 := maxN_cut (f := f) (m := m) (n := n) (by omega) (fun i h1 h2 => h0 i h1 (by omega))
      have h2 := h0 n (by omega) (by omega)
      have h3 : 0 ≤ maxN n f := by
        have : ∀ k, 0 ≤ maxN k f := fun k => by
          induction k with
          | zero => exact Int.le_refl 0
          | succ k ih => unfold maxN; split <;> omega
        exact this n
      show (if maxN n f < f n then f n else maxN n f) = maxN m f
      rw [h2, if_neg (by omega), h1]
