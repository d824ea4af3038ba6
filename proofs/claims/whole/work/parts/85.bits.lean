/-! BITS: sets of ten pieces -/
def tb (i k : Nat) : Int := if Nat.testBit i k = true then 1 else 0
theorem bt_all : ∀ (i : Fin 1024) (k : Fin 16), jand (jshr (i.val : Int) (k.val : Int)) 1 = tb i.val k.val := by decide +kernel
theorem bt_e {i k : Nat} (hi : i < 1024) (hk : k < 16) : jand (jshr (i : Int) (k : Int)) 1 = tb i k := bt_all ⟨i, hi⟩ ⟨k, hk⟩
theorem tb_01 {i k : Nat} : tb i k = 0 ∨ tb i k = 1 := by
  unfold tb
  split
  · exact Or.inr rfl
  · exact Or.inl rfl
def bcI (i : Nat) : Int := sumI 16 (fun k => tb i k)
theorem bc_all : ∀ (i : Fin 1024), f273 (i.val : Int) = some (bcI i.val) := by decide +kernel
theorem m273 {i : Nat} (hi : i < 1024) : f273 (i : Int) = some (bcI i) := bc_all ⟨i, hi⟩
theorem m248 {i : Nat} (hi : i < 1024) : f248 (i : Int) = some (bcI i) := by
  have hB : ∀ k, k ≤ 16 → 0 ≤ sumI k (fun k => tb i k) ∧ sumI k (fun k => tb i k) ≤ 16 := fun k hk => by
    have := sumI_bd (f := fun k => tb i k) (a := 0) (b := 1) (n := k) (fun j hj => by have := tb_01 (i := i) (k := j); omega)
    omega
  unfold f248
  refine seq_cP (fun k => (sumI k (fun k => tb i k), (k : Int))) 16 _ rfl (by decide) ?_ rfl rfl
  intro k hk
  have h1 := hB k (by omega)
  have h2 := tb_01 (i := i) (k := k)
  show f248_a i _ _ = _
  unfold f248_a
  rw [if_neg (by omega), bt_e hi hk, bnd, bnd, jadd_e (by omega) (by omega), jadd_e (by omega) (by omega), sumI_s]
  rfl
theorem or_all : ∀ (n : Fin 10) (a : Fin 1024), jor (a.val : Int) (jshl 1 (n.val : Int)) = ((a.val ||| 2 ^ n.val : Nat) : Int) := by decide +kernel
def setN : Nat → (Nat → Bool) → Nat
  | 0, _ => 0
  | n + 1, p => if p n = true then setN n p ||| 2 ^ n else setN n p
theorem setN_s {p : Nat → Bool} {n : Nat} : setN (n + 1) p = if p n = true then setN n p ||| 2 ^ n else setN n p := rfl
theorem setN_bd {p : Nat → Bool} : ∀ {n : Nat}, n ≤ 10 → setN n p < 1024
  | 0, _ => by
    show 0 < 1024
    decide
  | n + 1, h => by
    have ih := setN_bd (p := p) (n := n) (by omega)
    rw [setN_s]
    split
    · have h2 : 2 ^ n < 2 ^ 10 := Nat.pow_lt_pow_right (by decide) (by omega)
      exact Nat.or_lt_two_pow (n := 10) ih h2
    · exact ih
theorem setB_N {p : Nat → Bool} : ∀ {n : Nat}, n ≤ 10 → setB n p = (setN n p : Int)
  | 0, _ => rfl
  | n + 1, h => by
    have ih := setB_N (p := p) (n := n) (by omega)
    have hb := setN_bd (p := p) (n := n) (by omega)
    rw [setB_s, ih, setN_s]
    by_cases e : p n = true
    · rw [if_pos e, if_pos e]
      exact or_all ⟨n, by omega⟩ ⟨setN n p, hb⟩
    · rw [if_neg e, if_neg e]
theorem setN_tb {p : Nat → Bool} {k : Nat} : ∀ {n : Nat}, Nat.testBit (setN n p) k = true → k < n ∧ p k = true
  | 0, h => by
    unfold setN at h
    rw [Nat.zero_testBit] at h
    cases h
  | n + 1, h => by
    rw [setN_s] at h
    by_cases e : p n = true
    · rw [if_pos e, Nat.testBit_or, Bool.or_eq_true] at h
      rcases h with h | h
      · have := setN_tb h
        exact ⟨by omega, this.2⟩
      · rw [Nat.testBit_two_pow] at h
        have := of_decide_eq_true h
        subst this
        exact ⟨by omega, e⟩
    · rw [if_neg e] at h
      have := setN_tb h
      exact ⟨by omega, this.2⟩
/-- a set that is in another one, as both sides test it -/
theorem sub_tb {i p : Nat} (hi : i < 1024) (hp : p < 1024) (h : jand (i : Int) (jxor (p : Int) (-1)) = 0) {k : Nat} (hk : Nat.testBit i k = true) : Nat.testBit p k = true := by
  have hk32 : k < 32 := by
    rcases Nat.lt_or_ge k 32 with q | q
    · exact q
    · have h1 : i < 2 ^ k := Nat.lt_of_lt_of_le (show i < 2 ^ 32 by omega) (Nat.pow_le_pow_right (by decide) q)
      rw [Nat.testBit_lt_two_pow h1] at hk
      cases hk
  unfold jand jxor at h
  rw [Int32.ofInt_toInt] at h
  have h2 : (Int32.ofInt (i : Int) &&& (Int32.ofInt (p : Int) ^^^ Int32.ofInt (-1))) = 0 := Int32.toInt_inj.mp (h.trans (by decide))
  have h3 := congrArg Int32.toBitVec h2
  rw [Int32.toBitVec_and, Int32.toBitVec_xor] at h3
  have e1 : (Int32.ofInt (i : Int)).toBitVec = BitVec.ofNat 32 i := BitVec.ofInt_natCast ..
  have e2 : (Int32.ofInt (p : Int)).toBitVec = BitVec.ofNat 32 p := BitVec.ofInt_natCast ..
  have e3 : (Int32.ofInt (-1)).toBitVec = BitVec.allOnes 32 := by decide
  have e4 : (0 : Int32).toBitVec = 0#32 := rfl
  rw [e1, e2, e3, e4] at h3
  have h4 := congrArg (fun b => BitVec.getLsbD b k) h3
  simp only [BitVec.getLsbD_and, BitVec.getLsbD_xor, BitVec.getLsbD_ofNat, BitVec.getLsbD_allOnes, hk32, decide_true, Bool.true_and, hk, BitVec.getLsbD_zero] at h4
  cases hq : Nat.testBit p k with
  | true => rfl
  | false =>
    rw [hq] at h4
    simp at h4
theorem sub_le {i p : Nat} (hi : i < 1024) (hp : p < 1024) (h : jand (i : Int) (jxor (p : Int) (-1)) = 0) : i ≤ p := by
  have e : i &&& p = i := Nat.eq_of_testBit_eq fun k => by
    rw [Nat.testBit_and]
    cases hk : Nat.testBit i k with
    | true => rw [sub_tb hi hp h hk]; rfl
    | false => rfl
  have := Nat.and_le_right (n := i) (m := p)
  omega
/-- the least set of the fewest -/
def subP (p i : Nat) : Prop := jand (i : Int) (jxor (p : Int) (-1)) = 0
def subD (p i : Nat) : Decidable (subP p i) := by unfold subP; exact inferInstance
def lsT (p : Nat) (ok : Nat → Bool) (L : Int) (n : Nat) : Prop := subP p n ∧ (L = -1 ∨ bcI n < bcI L.toNat) ∧ ok n = true
def lsD (p : Nat) (ok : Nat → Bool) (L : Int) (n : Nat) : Decidable (lsT p ok L n) := by
  unfold lsT
  have := subD p n
  exact inferInstance
def lsN (p : Nat) (ok : Nat → Bool) : Nat → Int
  | 0 => -1
  | n + 1 => @ite _ (lsT p ok (lsN p ok n) n) (lsD p ok (lsN p ok n) n) (n : Int) (lsN p ok n)
theorem lsN_t {p n : Nat} {ok : Nat → Bool} (h : lsT p ok (lsN p ok n) n) : lsN p ok (n + 1) = n := if_pos h
theorem lsN_f {p n : Nat} {ok : Nat → Bool} (h : ¬ lsT p ok (lsN p ok n) n) : lsN p ok (n + 1) = lsN p ok n := if_neg h
theorem lsN_bd {p : Nat} {ok : Nat → Bool} : ∀ {n : Nat}, lsN p ok n = -1 ∨ (0 ≤ lsN p ok n ∧ lsN p ok n < n)
  | 0 => Or.inl rfl
  | n + 1 => by
    have := lsN_bd (p := p) (ok := ok) (n := n)
    by_cases h : lsT p ok (lsN p ok n) n
    · rw [lsN_t h]; omega
    · rw [lsN_f h]; omega
theorem lsN_cut {p m : Nat} {ok : Nat → Bool} (hp : p < m) (hm : p < 1024) : ∀ {n : Nat}, m ≤ n → n ≤ 1024 → lsN p ok n = lsN p ok m
  | 0, h, _ => by
    have : m = 0 := by omega
    subst this; rfl
  | n + 1, h, h2 => by
    by_cases e : m = n + 1
    · subst e; rfl
    · rw [lsN_f (fun q => by have := sub_le (by omega) hm q.1; omega)]
      exact lsN_cut hp hm (n := n) (by omega) (by omega)
