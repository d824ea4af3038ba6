/-! FEED and END on both sides -/
theorem ji2b_bv {y : Int} : ji2b y = ((BitVec.ofInt 32 y).setWidth 8).toInt := by
  unfold ji2b
  rw [Int8.toInt_toInt32]
  show ((BitVec.ofInt 32 y).signExtend 8).toInt = _
  rw [BitVec.signExtend_eq_setWidth_of_le _ (by decide)]
theorem sw8 {v : BitVec 8} : (BitVec.ofInt 32 v.toInt).setWidth 8 = v := by
  have : BitVec.ofInt 32 v.toInt = v.signExtend 32 := by
    rfl
  rw [this]
  refine BitVec.eq_of_getLsbD_eq fun i hi => ?_
  rw [BitVec.getLsbD_setWidth, BitVec.getLsbD_signExtend]
  simp [hi]
  omega
theorem ji2b_2 {y : Int} : ji2b (ji2b y) = ji2b y := by
  rw [ji2b_bv (y := ji2b y), ji2b_bv (y := y), sw8]
theorem jshr_bv {a : Int} {x : Nat} (hx : x = 24 ∨ x = 16 ∨ x = 8 ∨ x = 0) : jshr a x = ((BitVec.ofInt 32 a).sshiftRight x).toInt := by
  rcases hx with rfl | rfl | rfl | rfl <;> rfl
theorem jushr_bv {a : Int} {x : Nat} (hx : x = 24 ∨ x = 16 ∨ x = 8 ∨ x = 0) : jushr a x = ((BitVec.ofInt 32 a) >>> x).toInt := by
  rcases hx with rfl | rfl | rfl | rfl <;> rfl
theorem jand_bv {v : BitVec 32} : jand v.toInt 255 = ((v.toNat % 256 : Nat) : Int) := by
  have h1 : jand v.toInt 255 = (v &&& 255#32).toInt := by
    unfold jand
    show ((BitVec.ofInt 32 v.toInt) &&& 255#32).toInt = _
    rw [BitVec.ofInt_toInt]
  have h2 : (v &&& 255#32).toNat = v.toNat % 256 := by
    rw [BitVec.toNat_and]
    exact Nat.and_two_pow_sub_one_eq_mod (n := 8) v.toNat
  rw [h1, BitVec.toInt_eq_toNat_of_lt (by rw [h2]; have := Nat.mod_lt v.toNat (show 256 > 0 by decide); omega), h2]
theorem byte_e {a : Int} {x : Nat} (hx : x = 24 ∨ x = 16 ∨ x = 8 ∨ x = 0) : ∃ b : Nat, b < 256 ∧ jand (jushr a x) 255 = b ∧ ji2b (ji2b (jshr a x)) = ji2b b := by
  refine ⟨((BitVec.ofInt 32 a) >>> x).toNat % 256, Nat.mod_lt _ (by decide), ?_, ?_⟩
  · rw [jushr_bv hx, jand_bv]
  · rw [ji2b_2, ji2b_bv, ji2b_bv, jshr_bv hx, BitVec.ofInt_toInt]
    congr 1
    refine BitVec.eq_of_getLsbD_eq fun i hi => ?_
    rw [BitVec.getLsbD_setWidth, BitVec.getLsbD_setWidth, BitVec.getLsbD_sshiftRight]
    have e : BitVec.ofInt 32 ((((BitVec.ofInt 32 a) >>> x).toNat % 256 : Nat) : Int) = BitVec.ofNat 32 (((BitVec.ofInt 32 a) >>> x).toNat % 256) := BitVec.ofInt_natCast 32 _
    rw [e, BitVec.getLsbD_ofNat, show (256 : Nat) = 2 ^ 8 from rfl, Nat.testBit_mod_two_pow]
    have e2 : (((BitVec.ofInt 32 a) >>> x).toNat).testBit i = (BitVec.ofInt 32 a).getLsbD (x + i) := by
      rw [← BitVec.getLsbD, BitVec.getLsbD_ushiftRight]
    rw [e2]
    have h1 : i < 32 := by omega
    have h2 : x + i < 32 := by omega
    simp [hi, h1, h2, show ¬ 32 ≤ i by omega]
def bY (a : Int) (j : Nat) : Nat := (jand (jushr a ((24 - 8 * j : Nat) : Int)) 255).toNat
theorem bY_e {a : Int} {j : Nat} (hj : j < 4) : bY a j < 256 ∧ jand (jushr a ((24 - 8 * j : Nat) : Int)) 255 = (bY a j : Int) ∧ ji2b (ji2b (jshr a ((24 - 8 * j : Nat) : Int))) = ji2b (bY a j) := by
  obtain ⟨b, h1, h2, h3⟩ := byte_e (a := a) (x := 24 - 8 * j) (by omega)
  have : bY a j = b := by
    unfold bY
    rw [h2]
    rfl
  rw [this]
  exact ⟨h1, h2, h3⟩
def apB (bs : Nat → Nat) (n : Nat) (a : Int) : Nat → Nat := fun k => if k < n then bs k else bY a (k - n)
def HC (s : S2) (bs : Nat → Nat) (n : Nat) : Prop := s 129 0 0 = n ∧ ∀ k, k < n → bs k < 256 ∧ s 128 0 k = bs k
def HMt (s : S2) (bs : Nat → Nat) (n : Nat) : Prop := s 1569 0 0 = n ∧ ∀ k, k < n → s 1579 0 k = ji2b (bs k)
def pTc (f i : Nat) : Bool := (Nat.beq f 128 || Nat.beq f 129) && Nat.beq i 0
theorem pTc_f {f i : Nat} : pTc f i = false ↔ ¬ ((f = 128 ∨ f = 129) ∧ i = 0) := by
  rw [← Bool.not_eq_true]
  unfold pTc
  simp only [Bool.or_eq_true, Bool.and_eq_true, Nat.beq_eq]
def pTm (f i : Nat) : Bool := (Nat.beq f 1579 || Nat.beq f 1569) && Nat.beq i 0
theorem pTm_f {f i : Nat} : pTm f i = false ↔ ¬ ((f = 1579 ∨ f = 1569) ∧ i = 0) := by
  rw [← Bool.not_eq_true]
  unfold pTm
  simp only [Bool.or_eq_true, Bool.and_eq_true, Nat.beq_eq]
theorem m16 {s : S2} {bs : Nat → Nat} {n : Nat} {a : Int} (h : HC s bs n) (hn : n + 4 ≤ 400) : ∃ z, f16 a s = some z ∧ HC z (apB bs n a) (n + 4) ∧ Fr pTc s z := by
  unfold f16
  refine inv_cP (a := ((24 : Int), s)) (P := fun e => ∃ z, e = some z ∧ HC z (apB bs n a) (n + 4) ∧ Fr pTc s z) (fun (i : Nat) (z : Int × S2) => z.1 = 24 - 8 * (i : Int) ∧ HC z.2 (apB bs n a) (n + i) ∧ Fr pTc s z.2) (fun (z : S2) => HC z (apB bs n a) (n + 4) ∧ Fr pTc s z) 4 (by decide) ⟨rfl, ⟨h.1, fun k hk => ?_⟩, Fr.rf⟩ ?_ ?_
  · have hk : k < n := hk
    unfold apB
    rw [if_pos hk]
    exact h.2 k hk
  · rintro i ⟨x, z⟩ hi ⟨g1, g2, g3⟩
    dsimp only at g1 g2 g3 ⊢
    subst g1
    by_cases e : i = 4
    · subst e
      refine Or.inr ⟨z, ?_, g2, g3⟩
      show f16_a a _ z = _
      unfold f16_a
      rw [if_pos (by omega)]
    · refine Or.inl ⟨by omega, ?_⟩
      obtain ⟨q1, q2, q3⟩ := bY_e (a := a) (j := i) (by omega)
      have ex : (24 - 8 * (i : Int)) = ((24 - 8 * i : Nat) : Int) := by omega
      have e1 : jadd (24 - 8 * (i : Int)) (-8) = 24 - 8 * ((i + 1 : Nat) : Int) := by
        rw [jadd_e (by omega) (by omega)]
        omega
      have e3 : jadd ((n + i : Nat) : Int) 1 = ((n + i : Nat) : Int) + 1 := jadd_e (by omega) (by omega)
      refine ⟨((24 - 8 * ((i + 1 : Nat) : Int)), st2 (st2 z 128 0 (n + i) (bY a i)) 129 0 0 ((n + i : Nat) + 1 : Int)), ?_, rfl, ⟨?_, fun k hk => ?_⟩, (g3.st rfl).st rfl⟩
      · show f16_a a _ z = _
        have g1 := g2.1
        unfold f16_a
        simp only [bnd]
        rw [if_neg (by omega), g1, if_neg (by omega), if_neg (by omega), sto_t (by omega) (by omega), ex, q2, Int.toNat_natCast, st2_ne (f' := 129) (by omega), g1, e3, ← ex, e1]
      · dsimp only
        rw [st2_eq]
        omega
      · dsimp only
        by_cases e2 : k = n + i
        · subst e2
          rw [st2_ne (by omega), st2_eq]
          unfold apB
          rw [if_neg (by omega), show n + i - n = i by omega]
          exact ⟨q1, rfl⟩
        · rw [st2_ne (by omega), st2_ne (by omega)]
          exact g2.2 k (by omega)
  · rintro z ⟨g1, g2⟩
    exact ⟨z, rfl, g1, g2⟩
theorem m157 {s : S2} {bs : Nat → Nat} {n : Nat} {a : Int} (h : HMt s bs n) (hn : n + 4 ≤ 400) : ∃ z, f157 a s = some z ∧ HMt z (apB bs n a) (n + 4) ∧ Fr pTm s z := by
  unfold f157
  refine inv_cP (a := ((24 : Int), s)) (P := fun e => ∃ z, e = some z ∧ HMt z (apB bs n a) (n + 4) ∧ Fr pTm s z) (fun (i : Nat) (z : Int × S2) => z.1 = 24 - 8 * (i : Int) ∧ HMt z.2 (apB bs n a) (n + i) ∧ Fr pTm s z.2) (fun (z : S2) => HMt z (apB bs n a) (n + 4) ∧ Fr pTm s z) 4 (by decide) ⟨rfl, ⟨h.1, fun k hk => ?_⟩, Fr.rf⟩ ?_ ?_
  · have hk : k < n := hk
    unfold apB
    rw [if_pos hk]
    exact h.2 k hk
  · rintro i ⟨x, z⟩ hi ⟨g1, g2, g3⟩
    dsimp only at g1 g2 g3 ⊢
    subst g1
    by_cases e : i = 4
    · subst e
      refine Or.inr ⟨z, ?_, g2, g3⟩
      show f157_a a _ z = _
      unfold f157_a
      rw [if_pos (by omega)]
    · refine Or.inl ⟨by omega, ?_⟩
      obtain ⟨q1, q2, q3⟩ := bY_e (a := a) (j := i) (by omega)
      have ex : (24 - 8 * (i : Int)) = ((24 - 8 * i : Nat) : Int) := by omega
      have e1 : jadd (24 - 8 * (i : Int)) (-8) = 24 - 8 * ((i + 1 : Nat) : Int) := by
        rw [jadd_e (by omega) (by omega)]
        omega
      have e3 : jadd ((n + i : Nat) : Int) 1 = ((n + i : Nat) : Int) + 1 := jadd_e (by omega) (by omega)
      refine ⟨((24 - 8 * ((i + 1 : Nat) : Int)), st2 (st2 z 1579 0 (n + i) (ji2b (bY a i))) 1569 0 0 ((n + i : Nat) + 1 : Int)), ?_, rfl, ⟨?_, fun k hk => ?_⟩, (g3.st rfl).st rfl⟩
      · show f157_a a _ z = _
        have g1 := g2.1
        unfold f157_a
        simp only [bnd]
        rw [if_neg (by omega), g1, sto_t (by omega) (by omega), ex, q3, Int.toNat_natCast, st2_ne (f' := 1569) (by omega), g1, e3, ← ex, e1]
      · dsimp only
        rw [st2_eq]
        omega
      · dsimp only
        by_cases e2 : k = n + i
        · subst e2
          rw [st2_ne (by omega), st2_eq]
          unfold apB
          rw [if_neg (by omega), show n + i - n = i by omega]
        · rw [st2_ne (by omega), st2_ne (by omega)]
          exact g2.2 k (by omega)
  · rintro z ⟨g1, g2⟩
    exact ⟨z, rfl, g1, g2⟩
