/-- where the model's answer is behind sign k -/
def MI (s z : S2) (v : Int → Int) (ops : List Int) (T : List Int) (tt : List Bool) (k n : Nat) : Prop := Fr (fun f i => Nat.beq f 1588 && Nat.beq i 0) s z ∧ ∃ (st : List Int) (t : List Bool), stkA (z 1588 0) st ∧ n = st.length ∧ tyOK st t ∧ t.length ≤ 60 ∧ tyR (ops.drop k) t = some tt ∧ evS v (ops.drop k) st = T
def pE (f i : Nat) : Bool := Nat.beq f 1588 && Nat.beq i 0
theorem pE_f {f i : Nat} : pE f i = false ↔ ¬ (f = 1588 ∧ i = 0) := by
  unfold pE
  rw [← Bool.not_eq_true, Bool.and_eq_true, Nat.beq_eq, Nat.beq_eq]
theorem m206_i {r j : Nat} (hr : r < 6) (hj : j < 300) : jadd (jmul 300 (r : Int)) (j : Int) = ((300 * r + j : Nat) : Int) := by
  rw [jmul_e (by omega) (by omega), jadd_e (by omega) (by omega)]; omega
theorem m206_j {j : Nat} (hj : j < 1000) : jadd (j : Int) 1 = ((j + 1 : Nat) : Int) := by
  rw [jadd_e (by omega) (by omega)]; rfl
theorem m206_neg {r j n : Nat} {U x : Int} {z : S2} (hr : r < 6) (hj : j < 300) (hn : n < 100) (hU : (j : Int) < U) (hE : entM z r j (-273)) (hx : x = 0 ∨ x = 1) (kx : z 1588 0 n = x) : f206_a r U ((n + 1 : Nat) : Int) j z = some (.inl (((n + 1 : Nat) : Int), ((j + 1 : Nat) : Int), st2 z 1588 0 n (if x = 0 then 1 else 0))) := by
  obtain ⟨g1, -, -⟩ := hE
  have e1 : jsub ((n + 1 : Nat) : Int) 1 = (n : Int) := by rw [jsub_e (by omega) (by omega)]; omega
  have hs : ksub 1 x = if x = 0 then 1 else 0 := by rcases hx with rfl | rfl <;> decide
  have hm : mopS (-273) = 9 := by decide
  unfold f206_a
  rw [if_neg (by omega), m206_i hr hj, ld_t (by omega) (by omega), Int.toNat_natCast, ld_t (by omega) (by omega), Int.toNat_natCast, g1, hm, jn, if_neg (by decide), if_pos (by decide), if_neg (by decide), e1, ld_t (by omega) (by omega), Int.toNat_natCast, kx, hs, sto_t (by omega) (by omega), Int.toNat_natCast, bnd, m206_j (by omega)]
theorem m206_k {n : Nat} (hn : n < 100) : jadd ((n + 1 + 1 : Nat) : Int) (-1) = ((n + 1 : Nat) : Int) := by
  rw [jadd_e (by omega) (by omega)]
  omega
theorem m206_l {n : Nat} (hn : n < 100) : jsub ((n + 1 : Nat) : Int) 1 = (n : Int) := by
  rw [jsub_e (by omega) (by omega)]
  omega
theorem m206_bq {r j n : Nat} {U q a b w : Int} {z : S2} (hr : r < 6) (hj : j < 300) (hn : n < 100) (hU : (j : Int) < U) (g1 : z 1580 0 (300 * r + j) = q) (h0 : ¬ q = 0) (h1 : ¬ q = 1) (h9 : ¬ q = 9) (h207 : f207 q a b = some w) (ka : z 1588 0 n = a) (kb : z 1588 0 (n + 1) = b) : f206_a r U ((n + 1 + 1 : Nat) : Int) j z = some (.inl (((n + 1 : Nat) : Int), ((j + 1 : Nat) : Int), st2 z 1588 0 n w)) := by
  unfold f206_a
  rw [if_neg (by omega), m206_i hr hj, ld_t (by omega) (by omega), Int.toNat_natCast, ld_t (by omega) (by omega), Int.toNat_natCast, g1, jn, if_neg h0, if_pos h1, if_pos h9, bnd, m206_k hn, m206_l hn, ld_t (by omega) (by omega), Int.toNat_natCast, ld_t (by omega) (by omega), Int.toNat_natCast, ka, kb, h207, cP_s, sto_t (by omega) (by omega), Int.toNat_natCast, bnd, m206_j (by omega)]
theorem m206_v0 {r j n : Nat} {U x : Int} {z : S2} (hr : r < 6) (hj : j < 300) (hn : n < 100) (hU : (j : Int) < U) (g1 : z 1580 0 (300 * r + j) = 0) (g2 : z 1581 0 (300 * r + j) = x) : f206_a r U n j z = some (.inl (((n + 1 : Nat) : Int), ((j + 1 : Nat) : Int), st2 z 1588 0 n (ji2l x))) := by
  unfold f206_a
  rw [if_neg (by omega), m206_i hr hj, ld_t (by omega) (by omega), Int.toNat_natCast, ld_t (by omega) (by omega), Int.toNat_natCast, g1, g2, jn, if_pos rfl, jn, if_neg (by decide)]
  dsimp only
  rw [sto_t (by omega) (by omega), Int.toNat_natCast, bnd, bnd, m206_j (by omega), m206_j (by omega)]
theorem m206_v1 {r j n w : Nat} {U x : Int} {z : S2} (hr : r < 6) (hj : j < 300) (hn : n < 100) (hU : (j : Int) < U) (hw : w < 13) (g1 : z 1580 0 (300 * r + j) = 1) (g2 : z 1581 0 (300 * r + j) = w) (g3 : z 1587 0 w = x) : f206_a r U n j z = some (.inl (((n + 1 : Nat) : Int), ((j + 1 : Nat) : Int), st2 z 1588 0 n x)) := by
  unfold f206_a
  rw [if_neg (by omega), m206_i hr hj, ld_t (by omega) (by omega), Int.toNat_natCast, ld_t (by omega) (by omega), Int.toNat_natCast, g1, g2, jn, if_neg (by decide), if_neg (by decide), jn, if_pos (by decide), ld_t (by omega) (by omega), Int.toNat_natCast, g3]
  dsimp only
  rw [sto_t (by omega) (by omega), Int.toNat_natCast, bnd, bnd, m206_j (by omega), m206_j (by omega)]
theorem mop_v {op : Int} (h : 0 ≤ op) : mopS op = 0 := by unfold mopS; rw [if_pos h]
theorem mop_w {op : Int} (h : -268 ≤ op) (h2 : op ≤ -256) : mopS op = 1 := by unfold mopS; rw [if_neg (by omega), if_pos ⟨h, h2⟩]
theorem mop_j {op : Int} (h : isJ op) : ¬ mopS op = 0 ∧ ¬ mopS op = 1 ∧ ¬ mopS op = 9 := by
  rcases h with rfl | rfl | rfl | rfl | rfl | rfl | rfl | rfl | rfl | rfl | rfl | rfl <;> decide
theorem opS_v {v : Int → Int} {op : Int} {st : List Int} (h : 0 ≤ op) : opS v op st = op :: st := by unfold opS; rw [if_pos h]
theorem opS_w {v : Int → Int} {op : Int} {st : List Int} (h : -268 ≤ op) (h2 : op ≤ -256) : opS v op st = v (-op) :: st := by unfold opS; rw [if_neg (by omega), if_pos ⟨h, h2⟩]
theorem opS_n {v : Int → Int} {x : Int} {st : List Int} : opS v (-273) (x :: st) = (if x = 0 then 1 else 0) :: st := rfl
theorem opS_j {v : Int → Int} {op a b : Int} {st : List Int} (h : isJ op) : opS v op (b :: a :: st) = joS (-op) a b :: st := by
  rcases h with rfl | rfl | rfl | rfl | rfl | rfl | rfl | rfl | rfl | rfl | rfl | rfl <;> rfl
theorem stkA_st {a : Nat → Int} {st : List Int} {x : Int} {z : S2} (ha : a = z 1588 0) (h : stkA a st) : stkA (st2 z 1588 0 st.length x 1588 0) (x :: st) := by
  subst ha
  refine stkA_set h (fun j hj => ?_) ?_
  · rw [st2_d, if_neg (by omega)]
  · rw [st2_eq]
/-- one sign of an answer: the stack st of kinds t -/
theorem m206_op {r j : Nat} {U : Int} {v : Int → Int} {op : Int} {st : List Int} {t t' : List Bool} {z : S2} (hr : r < 6) (hj : j < 300) (hU : (j : Int) < U) (hE : entM z r j op) (hv : ∀ w : Nat, w < 13 → z 1587 0 w = v (256 + w)) (hs : stkA (z 1588 0) st) (ht : tyOK st t) (h60 : t.length ≤ 60) (e : ty1 op t = some t') : ∃ z', f206_a r U st.length j z = some (.inl (((opS v op st).length : Int), ((j + 1 : Nat) : Int), z')) ∧ Fr pE z z' ∧ stkA (z' 1588 0) (opS v op st) := by
  have kl := ht.len
  obtain ⟨g1, g2, g3⟩ := hE
  rcases ty1_cases e with ⟨h0, -⟩ | ⟨rfl, q, hq, -⟩ | ⟨h0, b1, b2, b3, q, hq, -⟩
  · clear e
    by_cases h1 : 0 ≤ op
    · rw [mop_v h1] at g1
      obtain ⟨g4, g5⟩ := g2 h1
      rw [opS_v h1]
      refine ⟨_, m206_v0 hr hj (by omega) hU g1 g5, Fr.rf.st rfl, ?_⟩
      rw [ji2l_e (by omega) (by omega)]
      exact stkA_st rfl hs
    · have h2 : -268 ≤ op ∧ op ≤ -256 := by omega
      rw [mop_w h2.1 h2.2] at g1
      have g4 := g3 h2
      rw [opS_w h2.1 h2.2]
      have e1 : z 1581 0 (300 * r + j) = (((-op - 256).toNat : Nat) : Int) := by rw [g4]; omega
      have e2 : z 1587 0 (-op - 256).toNat = v (-op) := by
        rw [hv (-op - 256).toNat (by omega)]; congr 1; omega
      exact ⟨_, m206_v1 hr hj (by omega) hU (by omega) g1 e1 e2, Fr.rf.st rfl, stkA_st rfl hs⟩
  · subst hq
    obtain ⟨x, st, rfl⟩ : ∃ x q, st = x :: q := by
      match st, kl with
      | x :: q, _ => exact ⟨x, q, rfl⟩
    rw [opS_n]
    simp only [List.length_cons] at kl h60 ⊢
    exact ⟨_, m206_neg hr hj (by omega) hU ⟨g1, g2, g3⟩ (ht.1 rfl) hs.1, Fr.rf.st rfl, stkA_st rfl hs.2⟩
  · subst hq
    obtain ⟨b, a, st, rfl⟩ : ∃ b a q, st = b :: a :: q := by
      match st, kl with
      | b :: a :: q, _ => exact ⟨b, a, q, rfl⟩
    have hn : st.length < 100 := by
      simp only [List.length_cons] at kl h60
      omega
    obtain ⟨k0, k1, k9⟩ := mop_j h0
    have h207 := m207 (a := a) (b := b) h0
    rw [opS_j h0]
    exact ⟨_, m206_bq hr hj hn hU g1 k0 k1 k9 h207 hs.2.1 hs.1, Fr.rf.st rfl, stkA_st rfl hs.2.2⟩
