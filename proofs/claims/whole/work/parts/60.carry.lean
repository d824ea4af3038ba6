/-! ROWS CARRIED into images and back -/
def svR (s : S2) (g n p : Nat) : S2 := fun f i k => if f = 1608 ∧ i = 0 ∧ k = 0 then ((p + n : Nat) : Int) else if f = 1606 ∧ i = 0 ∧ p ≤ k ∧ k < p + n then s g 0 (k - p) else s f i k
def rsR (s : S2) (g n p : Nat) : S2 := fun f i k => if f = 1608 ∧ i = 0 ∧ k = 0 then ((p + n : Nat) : Int) else if f = g ∧ i = 0 ∧ k < n then s 1606 0 (p + k) else s f i k
theorem svR_d {s : S2} {g n p f i k : Nat} : svR s g n p f i k = if f = 1608 ∧ i = 0 ∧ k = 0 then ((p + n : Nat) : Int) else if f = 1606 ∧ i = 0 ∧ p ≤ k ∧ k < p + n then s g 0 (k - p) else s f i k := rfl
theorem rsR_d {s : S2} {g n p f i k : Nat} : rsR s g n p f i k = if f = 1608 ∧ i = 0 ∧ k = 0 then ((p + n : Nat) : Int) else if f = g ∧ i = 0 ∧ k < n then s 1606 0 (p + k) else s f i k := rfl
theorem m235s {s : S2} {g n p : Nat} (hn : am_ln g = n) (hn2 : n ≤ 1000) (hg : g < 1606) (hp : p + n ≤ 5500) (h1 : s 1609 0 0 = 0) (h2 : s 1608 0 0 = p) : f235 g s = some (svR s g n p) := by
  unfold f235
  refine seq_cP (fun i => ((i : Int), svR s g i p)) n (svR s g n p) ?_ (by omega) ?_ ?_ rfl
  · have : svR s g 0 p = s := by
      funext f i k
      rw [svR_d]
      by_cases h : f = 1608 ∧ i = 0 ∧ k = 0
      · obtain ⟨rfl, rfl, rfl⟩ := h
        rw [if_pos ⟨rfl, rfl, rfl⟩, h2]; rfl
      · rw [if_neg h, if_neg (by omega)]
    rw [this]; rfl
  · intro i hi
    have q1 : svR s g i p 1609 0 0 = 0 := by rw [svR_d, if_neg (by omega), if_neg (by omega)]; exact h1
    have q2 : svR s g i p 1608 0 0 = ((p + i : Nat) : Int) := by rw [svR_d, if_pos ⟨rfl, rfl, rfl⟩]
    have q3 : svR s g i p g 0 i = s g 0 i := by rw [svR_d, if_neg (by omega), if_neg (by omega)]
    have q4 : st2 (svR s g i p) 1606 0 (p + i) (s g 0 i) 1608 0 0 = ((p + i : Nat) : Int) := by rw [st2_ne (by omega)]; exact q2
    have q5 : st2 (st2 (svR s g i p) 1606 0 (p + i) (s g 0 i)) 1608 0 0 ((p + (i + 1) : Nat) : Int) = svR s g (i + 1) p := by
      funext f j k
      rw [st2_d, st2_d, svR_d, svR_d]
      by_cases e1 : f = 1608 ∧ j = 0 ∧ k = 0
      · rw [if_pos e1, if_pos e1]
      · rw [if_neg e1, if_neg e1, if_neg e1]
        by_cases e2 : f = 1606 ∧ j = 0 ∧ k = p + i
        · rw [if_pos e2, if_pos (by omega)]
          congr 1
          omega
        · rw [if_neg e2]
          by_cases e3 : f = 1606 ∧ j = 0 ∧ p ≤ k ∧ k < p + i
          · rw [if_pos e3, if_pos (by omega)]
          · rw [if_neg e3, if_neg (by omega)]
    show f235_a g i (svR s g i p) = _
    unfold f235_a
    rw [hn, if_neg (by omega), bnd, q1, jn, if_pos rfl, bnd, q2, ld_t (by omega) (by omega), Int.toNat_natCast, q3, sto_t (by omega) (by omega), Int.toNat_natCast]
    dsimp only
    rw [bnd, q4, bnd, bnd, jadd_e (by omega) (by omega), jadd_e (by omega) (by omega), ← q5]
    rfl
  · show f235_a g n (svR s g n p) = _
    unfold f235_a
    rw [hn, if_pos (by omega)]
theorem m235r {s : S2} {g n p : Nat} (hn : am_ln g = n) (hn2 : n ≤ 1000) (hg : g < 1606) (hp : p + n ≤ 5500) (h1 : s 1609 0 0 = 1) (h2 : s 1608 0 0 = p) : f235 g s = some (rsR s g n p) := by
  unfold f235
  refine seq_cP (fun i => ((i : Int), rsR s g i p)) n (rsR s g n p) ?_ (by omega) ?_ ?_ rfl
  · have : rsR s g 0 p = s := by
      funext f i k
      rw [rsR_d]
      by_cases h : f = 1608 ∧ i = 0 ∧ k = 0
      · obtain ⟨rfl, rfl, rfl⟩ := h
        rw [if_pos ⟨rfl, rfl, rfl⟩, h2]; rfl
      · rw [if_neg h, if_neg (by omega)]
    rw [this]; rfl
  · intro i hi
    have q1 : rsR s g i p 1609 0 0 = 1 := by rw [rsR_d, if_neg (by omega), if_neg (by omega)]; exact h1
    have q2 : rsR s g i p 1608 0 0 = ((p + i : Nat) : Int) := by rw [rsR_d, if_pos ⟨rfl, rfl, rfl⟩]
    have q3 : rsR s g i p 1606 0 (p + i) = s 1606 0 (p + i) := by rw [rsR_d, if_neg (by omega), if_neg (by omega)]
    have q4 : st2 (rsR s g i p) g 0 i (s 1606 0 (p + i)) 1608 0 0 = ((p + i : Nat) : Int) := by rw [st2_ne (by omega)]; exact q2
    have q5 : st2 (st2 (rsR s g i p) g 0 i (s 1606 0 (p + i))) 1608 0 0 ((p + (i + 1) : Nat) : Int) = rsR s g (i + 1) p := by
      funext f j k
      rw [st2_d, st2_d, rsR_d, rsR_d]
      by_cases e1 : f = 1608 ∧ j = 0 ∧ k = 0
      · rw [if_pos e1, if_pos e1]
      · rw [if_neg e1, if_neg e1, if_neg e1]
        by_cases e2 : f = g ∧ j = 0 ∧ k = i
        · rw [if_pos e2, if_pos (by omega)]
          congr 1
          omega
        · rw [if_neg e2]
          by_cases e3 : f = g ∧ j = 0 ∧ k < i
          · rw [if_pos e3, if_pos (by omega)]
          · rw [if_neg e3, if_neg (by omega)]
    show f235_a g i (rsR s g i p) = _
    unfold f235_a
    rw [hn, if_neg (by omega), bnd, q1, jn, if_neg (by decide), bnd, q2, ld_t (by omega) (by omega), Int.toNat_natCast, q3, sto_t (by omega) (by omega), Int.toNat_natCast]
    dsimp only
    rw [bnd, q4, bnd, bnd, jadd_e (by omega) (by omega), jadd_e (by omega) (by omega), ← q5]
    rfl
  · show f235_a g n (rsR s g n p) = _
    unfold f235_a
    rw [hn, if_pos (by omega)]
theorem svR_s {s : S2} {g n p f i k : Nat} (h : f ≠ 1608) (h2 : f ≠ 1606 ∨ k < p ∨ p + n ≤ k) : svR s g n p f i k = s f i k := by
  rw [svR_d, if_neg (by omega), if_neg (by omega)]
theorem svR_h {s : S2} {g n p k : Nat} (h : k < n) : svR s g n p 1606 0 (p + k) = s g 0 k := by
  rw [svR_d, if_neg (by omega), if_pos (by omega)]
  congr 1
  omega
theorem svR_p {s : S2} {g n p : Nat} : svR s g n p 1608 0 0 = ((p + n : Nat) : Int) := by rw [svR_d, if_pos ⟨rfl, rfl, rfl⟩]
theorem rsR_s {s : S2} {g n p f i k : Nat} (h : f ≠ 1608) (h2 : f ≠ g) : rsR s g n p f i k = s f i k := by
  rw [rsR_d, if_neg (by omega), if_neg (by omega)]
theorem rsR_h {s : S2} {g n p k : Nat} (hg : g < 1606) (h : k < n) : rsR s g n p g 0 k = s 1606 0 (p + k) := by
  rw [rsR_d, if_neg (by omega), if_pos ⟨rfl, rfl, h⟩]
theorem rsR_p {s : S2} {g n p : Nat} : rsR s g n p 1608 0 0 = ((p + n : Nat) : Int) := by rw [rsR_d, if_pos ⟨rfl, rfl, rfl⟩]
/-- the rows of t0 lie in the last image of t -/
def Kp (t0 t : S2) : Prop := (∀ k, k < 11 → t 1606 0 (4400 + k) = t0 1537 0 k) ∧ (∀ k, k < 4 → t 1606 0 (4411 + k) = t0 1538 0 k) ∧ (∀ k, k < 4 → t 1606 0 (4415 + k) = t0 1539 0 k) ∧ (∀ k, k < 6 → t 1606 0 (4419 + k) = t0 1544 0 k) ∧ (∀ k, k < 10 → t 1606 0 (4425 + k) = t0 1547 0 k) ∧ ∀ k, k < 10 → t 1606 0 (4435 + k) = t0 1548 0 k
def pI (f i : Nat) : Bool := (Nat.beq f 1606 || Nat.beq f 1608 || Nat.beq f 1609) && Nat.beq i 0
theorem pI_f {f i : Nat} : pI f i = false ↔ ¬ ((f = 1606 ∨ f = 1608 ∨ f = 1609) ∧ i = 0) := by
  unfold pI
  rw [← Bool.not_eq_true, Bool.and_eq_true, Bool.or_eq_true, Bool.or_eq_true, Nat.beq_eq, Nat.beq_eq, Nat.beq_eq, Nat.beq_eq]
  grind
theorem svR_fr {s s0 : S2} {g n p : Nat} (h : Fr pI s0 s) : Fr pI s0 (svR s g n p) := fun f i hf => by
  rw [← h f i hf]
  have := pI_f.mp hf
  funext k
  rw [svR_d, if_neg (by omega), if_neg (by omega)]
theorem m233 {t : S2} : ∃ t', f233 t = some t' ∧ Kp t t' ∧ Fr pI t t' ∧ ∀ k, k < 4400 → t' 1606 0 k = t 1606 0 k := by
  have e4 : jmul 1100 4 = ((4400 : Nat) : Int) := by decide
  unfold f233 f234
  rw [e4, bnd, gd_t (Or.inl rfl), bnd]
  have H : ∀ S : S2, S 1609 0 0 = 0 → S 1608 0 0 = ((4400 : Nat) : Int) → Fr pI t S → (∀ k, S 1606 0 k = t 1606 0 k) → ∃ t', cP (cP (f235 1537 S) fun s3 => cP (f235 1538 s3) fun s4 => cP (f235 1539 s4) fun s5 => cP (f235 1544 s5) fun s6 => cP (f235 1547 s6) fun s7 => cP (f235 1548 s7) fun s8 => some s8) (fun s1 => some s1) = some t' ∧ Kp t t' ∧ Fr pI t t' ∧ ∀ k, k < 4400 → t' 1606 0 k = t 1606 0 k := by
    intro S h9 h8 hF h6
    have z1 : ∀ (s : S2) g n p, svR s g n p 1609 0 0 = s 1609 0 0 := fun s g n p => svR_s (by decide) (Or.inl (by decide))
    rw [m235s (n := 11) (p := 4400) rfl (by omega) (by omega) (by omega) h9 h8, cP_s]
    rw [m235s (n := 4) (p := 4411) rfl (by omega) (by omega) (by omega) (by rw [z1]; exact h9) svR_p, cP_s]
    rw [m235s (n := 4) (p := 4415) rfl (by omega) (by omega) (by omega) (by rw [z1, z1]; exact h9) svR_p, cP_s]
    rw [m235s (n := 6) (p := 4419) rfl (by omega) (by omega) (by omega) (by rw [z1, z1, z1]; exact h9) svR_p, cP_s]
    rw [m235s (n := 10) (p := 4425) rfl (by omega) (by omega) (by omega) (by rw [z1, z1, z1, z1]; exact h9) svR_p, cP_s]
    rw [m235s (n := 10) (p := 4435) rfl (by omega) (by omega) (by omega) (by rw [z1, z1, z1, z1, z1]; exact h9) svR_p, cP_s, cP_s]
    have r1 : ∀ f, f < 1606 → S f 0 = t f 0 := fun f hf => hF f 0 (pI_f.mpr (by omega))
    refine ⟨_, rfl, ⟨fun k hk => ?_, fun k hk => ?_, fun k hk => ?_, fun k hk => ?_, fun k hk => ?_, fun k hk => ?_⟩, svR_fr (svR_fr (svR_fr (svR_fr (svR_fr (svR_fr hF))))), fun k hk => ?_⟩
    · rw [svR_s (by decide) (by omega), svR_s (by decide) (by omega), svR_s (by decide) (by omega), svR_s (by decide) (by omega), svR_s (by decide) (by omega), svR_h hk, r1 1537 (by decide)]
    · rw [svR_s (by decide) (by omega), svR_s (by decide) (by omega), svR_s (by decide) (by omega), svR_s (by decide) (by omega), svR_h hk, svR_s (by decide) (by omega), r1 1538 (by decide)]
    · rw [svR_s (by decide) (by omega), svR_s (by decide) (by omega), svR_s (by decide) (by omega), svR_h hk, svR_s (by decide) (by omega), svR_s (by decide) (by omega), r1 1539 (by decide)]
    · rw [svR_s (by decide) (by omega), svR_s (by decide) (by omega), svR_h hk, svR_s (by decide) (by omega), svR_s (by decide) (by omega), svR_s (by decide) (by omega), r1 1544 (by decide)]
    · rw [svR_s (by decide) (by omega), svR_h hk, svR_s (by decide) (by omega), svR_s (by decide) (by omega), svR_s (by decide) (by omega), svR_s (by decide) (by omega), r1 1547 (by decide)]
    · rw [svR_h hk, svR_s (by decide) (by omega), svR_s (by decide) (by omega), svR_s (by decide) (by omega), svR_s (by decide) (by omega), svR_s (by decide) (by omega), r1 1548 (by decide)]
    · rw [svR_s (by decide) (by omega), svR_s (by decide) (by omega), svR_s (by decide) (by omega), svR_s (by decide) (by omega), svR_s (by decide) (by omega), svR_s (by decide) (by omega), h6]
  have H2 := H (st2 (st2 t 1608 0 0 ((4400 : Nat) : Int)) 1609 0 0 0) st2_eq (by rw [st2_ne (by omega), st2_eq]) ((Fr.rf.st rfl).st rfl) (fun k => by rw [st2_ne (by omega), st2_ne (by omega)])
  exact H2
