def pJ (f i : Nat) : Bool := (Nat.beq f 1537 || Nat.beq f 1538 || Nat.beq f 1539 || Nat.beq f 1544 || Nat.beq f 1547 || Nat.beq f 1548 || Nat.beq f 1608 || Nat.beq f 1609) && Nat.beq i 0
theorem pJ_f {f i : Nat} : pJ f i = false ↔ ¬ ((f = 1537 ∨ f = 1538 ∨ f = 1539 ∨ f = 1544 ∨ f = 1547 ∨ f = 1548 ∨ f = 1608 ∨ f = 1609) ∧ i = 0) := by
  unfold pJ
  rw [← Bool.not_eq_true, Bool.and_eq_true, Bool.or_eq_true, Bool.or_eq_true, Bool.or_eq_true, Bool.or_eq_true, Bool.or_eq_true, Bool.or_eq_true, Bool.or_eq_true, Nat.beq_eq, Nat.beq_eq, Nat.beq_eq, Nat.beq_eq, Nat.beq_eq, Nat.beq_eq, Nat.beq_eq, Nat.beq_eq, Nat.beq_eq]
  grind
theorem rsR_fr {s s0 : S2} {g n p : Nat} (h : Fr pJ s0 s) (hg : pJ g 0 = true) : Fr pJ s0 (rsR s g n p) := fun f i hf => by
  rw [← h f i hf]
  have h1 := pJ_f.mp hf
  have h2 : ¬ (f = g ∧ i = 0) := by
    rintro ⟨rfl, rfl⟩
    rw [hg] at hf; cases hf
  funext k
  rw [rsR_d, if_neg (by omega), if_neg (by omega)]
/-- the rows are those of t0 -/
def Sm (t0 t : S2) : Prop := (∀ k, k < 11 → t 1537 0 k = t0 1537 0 k) ∧ (∀ k, k < 4 → t 1538 0 k = t0 1538 0 k) ∧ (∀ k, k < 4 → t 1539 0 k = t0 1539 0 k) ∧ (∀ k, k < 6 → t 1544 0 k = t0 1544 0 k) ∧ (∀ k, k < 10 → t 1547 0 k = t0 1547 0 k) ∧ ∀ k, k < 10 → t 1548 0 k = t0 1548 0 k
theorem m237 {t0 t : S2} (hK : Kp t0 t) : ∃ t', f237 t = some t' ∧ Sm t0 t' ∧ Fr pJ t t' := by
  have e4 : jmul 1100 4 = ((4400 : Nat) : Int) := by decide
  unfold f237 f234
  rw [e4, bnd, gd_t (Or.inr rfl), bnd]
  have H : ∀ S : S2, S 1609 0 0 = 1 → S 1608 0 0 = ((4400 : Nat) : Int) → Fr pJ t S → (∀ k, S 1606 0 k = t 1606 0 k) → ∃ t', cP (cP (f235 1537 S) fun s3 => cP (f235 1538 s3) fun s4 => cP (f235 1539 s4) fun s5 => cP (f235 1544 s5) fun s6 => cP (f235 1547 s6) fun s7 => cP (f235 1548 s7) fun s8 => some s8) (fun s1 => some s1) = some t' ∧ Sm t0 t' ∧ Fr pJ t t' := by
    intro S h9 h8 hF h6
    have z1 : ∀ (s : S2) g n p, g < 1606 → rsR s g n p 1609 0 0 = s 1609 0 0 := fun s g n p hg => rsR_s (by decide) (by omega)
    have z6 : ∀ (s : S2) g n p k, g < 1606 → rsR s g n p 1606 0 k = s 1606 0 k := fun s g n p k hg => rsR_s (by decide) (by omega)
    rw [m235r (n := 11) (p := 4400) rfl (by omega) (by omega) (by omega) h9 h8, cP_s]
    rw [m235r (n := 4) (p := 4411) rfl (by omega) (by omega) (by omega) (by rw [z1 _ _ _ _ (by decide)]; exact h9) rsR_p, cP_s]
    rw [m235r (n := 4) (p := 4415) rfl (by omega) (by omega) (by omega) (by rw [z1 _ _ _ _ (by decide), z1 _ _ _ _ (by decide)]; exact h9) rsR_p, cP_s]
    rw [m235r (n := 6) (p := 4419) rfl (by omega) (by omega) (by omega) (by rw [z1 _ _ _ _ (by decide), z1 _ _ _ _ (by decide), z1 _ _ _ _ (by decide)]; exact h9) rsR_p, cP_s]
    rw [m235r (n := 10) (p := 4425) rfl (by omega) (by omega) (by omega) (by rw [z1 _ _ _ _ (by decide), z1 _ _ _ _ (by decide), z1 _ _ _ _ (by decide), z1 _ _ _ _ (by decide)]; exact h9) rsR_p, cP_s]
    rw [m235r (n := 10) (p := 4435) rfl (by omega) (by omega) (by omega) (by rw [z1 _ _ _ _ (by decide), z1 _ _ _ _ (by decide), z1 _ _ _ _ (by decide), z1 _ _ _ _ (by decide), z1 _ _ _ _ (by decide)]; exact h9) rsR_p, cP_s, cP_s]
    obtain ⟨k1, k2, k3, k4, k5, k6⟩ := hK
    refine ⟨_, rfl, ⟨fun k hk => ?_, fun k hk => ?_, fun k hk => ?_, fun k hk => ?_, fun k hk => ?_, fun k hk => ?_⟩, rsR_fr (rsR_fr (rsR_fr (rsR_fr (rsR_fr (rsR_fr hF rfl) rfl) rfl) rfl) rfl) rfl⟩
    · rw [rsR_s (by decide) (by decide), rsR_s (by decide) (by decide), rsR_s (by decide) (by decide), rsR_s (by decide) (by decide), rsR_s (by decide) (by decide), rsR_h (by decide) hk, h6, k1 k hk]
    · rw [rsR_s (by decide) (by decide), rsR_s (by decide) (by decide), rsR_s (by decide) (by decide), rsR_s (by decide) (by decide), rsR_h (by decide) hk, z6 _ _ _ _ _ (by decide), h6, k2 k hk]
    · rw [rsR_s (by decide) (by decide), rsR_s (by decide) (by decide), rsR_s (by decide) (by decide), rsR_h (by decide) hk, z6 _ _ _ _ _ (by decide), z6 _ _ _ _ _ (by decide), h6, k3 k hk]
    · rw [rsR_s (by decide) (by decide), rsR_s (by decide) (by decide), rsR_h (by decide) hk, z6 _ _ _ _ _ (by decide), z6 _ _ _ _ _ (by decide), z6 _ _ _ _ _ (by decide), h6, k4 k hk]
    · rw [rsR_s (by decide) (by decide), rsR_h (by decide) hk, z6 _ _ _ _ _ (by decide), z6 _ _ _ _ _ (by decide), z6 _ _ _ _ _ (by decide), z6 _ _ _ _ _ (by decide), h6, k5 k hk]
    · rw [rsR_h (by decide) hk, z6 _ _ _ _ _ (by decide), z6 _ _ _ _ _ (by decide), z6 _ _ _ _ _ (by decide), z6 _ _ _ _ _ (by decide), z6 _ _ _ _ _ (by decide), h6, k6 k hk]
  have H2 := H (st2 (st2 t 1608 0 0 ((4400 : Nat) : Int)) 1609 0 0 1) st2_eq (by rw [st2_ne (by omega), st2_eq]) ((Fr.rf.st rfl).st rfl) (fun k => by rw [st2_ne (by omega), st2_ne (by omega)])
  exact H2
theorem Kp.fr {t0 t t' : S2} {P : Nat → Nat → Bool} (h : Kp t0 t) (e : Fr P t t') (hp : P 1606 0 = false) : Kp t0 t' := by
  unfold Kp
  rw [e _ _ hp]
  exact h
/-- what was asked of t0 can be asked again -/
theorem MS.sm {C Y : V2} {code : List Int} {d : Int} {t0 t : S2} {P : Nat → Nat → Bool} (h : MS C Y code d t0) (hS : Sm t0 t) (hC : CB C) (e : Fr P t0 t) (hp : ∀ f, 1540 ≤ f → f ≤ 1585 → f ≠ 1544 → f ≠ 1547 → f ≠ 1548 → P f 0 = false) (hd : t 1589 0 0 = d) : MS C Y code d t := by
  obtain ⟨h1, h2, h3, -, h5⟩ := h
  obtain ⟨s1, s2, s3, s4, s5, s6⟩ := hS
  have hcc := hC.1
  refine ⟨?_, ?_, ?_, hd, h5⟩
  · unfold CR at h1 ⊢
    rw [s1 0 (by omega), s1 1 (by omega), s1 2 (by omega), s1 3 (by omega), s1 4 (by omega), s1 5 (by omega), e 1540 0 (hp _ (by omega) (by omega) (by omega) (by omega) (by omega)), e 1541 0 (hp _ (by omega) (by omega) (by omega) (by omega) (by omega)), e 1542 0 (hp _ (by omega) (by omega) (by omega) (by omega) (by omega)), e 1543 0 (hp _ (by omega) (by omega) (by omega) (by omega) (by omega)), e 1545 0 (hp _ (by omega) (by omega) (by omega) (by omega) (by omega)), e 1546 0 (hp _ (by omega) (by omega) (by omega) (by omega) (by omega)), e 1555 0 (hp _ (by omega) (by omega) (by omega) (by omega) (by omega)), e 1549 0 (hp _ (by omega) (by omega) (by omega) (by omega) (by omega)), e 1550 0 (hp _ (by omega) (by omega) (by omega) (by omega) (by omega))]
    exact h1
  · obtain ⟨a1, a2, a3, a4, a5⟩ := h2
    refine ⟨by rw [s1 7 (by omega)]; exact a1, by rw [s1 6 (by omega)]; exact a2, fun l hl hl2 => by rw [s4 l hl]; exact a3 l hl hl2, fun n hn hn2 => by rw [s5 n hn, s6 n hn]; exact a4 n hn hn2, fun f hf hf2 => by rw [s2 f hf, s3 f hf]; exact a5 f hf hf2⟩
  · exact h3.fr e (s1 10 (by omega)) (fun f g1 g2 => hp f (by omega) (by omega) (by omega) (by omega) (by omega))
