/-! MOST on both sides -/
def airM (C Y : V2) (code : List Int) (B : Int) (pc : Nat × (Nat → Nat)) (fam n i : Nat) : Int := passN C code n (hgS C pc.2 (rwF B i pc.1) Y pc.1).2 518 fam
def mtT (C Y : V2) (code : List Int) (B : Int) (pc : Nat × (Nat → Nat)) (fam n i : Nat) (x : Int) : Prop := (hgS C pc.2 (rwF B i pc.1) Y pc.1).1 = true ∧ x < airM C Y code B pc fam n i
def mtD (C Y : V2) (code : List Int) (B : Int) (pc : Nat × (Nat → Nat)) (fam n i : Nat) (x : Int) : Decidable (mtT C Y code B pc fam n i x) := by unfold mtT; exact inferInstance
def mtS (C Y : V2) (code : List Int) (B : Int) (pc : Nat × (Nat → Nat)) (fam n : Nat) : Nat → Int × (Nat → Int)
  | 0 => (-1, fun _ => 0)
  | i + 1 => @ite _ (mtT C Y code B pc fam n i (mtS C Y code B pc fam n i).1) (mtD C Y code B pc fam n i (mtS C Y code B pc fam n i).1) (airM C Y code B pc fam n i, rwF B i pc.1) (mtS C Y code B pc fam n i)
theorem mtS_t {C Y : V2} {code : List Int} {B : Int} {pc : Nat × (Nat → Nat)} {fam n i : Nat} (h : mtT C Y code B pc fam n i (mtS C Y code B pc fam n i).1) : mtS C Y code B pc fam n (i + 1) = (airM C Y code B pc fam n i, rwF B i pc.1) := if_pos h
theorem mtS_f {C Y : V2} {code : List Int} {B : Int} {pc : Nat × (Nat → Nat)} {fam n i : Nat} (h : ¬ mtT C Y code B pc fam n i (mtS C Y code B pc fam n i).1) : mtS C Y code B pc fam n (i + 1) = mtS C Y code B pc fam n i := if_neg h
theorem mt_0 {C Y : V2} {code : List Int} {B : Int} {pc : Nat × (Nat → Nat)} {fam n : Nat} (hC : CB C) (hY : YB C Y) (hf : fam < 4) (hn : Y 512 0 + n ≤ 5000) : mtT C Y code B pc fam n 0 (mtS C Y code B pc fam n 0).1 := by
  have e : hgS C pc.2 (rwF B (0 : Nat) pc.1) Y pc.1 = (true, Y) := hgS_none fun j => rwF_0
  unfold mtT airM
  rw [e]
  have := (passN_YB (code := code) (n := n) hC hY hn).2.2.2.2.2 fam hf
  refine ⟨rfl, ?_⟩
  show (-1 : Int) < passN C code n Y 518 fam
  omega
/-- the best row so far -/
def bestR (z : S2) (f : Nat) (c i : Nat) (m : Int × (Nat → Int)) : Prop := i = 0 ∨ ∀ j, j < c → z f 0 j = m.2 j
def pMo (r f i : Nat) : Bool := pP r f i || ((Nat.beq f 1280 || Nat.beq f 1284 || Nat.beq f 1285) && Nat.beq i 0)
theorem pMo_f {r f i : Nat} : pMo r f i = false ↔ pP r f i = false ∧ ¬ ((f = 1280 ∨ f = 1284 ∨ f = 1285) ∧ i = 0) := by
  unfold pMo
  rw [Bool.or_eq_false_iff, ← Bool.not_eq_true ((_ || _) && _), Bool.and_eq_true, Bool.or_eq_true, Bool.or_eq_true, Nat.beq_eq, Nat.beq_eq, Nat.beq_eq, Nat.beq_eq]
  grind
theorem pMo_t1 (r : Nat) : pMo r 1280 0 = true := by
  unfold pMo
  simp
theorem pMo_t2 (r : Nat) : pMo r 1285 0 = true := by
  unfold pMo
  simp
theorem Hr.pMo {s s' : S2} {c r : Nat} {C : V2} {code : List Int} (h : Hr s c r C code) (e : Fr (pMo r) s s') : Hr s' c r C code := h.fr e (pMo_f.mpr ⟨pP_o (by omega), by omega⟩) (pMo_f.mpr ⟨pP_o (by omega), by omega⟩) (pMo_f.mpr ⟨pP_o (by omega), by omega⟩) (pMo_f.mpr ⟨pP_o (by omega), by omega⟩) (fun f h1 h2 => pMo_f.mpr ⟨pP_c h1 h2, by omega⟩)
theorem c111b {s z : S2} {r : Nat} {C Y : V2} {code : List Int} {pc : Nat × (Nat → Nat)} {fam n i : Nat} {N : Int} (h : Hr s 0 r C code) (hy : yv s 0 = Y) (hY : YB C Y) (h9 : Y 512 0 ≤ 999) (hn : n ≤ 12) (hf : fam < 4) (hp : rowP s 1286 1283 pc) (h4 : pc.1 ≤ 4) (hi : (i : Int) < N) (hN : N ≤ 2401) (hF : Fr (pMo r) s z) (hb : z 1280 0 0 = (mtS C Y code (C 388 0 + 1) pc fam n i).1) (hR : bestR z 1285 pc.1 i (mtS C Y code (C 388 0 + 1) pc fam n i)) : ∃ z', f111_b 0 fam n N i z = some (.inl (((i + 1 : Nat) : Int), z')) ∧ Fr (pMo r) s z' ∧ z' 1280 0 0 = (mtS C Y code (C 388 0 + 1) pc fam n (i + 1)).1 ∧ bestR z' 1285 pc.1 (i + 1) (mtS C Y code (C 388 0 + 1) pc fam n (i + 1)) := by
  have hC := h.2.2.2.2.2
  have hcc := hC.1
  have hh := hY.2.2.2.2.1
  have hz := h.pMo hF
  obtain ⟨z1, a1, a2, a3⟩ := m58 (a := 160) (b := 0) (s := z)
  have y0 : yv z 0 = Y := by rw [hF.yv fun f g1 g2 => pMo_f.mpr ⟨pP_y g1 g2 (by omega), by omega⟩]; exact hy
  rw [y0] at a2
  have A3 : Fr (pP r) z z1 := a3.mo fun f i q => pY_pP q
  have hz1 := hz.pP A3
  have p1 : z1 1286 0 0 = pc.1 := by rw [a3 _ _ (pY_f.mpr (by omega)), hF _ _ (pMo_f.mpr ⟨pP_o (by omega), by omega⟩)]; exact hp.1
  have p2 : ∀ j, j < pc.1 → z1 1283 0 j = pc.2 j := fun j hj => by rw [a3 _ _ (pY_f.mpr (by omega)), hF _ _ (pMo_f.mpr ⟨pP_o (by omega), by omega⟩)]; exact hp.2 j hj
  have q1 : (z1 1153 0 0).toNat = 0 := by rw [hz1.1]; rfl
  have q2 : z1 388 0 0 = C 388 0 := by rw [← hz1.2.2.2.2.1, cw0 (by omega) (by omega)]
  have eB : jadd (C 388 0) 1 = C 388 0 + 1 := jadd_e (by omega) (by omega)
  have ej : jadd (i : Int) 1 = ((i + 1 : Nat) : Int) := by rw [jadd_e (by omega) (by omega)]; rfl
  obtain ⟨z2, b1, b2, b3⟩ := m113 (s := z1) (B := C 388 0 + 1) (code := (i : Int)) p1 h4 (by omega) (by omega)
  have F2 : Fr (pMo r) s z2 := (hF.tr (A3.mo fun f i q => (pMo_f.mp q).1)).tr (b3.mo fun f i q => pF1_f.mpr (by have := (pMo_f.mp q).2; omega))
  have hz2 := h.pMo F2
  have y2 : yv z2 160 = Y := by rw [b3.yv fun f g1 g2 => pF1_f.mpr (by omega)]; exact a2
  obtain ⟨z3, c1, c2, c3⟩ := m114 (rw' := rwF (C 388 0 + 1) i pc.1) hz2 y2 (pc := pc) ⟨by rw [b3 _ _ (pF1_f.mpr (by omega))]; exact p1, fun j hj => by rw [b3 _ _ (pF1_f.mpr (by omega))]; exact p2 j hj⟩ h4 b2
  have C3 : Fr (pMo r) z2 z3 := c3.mo fun f i q => pY_pP (pMo_f.mp q).1
  have F3 := F2.tr C3
  have hst : f111_b 0 fam n N i z = if u01 (hgS C pc.2 (rwF (C 388 0 + 1) i pc.1) Y pc.1).1 = 0 then (bnd (jadd (i : Int) 1) fun v28 => some (.inl (v28, z3))) else cP (f107 n z3) fun s29 => cP (f115 160 fam s29) fun r30 => bnd (s29 1280 0 0) fun v31 => if r30 ≤ v31 then (bnd (jadd (i : Int) 1) fun v32 => some (.inl (v32, s29))) else cP (f115 160 fam s29) fun r33 => bnd (st2 s29 1280 0 0 r33) fun s34 => cpy s34 1284 0 4 0 1285 0 4 0 4 fun s35 => bnd (jadd (i : Int) 1) fun v36 => some (.inl (v36, s35)) := by
    unfold f111_b
    rw [if_neg (by omega), a1, cP_s, bnd, q1, bnd, q2, eB, b1, cP_s, c1, cR_s]
  have hzb : ∀ z', Fr (pP r) z z' → z' 1280 0 0 = z 1280 0 0 := fun z' e => by rw [e _ _ (pP_o (by omega))]
  have k1280 : z3 1280 0 0 = (mtS C Y code (C 388 0 + 1) pc fam n i).1 := by
    rw [c3 _ _ (pY_f.mpr (by omega)), b3 _ _ (pF1_f.mpr (by omega)), a3 _ _ (pY_f.mpr (by omega))]; exact hb
  have k1285 : z3 1285 0 = z 1285 0 := by
    rw [c3 _ _ (pY_f.mpr (by omega)), b3 _ _ (pF1_f.mpr (by omega)), a3 _ _ (pY_f.mpr (by omega))]
  have hkeep : ∀ z', ¬ mtT C Y code (C 388 0 + 1) pc fam n i (mtS C Y code (C 388 0 + 1) pc fam n i).1 → z' 1285 0 = z 1285 0 → bestR z' 1285 pc.1 (i + 1) (mtS C Y code (C 388 0 + 1) pc fam n (i + 1)) := fun z' hn e => by
    right
    rw [mtS_f hn, e]
    rcases hR with hR | hR
    · subst hR
      exact absurd (mt_0 hC hY hf (by omega)) hn
    · exact hR
  cases hg : (hgS C pc.2 (rwF (C 388 0 + 1) i pc.1) Y pc.1).1 with
  | false =>
    have hn : ¬ mtT C Y code (C 388 0 + 1) pc fam n i (mtS C Y code (C 388 0 + 1) pc fam n i).1 := fun q => by
      have := q.1
      rw [hg] at this
      cases this
    refine ⟨z3, ?_, F3, by rw [mtS_f hn]; exact k1280, hkeep z3 hn k1285⟩
    rw [hst, hg, if_pos (by rfl), bnd, ej]
  | true =>
    obtain ⟨z4, d1, d2, d3⟩ := m107 (n := n) (hz2.pMo C3) (c2 hg) (hgS_YB hY) (by omega) (by rw [hgS_h]; omega)
    have F4 : Fr (pMo r) s z4 := F3.tr (d3.mo fun f i q => (pMo_f.mp q).1)
    have hair : yv z4 160 518 fam = airM C Y code (C 388 0 + 1) pc fam n i := by rw [d2]; rfl
    have l1280 : z4 1280 0 0 = (mtS C Y code (C 388 0 + 1) pc fam n i).1 := by rw [d3 _ _ (pP_o (by omega))]; exact k1280
    by_cases hq : airM C Y code (C 388 0 + 1) pc fam n i ≤ (mtS C Y code (C 388 0 + 1) pc fam n i).1
    · have hn : ¬ mtT C Y code (C 388 0 + 1) pc fam n i (mtS C Y code (C 388 0 + 1) pc fam n i).1 := fun q => by
        have := q.2
        omega
      refine ⟨z4, ?_, F4, by rw [mtS_f hn]; exact l1280, hkeep z4 hn (by rw [d3 _ _ (pP_o (by omega))]; exact k1285)⟩
      rw [hst, hg, if_neg (by decide), d1, cP_s, m115 hf, cP_s, bnd, hair, l1280, if_pos hq, bnd, ej]
    · have ht : mtT C Y code (C 388 0 + 1) pc fam n i (mtS C Y code (C 388 0 + 1) pc fam n i).1 := ⟨hg, by omega⟩
      refine ⟨cp2 (st2 z4 1280 0 0 (airM C Y code (C 388 0 + 1) pc fam n i)) 1284 0 0 1285 0 0 4, ?_, (F4.st (pMo_t1 r)).cp (pMo_t2 r), ?_, ?_⟩
      · rw [hst, hg, if_neg (by decide), d1, cP_s, m115 hf, cP_s, bnd, hair, l1280, if_neg hq, cP_s, bnd, cpy_t (by omega), bnd, ej]
        rfl
      · rw [mtS_t ht, cp2_ne (by omega), st2_eq]
      · right
        rw [mtS_t ht]
        intro j hj
        rw [cp2_in (by omega), st2_ne (by omega), d3 _ _ (pP_o (by omega)), c3 _ _ (pY_f.mpr (by omega))]
        exact b2 j hj
