/-! GAME, the class: a search between two bounds -/
theorem i01_t : (if (true = true) then (1 : Int) else 0) = 1 := rfl
theorem i01_f : (if (false = true) then (1 : Int) else 0) = 0 := rfl
theorem m120 {z : S2} {t k : Nat} {C Y : V2} {f : Int} (hC : CB C) (hz : cw z 0 = C) (hy : yv z (194 + t) = Y) (hk : k < 61) : f120 0 (194 + t) f ((k : Int) - 1) z = some (if avB C Y f k = true then 1 else 0) := by
  have hcc := hC.1
  have q1 : z 389 0 0 = C 389 0 := by rw [← hz, cw0 (by omega) (by omega)]
  unfold f120
  by_cases h0 : k = 0
  · subst h0
    have h1 : avB C Y f 0 = true := rfl
    rw [if_neg (by omega), h1, i01_t]
  · obtain ⟨a, rfl⟩ : ∃ a, k = a + 1 := ⟨k - 1, by omega⟩
    have ea : ((a + 1 : Nat) : Int) - 1 = (a : Int) := by omega
    have e1 : (a : Int) % 10 = ((a % 10 : Nat) : Int) := by omega
    have e2 : (a : Int) / 10 = ((a / 10 : Nat) : Int) := by omega
    have hav : avB C Y f (a + 1) = (decide (C 395 (a % 10) = f) && !decide (mayI C Y ((a % 10 : Nat) : Int) ((a / 10 : Nat) : Int) = 0)) := by
      unfold avB
      rw [Nat.add_sub_cancel]
      simp
    rw [ea, if_pos (by omega), jrem_e (by omega) (by omega) (by omega) (by omega), jdiv_e (by omega) (by omega) (by omega) (by omega), e1, e2, bnd, hav]
    by_cases c1 : ((a % 10 : Nat) : Int) < C 389 0
    · have q2 : z 395 0 (a % 10) = C 395 (a % 10) := by rw [← hz, cw10 (by omega) (by omega) (by omega)]
      rw [m49t (by omega), cP_s, if_neg ne10, ld_t (by omega) (by omega), Int.toNat_natCast, q2]
      by_cases c2 : C 395 (a % 10) = f
      · rw [if_neg (show ¬ ¬ C 395 (a % 10) = f from fun w => w c2), m48n (by rw [hz]; exact hC), hz, hy, cP_s]
        by_cases c3 : mayI C Y ((a % 10 : Nat) : Int) ((a / 10 : Nat) : Int) = 0
        · rw [if_pos c3, decide_eq_true c2, decide_eq_true c3]
          rfl
        · rw [if_neg c3, decide_eq_true c2, decide_eq_false c3]
          rfl
      · rw [if_pos c2, decide_eq_false c2]
        rfl
    · rw [m49f (by omega), cP_s, if_pos rfl]
      have c3 : mayI C Y ((a % 10 : Nat) : Int) ((a / 10 : Nat) : Int) = 0 := by
        rcases mayI_01 (C := C) (Y := Y) (n := ((a % 10 : Nat) : Int)) (l := ((a / 10 : Nat) : Int)) with w | w
        · exact w
        · exact absurd (mayI_t (by omega) : mayH C Y ((a % 10 : Nat) : Int) ((a / 10 : Nat) : Int)).1.2.1 c1
      rw [decide_eq_true c3]
      cases decide (C 395 (a % 10) = f) <;> rfl
def GH (z : S2) (r : Nat) (C : V2) (code : List Int) (f g n : Nat) : Prop := Hr z 0 r C code ∧ z 1288 0 0 = f ∧ z 1289 0 0 = g ∧ z 1290 0 0 = n
def pGt (r t f i : Nat) : Bool := pP r f i || (Nat.beq f 1281 && Nat.beq i 0) || (Nat.ble 512 f && Nat.ble f 518 && Nat.ble (194 + t) i && Nat.ble i 196)
theorem pGt_f {r t f i : Nat} : pGt r t f i = false ↔ pP r f i = false ∧ ¬ (f = 1281 ∧ i = 0) ∧ ¬ (512 ≤ f ∧ f ≤ 518 ∧ 194 + t ≤ i ∧ i ≤ 196) := by
  unfold pGt
  rw [Bool.or_eq_false_iff, Bool.or_eq_false_iff, ← Bool.not_eq_true (Nat.beq f 1281 && _), ← Bool.not_eq_true (_ && Nat.ble i 196), Bool.and_eq_true, Bool.and_eq_true, Bool.and_eq_true, Bool.and_eq_true, Nat.beq_eq, Nat.beq_eq, Nat.ble_eq, Nat.ble_eq, Nat.ble_eq, Nat.ble_eq]
  grind
theorem GH.fr {z z' : S2} {r t : Nat} {C : V2} {code : List Int} {f g n : Nat} (h : GH z r C code f g n) (e : Fr (pGt r t) z z') : GH z' r C code f g n := by
  obtain ⟨a, b, c, d⟩ := h
  refine ⟨a.fr e (pGt_f.mpr ⟨pP_o (by omega), by omega, by omega⟩) (pGt_f.mpr ⟨pP_o (by omega), by omega, by omega⟩) (pGt_f.mpr ⟨pP_o (by omega), by omega, by omega⟩) (pGt_f.mpr ⟨pP_o (by omega), by omega, by omega⟩) (fun f h1 h2 => pGt_f.mpr ⟨pP_c h1 h2, by omega, by omega⟩), ?_, ?_, ?_⟩
  · rw [e _ _ (pGt_f.mpr ⟨pP_o (by omega), by omega, by omega⟩)]; exact b
  · rw [e _ _ (pGt_f.mpr ⟨pP_o (by omega), by omega, by omega⟩)]; exact c
  · rw [e _ _ (pGt_f.mpr ⟨pP_o (by omega), by omega, by omega⟩)]; exact d
theorem am_el194 {t : Nat} : am_el 0 0 194 t = 194 + t := rfl
/-- an act done, an hour on -/
theorem m121 {rf : Int → Int → Int → S2 → Option (Int × S2)} {z : S2} {r t k : Nat} {C Y : V2} {code : List Int} {low high : Int} {f : Int} (h : Hr z 0 r C code) (hy : yv z 160 = Y) (hY : YB C Y) (h5 : Y 512 0 < 5000) (ht : t < 3) (hk : k < 61) (hav : avB C Y f k = true) : ∃ z', f121r rf t ((k : Int) - 1) low high z = cR (rf ((t + 1 : Nat) : Int) low high z') (fun r7 s8 => some (r7, s8)) ∧ yv z' 160 = nxY C code Y k ∧ Fr (pP r) z z' := by
  have hC := h.2.2.2.2.2
  have et : jadd (t : Int) 1 = ((t + 1 : Nat) : Int) := by rw [jadd_e (by omega) (by omega)]; rfl
  have hst : f121r rf t ((k : Int) - 1) low high z = jn (fun (s4 : S2) => cR (f94 0 s4) fun r5 s6 => cR (rf ((t + 1 : Nat) : Int) low high s6) fun r7 s8 => some (r7, s8)) fun j37 => if (k : Int) - 1 = (-1) then (j37 z) else bnd (z 1153 0 0).toNat fun i9 => cP (f54 160 i9 (jrem ((k : Int) - 1) 10) (jdiv ((k : Int) - 1) 10) z) fun s10 => j37 s10 := by
    unfold f121r
    rw [et]
  rw [hst]
  simp only [jn]
  by_cases h0 : k = 0
  · subst h0
    obtain ⟨z2, b1, b2, b3⟩ := m94h (d := 0) h hy hY
    refine ⟨z2, ?_, b2, b3⟩
    rw [if_pos (by omega), b1, cR_s]
  · obtain ⟨a, rfl⟩ : ∃ a, k = a + 1 := ⟨k - 1, by omega⟩
    have ea : ((a + 1 : Nat) : Int) - 1 = (a : Int) := by omega
    have e1 : (a : Int) % 10 = ((a % 10 : Nat) : Int) := by omega
    have e2 : (a : Int) / 10 = ((a / 10 : Nat) : Int) := by omega
    have q1 : (z 1153 0 0).toNat = 0 := by rw [h.1]; rfl
    have q2 : cw z 0 = C := h.2.2.2.2.1
    obtain ⟨z2, b1, b2, b3⟩ := m54 (y := 160) (c := 0) (n := ((a % 10 : Nat) : Int)) (l := ((a / 10 : Nat) : Int)) (s := z) (by rw [q2]; exact hC)
    rw [q2, hy] at b2
    have B3 : Fr (pP r) z z2 := b3.mo fun f i q => pY_pP q
    obtain ⟨z3, c1, c2, c3⟩ := m94h (d := 0) (h.pP B3) b2 (putS_YB hY)
    refine ⟨z3, ?_, ?_, B3.tr c3⟩
    · rw [ea, if_neg (by omega), jrem_e (by omega) (by omega) (by omega) (by omega), jdiv_e (by omega) (by omega) (by omega) (by omega), e1, e2, bnd, q1, b1, cP_s, c1, cR_s]
    · rw [c2]
      unfold nxY acY
      rw [if_neg (by omega), Nat.add_sub_cancel]
/-- what is asked of the turns behind -/
def RfOK (rf : Int → Int → Int → Int → S2 → Option (Int × S2)) (r t : Nat) (C Y : V2) (code : List Int) (f g n d : Nat) (mv : Int) : Prop := ∀ (k : Nat) (z : S2) (low high : Int), k < 61 → avB C Y mv k = true → GH z r C code f g n → yv z (194 + t) = Y → yv z 160 = Y → low < high → -1000000 ≤ low → high ≤ 1000000 → ∃ R z', rf t ((k : Int) - 1) low high z = some (R, z') ∧ AB low high (gV C code f g d (t + 1) (nxY C code Y k)) R ∧ Fr (pGt r t) z z' ∧ yv z' (194 + t) = Y ∧ z' 1281 0 0 = z 1281 0 0
/-- the first act as far as k acts -/
def fstA (t : Nat) (z0 z : S2) (low high : Int) (o : Option (Int × Int)) : Prop := (t ≠ 0 → z 1281 0 0 = z0 1281 0 0) ∧ (t = 0 → low = -1000000 → high = 1000000 → ∀ p, o = some p → z 1281 0 0 = p.2)
theorem GH.own {z : S2} {r : Nat} {C : V2} {code : List Int} {f g n : Nat} (h : GH z r C code f g n) : (z 1153 0 0).toNat = 0 ∧ cw z 0 = C ∧ CB C := ⟨by rw [h.1.1]; rfl, h.1.2.2.2.2.1, h.1.2.2.2.2.2⟩
theorem c119_mx {rf : Int → Int → Int → Int → S2 → Option (Int × S2)} {s : S2} {r t : Nat} {C Y : V2} {code : List Int} {f g n d : Nat} {low high mv : Int} (hrf : RfOK rf r t C Y code f g n d mv) (h : GH s r C code f g n) (hy : yv s (194 + t) = Y) (ht : t < 3) (hl : low < high) (hl1 : -1000000 ≤ low) (hl2 : high ≤ 1000000) (hrng : ∀ k, -66000 ≤ gV C code f g d (t + 1) (nxY C code Y k) ∧ gV C code f g d (t + 1) (nxY C code Y k) ≤ 66000) : ∃ R s', itr (fun (x18, x19, s20) => f119_a rf t low high (194 + t) 1 mv x18 x19 s20) am_fu (low, -1, s) = some (R, s') ∧ AB low high (bV (bst true (avB C Y mv) (fun k => gV C code f g d (t + 1) (nxY C code Y k)) 61)) R ∧ Fr (pGt r t) s s' ∧ fstA t s s' low high (bst true (avB C Y mv) (fun k => gV C code f g d (t + 1) (nxY C code Y k)) 61) := by
  generalize hval : (fun k => gV C code f g d (t + 1) (nxY C code Y k)) = val at hrng ⊢
  have hvk : ∀ k, gV C code f g d (t + 1) (nxY C code Y k) = val k := fun k => congrFun hval k
  have hrng : ∀ k, -66000 ≤ val k ∧ val k ≤ 66000 := fun k => by rw [← hvk]; exact hrng k
  obtain ⟨p, hp⟩ := bst_ex (ev := true) (av := avB C Y mv) (val := val) rfl (k := 61) (by omega)
  refine Exists.elim (itr_inv (b := fun (x18, x19, s20) => f119_a rf t low high (194 + t) 1 mv x18 x19 s20) (fun (k : Nat) (z : Int × Int × S2) => z.2.1 = (k : Int) - 1 ∧ mxI low high z.1 (bst true (avB C Y mv) val k) ∧ Fr (pGt r t) s z.2.2 ∧ yv z.2.2 (194 + t) = Y ∧ fstA t s z.2.2 low high (bst true (avB C Y mv) val k)) (fun (z : Int × S2) => AB low high p.1 z.1 ∧ Fr (pGt r t) s z.2 ∧ ((t ≠ 0 → z.2 1281 0 0 = s 1281 0 0) ∧ (t = 0 → low = -1000000 → high = 1000000 → z.2 1281 0 0 = p.2))) 61 ?_ am_fu (fu_lt (by decide)) (low, -1, s) ⟨rfl, ⟨Int.le_refl _, rfl⟩, Fr.rf, hy, fun _ => rfl, fun _ _ _ q hq => by cases hq⟩) ?_
  rotate_left
  · rintro ⟨R, s'⟩ ⟨hr, b1, b2, b3, b4⟩
    refine ⟨R, s', hr, by rw [hp]; exact b1, b2, b3, fun q1 q2 q3 q hq => ?_⟩
    rw [hp] at hq
    cases hq
    exact b4 q1 q2 q3
  · rintro k ⟨x, y, z⟩ hk ⟨g1, g2, g3, g4, g5⟩
    dsimp only at g1 g2 g3 g4 g5 ⊢
    subst g1
    have hGz := h.fr g3
    obtain ⟨o1, o2, o3⟩ := hGz.own
    have ej : jadd ((k : Int) - 1) 1 = ((k + 1 : Nat) : Int) - 1 := by rw [jadd_e (by omega) (by omega)]; omega
    by_cases e : k = 61
    · right
      refine ⟨(x, z), ?_, mx_end hl hk hp g2 (Or.inl e), g3, g5.1, fun q1 q2 q3 => g5.2 q1 q2 q3 p (by rw [e]; exact hp)⟩
      show f119_a rf t low high (194 + t) 1 mv x _ z = _
      unfold f119_a
      rw [if_pos (by omega)]
    · by_cases hx : high ≤ x
      · right
        refine ⟨(x, z), ?_, mx_end hl hk hp g2 (Or.inr hx), g3, g5.1, fun q1 q2 q3 => ?_⟩
        · show f119_a rf t low high (194 + t) 1 mv x _ z = _
          unfold f119_a
          rw [if_neg (by omega)]
          simp only [jn]
          rw [if_neg ne10, if_pos hx]
        · exfalso
          obtain ⟨m1, m2⟩ := g2
          cases ho : bst true (avB C Y mv) val k with
          | none =>
            rw [ho] at m2
            have m2 : x = low := m2
            omega
          | some q =>
            rw [ho] at m2
            obtain ⟨c1, c2, c3⟩ := m2
            have := bst_rng (fun k _ => hrng k) ho
            omega
      · left
        refine ⟨by omega, ?_⟩
        have e120 := m120 (t := t) (f := mv) (k := k) o3 o2 g4 (by omega)
        cases hav : avB C Y mv k with
        | false =>
          refine ⟨(x, ((k + 1 : Nat) : Int) - 1, z), ?_, rfl, by rw [bst_f hav]; exact g2, g3, g4, by rw [bst_f hav]; exact g5⟩
          show f119_a rf t low high (194 + t) 1 mv x _ z = _
          unfold f119_a
          rw [if_neg (by omega)]
          simp only [jn]
          rw [if_neg ne10, if_neg hx, bnd, o1, e120, hav, i01_f, cP_s, if_pos rfl, bnd, ej]
        | true =>
          obtain ⟨z1, k1, k2, k3⟩ := m58 (a := 160) (b := 194 + t) (s := z)
          have K3 : Fr (pGt r t) z z1 := k3.mo fun f i q => pY_pP (pGt_f.mp q).1
          have K4 : yv z1 (194 + t) = Y := (k3.yv fun f w1 w2 => pY_f.mpr (by omega)).trans g4
          obtain ⟨R, z', r1, r2, r3', r4, r5'⟩ := hrf k z1 x high (by omega) hav (hGz.fr K3) K4 (k2.trans g4) (by omega) (by have := g2.1; omega) hl2
          have r3 := K3.tr r3'
          have r5 := r5'.trans (congrFun (k3 1281 0 (pY_f.mpr (by omega))) 0)
          rw [hvk] at r2
          have hm := mx_step (a := (k : Int) - 1) hl g2 (by omega) r2
          have hst : f119_a rf t low high (194 + t) 1 mv x ((k : Int) - 1) z = if R ≤ x then some (.inl (x, ((k + 1 : Nat) : Int) - 1, z')) else (if ¬ (t : Int) = 0 then some (.inl (R, ((k + 1 : Nat) : Int) - 1, st2 z' 1281 0 0 (z' 1281 0 0))) else some (.inl (R, ((k + 1 : Nat) : Int) - 1, st2 z' 1281 0 0 ((k : Int) - 1)))) := by
            unfold f119_a
            rw [if_neg (by omega)]
            simp only [jn]
            rw [if_neg ne10, if_neg hx, bnd, o1, e120, hav, i01_t, cP_s]
            simp only [ne10, if_false, k1, cP_s, r1, cR_s, bnd, ej]
          by_cases hRx : R ≤ x
          · rw [if_pos hRx] at hst hm
            refine ⟨(x, ((k + 1 : Nat) : Int) - 1, z'), hst, rfl, by rw [bst_t hav]; exact hm, g3.tr r3, r4, fun q => r5.trans (g5.1 q), fun q1 q2 q3 q hq => ?_⟩
            refine r5.trans ?_
            rw [bst_t hav] at hq
            cases ho : bst true (avB C Y mv) val k with
            | none =>
              exfalso
              rw [ho] at g2
              have m2 : x = low := g2.2
              have := hrng k
              unfold AB at r2
              omega
            | some w =>
              obtain ⟨b, a'⟩ := w
              have hb := bst_rng (fun k _ => hrng k) ho
              rw [ho] at hq g2
              obtain ⟨c1, c2, c3⟩ := g2.2
              dsimp only at c1 c2 c3 hb
              have hxb : x = b := c2 (by omega) (by omega)
              have hvb : ¬ b < val k := fun w => by
                have := hrng k
                unfold AB at r2
                omega
              have hu : bupd true (some (b, a')) (val k) ((k : Int) - 1) = some (b, a') := by
                show (if betB true (val k) b = true then _ else _) = _
                unfold betB
                simp [hvb]
              rw [hu] at hq
              cases hq
              exact g5.2 q1 q2 q3 (b, a') ho
          · rw [if_neg hRx] at hst hm
            by_cases ht0 : (t : Int) = 0
            · rw [if_neg (show ¬ ¬ (t : Int) = 0 from fun w => w ht0)] at hst
              refine ⟨(R, ((k + 1 : Nat) : Int) - 1, st2 z' 1281 0 0 ((k : Int) - 1)), hst, rfl, by rw [bst_t hav]; exact hm, (g3.tr r3).st (by simp [pGt]), ?_, fun q => absurd ht0 (by omega), fun q1 q2 q3 q hq => ?_⟩
              · show yv (st2 z' 1281 0 0 ((k : Int) - 1)) (194 + t) = Y
                have : Fr (fun f i => Nat.beq f 1281) z' (st2 z' 1281 0 0 ((k : Int) - 1)) := Fr.rf.st rfl
                rw [this.yv fun f g1 g2 => by rw [← Bool.not_eq_true, Nat.beq_eq]; omega]
                exact r4
              · show st2 z' 1281 0 0 ((k : Int) - 1) 1281 0 0 = q.2
                rw [st2_eq]
                rw [bst_t hav] at hq
                cases ho : bst true (avB C Y mv) val k with
                | none =>
                  rw [ho] at hq
                  cases hq
                  rfl
                | some w =>
                  obtain ⟨b, a'⟩ := w
                  have hb := bst_rng (fun k _ => hrng k) ho
                  rw [ho] at hq g2
                  obtain ⟨c1, c2, c3⟩ := g2.2
                  dsimp only at c1 c2 c3 hb
                  have hxb : x = b := c2 (by omega) (by omega)
                  have hvb : b < val k := by
                    have := hrng k
                    unfold AB at r2
                    omega
                  have hu : bupd true (some (b, a')) (val k) ((k : Int) - 1) = some (val k, (k : Int) - 1) := by
                    show (if betB true (val k) b = true then _ else _) = _
                    unfold betB
                    simp [hvb]
                  rw [hu] at hq
                  cases hq
                  rfl
            · rw [if_pos ht0] at hst
              refine ⟨(R, ((k + 1 : Nat) : Int) - 1, st2 z' 1281 0 0 (z' 1281 0 0)), hst, rfl, by rw [bst_t hav]; exact hm, (g3.tr r3).st (by simp [pGt]), ?_, fun q => ?_, fun q1 q2 q3 q hq => absurd q1 (by omega)⟩
              · show yv (st2 z' 1281 0 0 (z' 1281 0 0)) (194 + t) = Y
                have : Fr (fun f i => Nat.beq f 1281) z' (st2 z' 1281 0 0 (z' 1281 0 0)) := Fr.rf.st rfl
                rw [this.yv fun f g1 g2 => by rw [← Bool.not_eq_true, Nat.beq_eq]; omega]
                exact r4
              · show st2 z' 1281 0 0 (z' 1281 0 0) 1281 0 0 = _
                rw [st2_eq, r5]
                exact g5.1 q
theorem c119_mn {rf : Int → Int → Int → Int → S2 → Option (Int × S2)} {s : S2} {r t : Nat} {C Y : V2} {code : List Int} {f g n d : Nat} {low high mv : Int} (hrf : RfOK rf r t C Y code f g n d mv) (h : GH s r C code f g n) (hy : yv s (194 + t) = Y) (ht : t < 3) (ht0 : ¬ t = 0) (hl : low < high) (hl1 : -1000000 ≤ low) (hl2 : high ≤ 1000000) : ∃ R s', itr (fun (x18, x19, s20) => f119_a rf t low high (194 + t) 0 mv x18 x19 s20) am_fu (high, -1, s) = some (R, s') ∧ AB low high (bV (bst false (avB C Y mv) (fun k => gV C code f g d (t + 1) (nxY C code Y k)) 61)) R ∧ Fr (pGt r t) s s' ∧ s' 1281 0 0 = s 1281 0 0 := by
  generalize hval : (fun k => gV C code f g d (t + 1) (nxY C code Y k)) = val
  have hvk : ∀ k, gV C code f g d (t + 1) (nxY C code Y k) = val k := fun k => congrFun hval k
  obtain ⟨p, hp⟩ := bst_ex (ev := false) (av := avB C Y mv) (val := val) rfl (k := 61) (by omega)
  refine Exists.elim (itr_inv (b := fun (x18, x19, s20) => f119_a rf t low high (194 + t) 0 mv x18 x19 s20) (fun (k : Nat) (z : Int × Int × S2) => z.2.1 = (k : Int) - 1 ∧ mnI low high z.1 (bst false (avB C Y mv) val k) ∧ Fr (pGt r t) s z.2.2 ∧ yv z.2.2 (194 + t) = Y ∧ z.2.2 1281 0 0 = s 1281 0 0) (fun (z : Int × S2) => AB low high p.1 z.1 ∧ Fr (pGt r t) s z.2 ∧ z.2 1281 0 0 = s 1281 0 0) 61 ?_ am_fu (fu_lt (by decide)) (high, -1, s) ⟨rfl, ⟨Int.le_refl _, rfl⟩, Fr.rf, hy, rfl⟩) ?_
  rotate_left
  · rintro ⟨R, s'⟩ ⟨hr, b1, b2, b3⟩
    exact ⟨R, s', hr, by rw [hp]; exact b1, b2, b3⟩
  · rintro k ⟨x, y, z⟩ hk ⟨g1, g2, g3, g4, g5⟩
    dsimp only at g1 g2 g3 g4 g5 ⊢
    subst g1
    have hGz := h.fr g3
    obtain ⟨o1, o2, o3⟩ := hGz.own
    have ej : jadd ((k : Int) - 1) 1 = ((k + 1 : Nat) : Int) - 1 := by rw [jadd_e (by omega) (by omega)]; omega
    by_cases e : k = 61
    · right
      refine ⟨(x, z), ?_, mn_end hl hk hp g2 (Or.inl e), g3, g5⟩
      show f119_a rf t low high (194 + t) 0 mv x _ z = _
      unfold f119_a
      rw [if_pos (by omega)]
    · by_cases hx : x ≤ low
      · right
        refine ⟨(x, z), ?_, mn_end hl hk hp g2 (Or.inr hx), g3, g5⟩
        show f119_a rf t low high (194 + t) 0 mv x _ z = _
        unfold f119_a
        rw [if_neg (by omega)]
        simp only [jn]
        rw [if_pos trivial, if_pos hx]
      · left
        refine ⟨by omega, ?_⟩
        have e120 := m120 (t := t) (f := mv) (k := k) o3 o2 g4 (by omega)
        cases hav : avB C Y mv k with
        | false =>
          refine ⟨(x, ((k + 1 : Nat) : Int) - 1, z), ?_, rfl, by rw [bst_f hav]; exact g2, g3, g4, g5⟩
          show f119_a rf t low high (194 + t) 0 mv x _ z = _
          unfold f119_a
          rw [if_neg (by omega)]
          simp only [jn]
          rw [if_pos trivial, if_neg hx, bnd, o1, e120, hav, i01_f, cP_s, if_pos rfl, bnd, ej]
        | true =>
          obtain ⟨z1, k1, k2, k3⟩ := m58 (a := 160) (b := 194 + t) (s := z)
          have K3 : Fr (pGt r t) z z1 := k3.mo fun f i q => pY_pP (pGt_f.mp q).1
          have K4 : yv z1 (194 + t) = Y := (k3.yv fun f w1 w2 => pY_f.mpr (by omega)).trans g4
          obtain ⟨R, z', r1, r2, r3', r4, r5'⟩ := hrf k z1 low x (by omega) hav (hGz.fr K3) K4 (k2.trans g4) (by omega) hl1 (by have := g2.1; omega)
          have r3 := K3.tr r3'
          have r5 := r5'.trans (congrFun (k3 1281 0 (pY_f.mpr (by omega))) 0)
          rw [hvk] at r2
          have hm := mn_step (a := (k : Int) - 1) hl g2 (by omega) r2
          have hst : f119_a rf t low high (194 + t) 0 mv x ((k : Int) - 1) z = if x ≤ R then some (.inl (x, ((k + 1 : Nat) : Int) - 1, z')) else (if ¬ (t : Int) = 0 then some (.inl (R, ((k + 1 : Nat) : Int) - 1, st2 z' 1281 0 0 (z' 1281 0 0))) else some (.inl (R, ((k + 1 : Nat) : Int) - 1, st2 z' 1281 0 0 ((k : Int) - 1)))) := by
            unfold f119_a
            rw [if_neg (by omega)]
            simp only [jn]
            rw [if_pos trivial, if_neg hx, bnd, o1, e120, hav, i01_t, cP_s]
            simp only [ne10, if_false, if_true, k1, cP_s, r1, cR_s, bnd, ej]
          by_cases hRx : x ≤ R
          · rw [if_pos hRx] at hst hm
            exact ⟨(x, ((k + 1 : Nat) : Int) - 1, z'), hst, rfl, by rw [bst_t hav]; exact hm, g3.tr r3, r4, r5.trans g5⟩
          · rw [if_neg hRx] at hst hm
            rw [if_pos (show ¬ (t : Int) = 0 by omega)] at hst
            refine ⟨(R, ((k + 1 : Nat) : Int) - 1, st2 z' 1281 0 0 (z' 1281 0 0)), hst, rfl, by rw [bst_t hav]; exact hm, (g3.tr r3).st (by simp [pGt]), ?_, ?_⟩
            · show yv (st2 z' 1281 0 0 (z' 1281 0 0)) (194 + t) = Y
              have : Fr (fun f i => Nat.beq f 1281) z' (st2 z' 1281 0 0 (z' 1281 0 0)) := Fr.rf.st rfl
              rw [this.yv fun f g1 g2 => by rw [← Bool.not_eq_true, Nat.beq_eq]; omega]
              exact r4
            · show st2 z' 1281 0 0 (z' 1281 0 0) 1281 0 0 = _
              rw [st2_eq, r5]
              exact g5
