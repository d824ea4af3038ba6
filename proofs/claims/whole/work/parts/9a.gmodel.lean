/-! GAME, the model: acts, paths, values taken -/
theorem m246 {z : S2} {C Y : V2} {code : List Int} {fam k : Nat} (hC : CB C) (hY : YB C Y) (h : MS C Y code 0 z) (hk : (k : Int) ≤ 10 * C 388 0) : (avB C Y fam k = true → ∃ z', f246 fam ((k : Int) - 1) z = some (1, z') ∧ MS C (acY C Y k) code 0 z' ∧ Fr pH z z') ∧ (avB C Y fam k = false → f246 fam ((k : Int) - 1) z = some (0, z)) := by
  have hcc := hC.1
  unfold f246
  simp only [bnd]
  by_cases h0 : k = 0
  · subst h0
    refine ⟨fun _ => ⟨z, ?_, by unfold acY; rw [if_pos rfl]; exact h, Fr.rf⟩, fun q => (by cases q)⟩
    rw [if_neg (by omega)]
  · obtain ⟨a, rfl⟩ : ∃ a, k = a + 1 := ⟨k - 1, by omega⟩
    have ea : ((a + 1 : Nat) : Int) - 1 = (a : Int) := by omega
    have e1 : (a : Int) % 10 = ((a % 10 : Nat) : Int) := by omega
    have e2 : (a : Int) / 10 = ((a / 10 : Nat) : Int) := by omega
    have hav : avB C Y fam (a + 1) = (decide (C 395 (a % 10) = fam) && !decide (mayI C Y ((a % 10 : Nat) : Int) ((a / 10 : Nat) : Int) = 0)) := by
      unfold avB
      rw [Nat.add_sub_cancel]
      simp
    have hac : acY C Y (a + 1) = putS C Y ((a % 10 : Nat) : Int) ((a / 10 : Nat) : Int) := by
      unfold acY
      rw [if_neg (by omega), Nat.add_sub_cancel]
    have hl2 : ((a / 10 : Nat) : Int) < C 388 0 := by omega
    rw [hav, hac, ea, if_pos (by omega), jrem_e (by omega) (by omega) (by omega) (by omega), jdiv_e (by omega) (by omega) (by omega) (by omega), e1, e2, m214 hC h.1 (by unfold i32; omega)]
    by_cases c1 : ((a % 10 : Nat) : Int) < C 389 0
    · have w1 := (h.1.2.2.1 (a % 10) (by omega) c1).1
      rw [if_pos (by omega), cP_s, if_neg ne10, ld_t (by omega) (by omega), Int.toNat_natCast, w1]
      by_cases c2 : C 395 (a % 10) = fam
      · rw [if_neg (show ¬ ¬ C 395 (a % 10) = fam from fun w => w c2), decide_eq_true c2, m224 hC hY h (by omega) c1 (by omega) hl2, cP_s]
        by_cases c3 : mayI C Y ((a % 10 : Nat) : Int) ((a / 10 : Nat) : Int) = 0
        · rw [decide_eq_true c3, c3]
          exact ⟨fun q => (by cases q), fun _ => if_neg (by decide)⟩
        · obtain ⟨z', k1, k2, k3⟩ := m225 hC h (mayI_t c3)
          rw [decide_eq_false c3, if_pos c3]
          exact ⟨fun _ => ⟨z', by rw [k1, cP_s], k2, k3⟩, fun q => (by cases q)⟩
      · rw [if_pos c2, decide_eq_false c2]
        exact ⟨fun q => (by cases q), fun _ => rfl⟩
    · have c3 : mayI C Y ((a % 10 : Nat) : Int) ((a / 10 : Nat) : Int) = 0 := by
        rcases mayI_01 (C := C) (Y := Y) (n := ((a % 10 : Nat) : Int)) (l := ((a / 10 : Nat) : Int)) with w | w
        · exact w
        · exact absurd (mayI_t (by omega) : mayH C Y ((a % 10 : Nat) : Int) ((a / 10 : Nat) : Int)).1.2.1 c1
      rw [if_neg (by omega), cP_s, if_pos rfl, decide_eq_true c3]
      refine ⟨fun q => ?_, fun _ => rfl⟩
      cases hd : decide (C 395 (a % 10) = fam) <;> rw [hd] at q <;> cases q
/-- kept, and only what asking may change is changed -/
def KF (t z : S2) : Prop := Fr pAk t z ∧ Kp t z ∧ z 1589 0 0 = t 1589 0 0 ∧ ∀ k, k < 4400 → z 1606 0 k = t 1606 0 k
theorem AK.kf {t z : S2} (h : AK t z) : KF t z := ⟨h.1.1, h.2, h.1.2.2.1, h.1.2.2.2⟩
theorem KF.fr {t z z' : S2} {P : Nat → Nat → Bool} (h : KF t z) (e : Fr P z z') (hp : ∀ f i, pAk f i = false → P f i = false) (h6 : P 1606 0 = false) (h9 : P 1589 0 = false) : KF t z' := ⟨h.1.tr (e.mo hp), h.2.1.fr e h6, by rw [e _ _ h9]; exact h.2.2.1, fun k hk => by rw [e _ _ h6]; exact h.2.2.2 k hk⟩
theorem KF.back {t z : S2} (h : KF t z) : ∃ z', f237 z = some z' ∧ AK t z' ∧ Fr pJ z z' := by
  obtain ⟨z', c1, c2, c3⟩ := m237 h.2.1
  refine ⟨z', c1, ⟨⟨h.1.tr (c3.mo fun f i q => pJ_k q), c2, ?_, fun k hk => ?_⟩, h.2.1.fr c3 (pJ_f.mpr (by omega))⟩, c3⟩
  · rw [c3 1589 0 (pJ_f.mpr (by omega))]; exact h.2.2.1
  · rw [c3 1606 0 (pJ_f.mpr (by omega))]; exact h.2.2.2 k hk
def pathY (C Y : V2) (code : List Int) (ks : Nat → Nat) : Nat → V2
  | 0 => Y
  | j + 1 => nxY C code (pathY C Y code ks j) (ks j)
theorem pathY_h {C Y : V2} {code : List Int} {ks : Nat → Nat} : ∀ {j : Nat}, pathY C Y code ks j 512 0 = Y 512 0 + j
  | 0 => by simp [pathY]
  | j + 1 => by
    have ih := pathY_h (C := C) (Y := Y) (code := code) (ks := ks) (j := j)
    show nxY C code (pathY C Y code ks j) (ks j) 512 0 = _
    rw [nxY_h, ih]
    omega
theorem pathY_YB {C Y : V2} {code : List Int} {ks : Nat → Nat} (hC : CB C) (hY : YB C Y) (h9 : Y 512 0 ≤ 999) : ∀ {j : Nat}, j ≤ 10 → YB C (pathY C Y code ks j)
  | 0, _ => hY
  | j + 1, h => nxY_YB hC (pathY_YB hC hY h9 (j := j) (by omega)) (by rw [pathY_h]; omega)
def pathOK (C Y : V2) (code : List Int) (f g : Nat) (ks : Nat → Nat) (n : Nat) : Prop := ∀ j, j < n → avB C (pathY C Y code ks j) (famT f g j) (ks j) = true ∧ ((ks j : Nat) : Int) ≤ 10 * C 388 0
/-- an act, an hour, of the model -/
theorem mstep {z : S2} {C Y : V2} {code : List Int} {k : Nat} (hC : CB C) (hY : YB C Y) (h : MS C (acY C Y k) code 0 z) : ∃ x z', f222 z = some (x, z') ∧ MS C (nxY C code Y k) code 0 z' ∧ Fr pG z z' := by
  obtain ⟨z', a1, a2, a3, -⟩ := m222 hC (acY_YB hY) h
  exact ⟨_, z', a1, a2, a3⟩
def pPl (f i : Nat) : Bool := pJ f i || pH f i || pG f i
theorem pPl_f {f i : Nat} : pPl f i = false ↔ pJ f i = false ∧ pH f i = false ∧ pG f i = false := by
  unfold pPl
  rw [Bool.or_eq_false_iff, Bool.or_eq_false_iff, and_assoc]
theorem pPl_k {f i : Nat} (h : pAk f i = false) : pPl f i = false := pPl_f.mpr ⟨pJ_k h, pH_k h, pG_k h⟩
theorem pPl_o {f : Nat} (h : (1590 < f ∧ f < 1608) ∨ f = 1589) : pPl f 0 = false := pPl_f.mpr ⟨pJ_f.mpr (by omega), pH_f.mpr (by omega), pG_f.mpr (by omega)⟩
theorem jrem2 {t : Nat} (ht : t < 1000) : jrem (t : Int) 2 = ((t % 2 : Nat) : Int) := by rw [jrem_e (by omega) (by omega) (by omega) (by omega)]; omega
theorem m245 {t z : S2} {C Y : V2} {code : List Int} {f g : Nat} {ks : Nat → Nat} {at' : Nat} (hC : CB C) (hY : YB C Y) (h9 : Y 512 0 ≤ 999) (hM : MS C Y code 0 t) (hk : KF t z) (hat : at' ≤ 3) (hp : pathOK C Y code f g ks at') (hc : ∀ j, j < at' → z 1600 0 j = ((ks j : Nat) : Int) - 1) : ∃ z', f245 f g at' z = some z' ∧ MS C (pathY C Y code ks at') code 0 z' ∧ KF t z' ∧ Fr pPl z z' := by
  obtain ⟨z1, a1, a2, a3⟩ := hk.back
  have A3 : Fr pPl z z1 := a3.mo fun f i q => (pPl_f.mp q).1
  unfold f245
  rw [a1, cP_s]
  refine inv_cP (a := ((0 : Int), z1)) (P := fun e => ∃ z', e = some z' ∧ MS C (pathY C Y code ks at') code 0 z' ∧ KF t z' ∧ Fr pPl z z') (fun (i : Nat) (w : Int × S2) => w.1 = i ∧ MS C (pathY C Y code ks i) code 0 w.2 ∧ KF t w.2 ∧ Fr pPl z w.2) (fun (w : S2) => MS C (pathY C Y code ks at') code 0 w ∧ KF t w ∧ Fr pPl z w) at' (by omega) ⟨rfl, a2.ms hM hC, a2.kf, A3⟩ ?_ ?_
  · rintro i ⟨x, w⟩ hi ⟨g1, g2, g3, g4⟩
    dsimp only at g1 g2 g3 g4 ⊢
    subst g1
    by_cases e : i = at'
    · refine Or.inr ⟨w, ?_, by rw [← e]; exact g2, g3, g4⟩
      show f245_a f g at' i w = _
      unfold f245_a
      rw [if_pos (by omega)]
    · refine Or.inl ⟨by omega, ?_⟩
      obtain ⟨o1, o2⟩ := hp i (by omega)
      have hYi := pathY_YB (code := code) (ks := ks) hC hY h9 (j := i) (by omega)
      have q1 : w 1600 0 i = ((ks i : Nat) : Int) - 1 := by rw [g4 _ _ (pPl_o (by omega))]; exact hc i (by omega)
      rw [famT_lt] at o1
      obtain ⟨w1, b1, b2, b3⟩ := (m246 hC hYi g2 o2).1 o1
      obtain ⟨r, w2, c1, c2, c3⟩ := mstep hC hYi b2
      refine ⟨(((i + 1 : Nat) : Int), w2), ?_, rfl, c2, (g3.fr b3 (fun f i q => pH_k q) (pH_f.mpr (by omega)) (pH_f.mpr (by omega))).fr c3 (fun f i q => pG_k q) pG_6 pG_9, (g4.tr (b3.mo fun f i q => (pPl_f.mp q).2.1)).tr (c3.mo fun f i q => (pPl_f.mp q).2.2)⟩
      show f245_a f g at' i w = _
      unfold f245_a
      rw [if_neg (by omega), jrem2 (by omega)]
      simp only [jn]
      rw [ld_t (by omega) (by omega), Int.toNat_natCast, q1, ld_t (by omega) (by omega), Int.toNat_natCast, q1]
      by_cases c : i % 2 = 0
      · rw [if_pos c] at b1
        rw [c, if_neg (by decide), b1, cR_s, c1, cR_s, bnd, jadd_e (by omega) (by omega)]
        rfl
      · rw [if_neg c] at b1
        rw [if_pos (by omega), b1, cR_s, c1, cR_s, bnd, jadd_e (by omega) (by omega)]
        rfl
  · rintro w ⟨g1, g2, g3⟩
    exact ⟨w, rfl, g1, g2, g3⟩
def vE (o : Option (Int × Int)) : Int := match o with
  | none => 1000000
  | some p => p.1
/-- a value taken at a turn -/
def TV (at' : Nat) (v : Int) (z z' : S2) : Prop := (∀ j, j < at' → z' 1601 0 j = z 1601 0 j) ∧ (∀ o a, z 1601 0 at' = vE o → (∀ p, o = some p → p.1 < 1000000) → z' 1601 0 at' = vE (bupd (evT at') o v a)) ∧ (at' ≠ 0 → z' 1602 0 0 = z 1602 0 0) ∧ (at' = 0 → ∀ o, z 1601 0 0 = vE o → (∀ p, o = some p → p.1 < 1000000 ∧ z 1602 0 0 = p.2) → ∀ p, bupd (evT 0) o v (z 1600 0 0) = some p → z' 1602 0 0 = p.2)
def pTV (f i : Nat) : Bool := (Nat.beq f 1601 || Nat.beq f 1602) && Nat.beq i 0
theorem pTV_f {f i : Nat} : pTV f i = false ↔ ¬ ((f = 1601 ∨ f = 1602) ∧ i = 0) := by
  unfold pTV
  rw [← Bool.not_eq_true, Bool.and_eq_true, Bool.or_eq_true, Nat.beq_eq, Nat.beq_eq, Nat.beq_eq]
theorem m244 {z : S2} {at' : Nat} {v : Int} (hat : at' < 4) (hv : v < 1000000) : ∃ z', f244 at' v z = some z' ∧ TV at' v z z' ∧ Fr pTV z z' := by
  have hb : ∀ b : Prop, ∀ [Decidable b], (b ↔ (z 1601 0 at' = 1000000 ∨ betB (evT at') v (z 1601 0 at') = true)) → f244 at' v z = (if b then some (st2 (st2 z 1601 0 at' v) 1602 0 0 (if at' = 0 then z 1600 0 0 else z 1602 0 0)) else some z) → ∃ z', f244 at' v z = some z' ∧ TV at' v z z' ∧ Fr pTV z z' := by
    intro b inst hbb he
    have hup : ∀ o a, z 1601 0 at' = vE o → (∀ p, o = some p → p.1 < 1000000) → bupd (evT at') o v a = if b then some (v, a) else o := by
      intro o a ho hlt
      cases o with
      | none =>
        rw [if_pos (hbb.mpr (Or.inl ho))]
        rfl
      | some p =>
        obtain ⟨x, y⟩ := p
        have ho : z 1601 0 at' = x := ho
        have := hlt _ rfl
        dsimp only at this
        show (if betB (evT at') v x = true then some (v, a) else some (x, y)) = _
        rw [ho] at hbb
        by_cases c : b
        · rw [if_pos c, if_pos]
          rcases hbb.mp c with q | q
          · omega
          · exact q
        · rw [if_neg c, if_neg (fun q => c (hbb.mpr (Or.inr q)))]
    by_cases c : b
    · rw [if_pos c] at he
      refine ⟨_, he, ⟨fun j hj => ?_, fun o a ho hlt => ?_, fun h0 => ?_, fun h0 o ho hp p hq => ?_⟩, (Fr.rf.st rfl).st rfl⟩
      · rw [st2_ne (by omega), st2_ne (by omega)]
      · rw [hup o a ho hlt, if_pos c, st2_ne (by omega), st2_eq]
        rfl
      · rw [st2_eq, if_neg h0]
      · subst h0
        rw [hup o _ ho (fun p hp' => (hp p hp').1), if_pos c] at hq
        cases hq
        rw [st2_eq, if_pos rfl]
    · rw [if_neg c] at he
      refine ⟨z, he, ⟨fun j hj => rfl, fun o a ho hlt => ?_, fun h0 => rfl, fun h0 o ho hp p hq => ?_⟩, Fr.rf⟩
      · rw [hup o a ho hlt, if_neg c]; exact ho
      · subst h0
        rw [hup o _ ho (fun p hp' => (hp p hp').1), if_neg c] at hq
        exact (hp p hq).2
  have he : ∀ x : Int, (x = 0 ∨ x = 1) → (if x = 0 then some z else sto z 1601 0 4 at' v fun s3 => jn (fun (x4 : Int) => bnd (st2 s3 1602 0 0 x4) fun s5 => some s5) fun j76 => if ¬ (at' : Int) = 0 then (bnd (s3 1602 0 0) fun v6 => j76 v6) else ld s3 1600 0 4 0 fun v7 => j76 v7) = if x = 1 then some (st2 (st2 z 1601 0 at' v) 1602 0 0 (if at' = 0 then z 1600 0 0 else z 1602 0 0)) else some z := by
    intro x hx
    rcases hx with rfl | rfl
    · rw [if_pos rfl, if_neg (by decide)]
    · rw [if_neg ne10, if_pos rfl, sto_t (by omega) (by omega), Int.toNat_natCast]
      simp only [jn, bnd]
      by_cases c : at' = 0
      · subst c
        rw [if_neg (show ¬ ¬ ((0 : Nat) : Int) = 0 by decide), ld_t (by omega) (by omega), if_pos rfl, st2_ne (Or.inl (by decide))]
        rfl
      · rw [if_pos (show ¬ (at' : Int) = 0 by omega), if_neg c, st2_ne (Or.inl (by decide))]
  have hst : ∀ x : Int, (x = 0 ∨ x = 1) → f244 at' v z = (if x = 0 then some z else sto z 1601 0 4 at' v fun s3 => jn (fun (x4 : Int) => bnd (st2 s3 1602 0 0 x4) fun s5 => some s5) fun j76 => if ¬ (at' : Int) = 0 then (bnd (s3 1602 0 0) fun v6 => j76 v6) else ld s3 1600 0 4 0 fun v7 => j76 v7) → (x = 1 ↔ (z 1601 0 at' = 1000000 ∨ betB (evT at') v (z 1601 0 at') = true)) → ∃ z', f244 at' v z = some z' ∧ TV at' v z z' ∧ Fr pTV z z' := fun x hx h1 h2 => hb (x = 1) h2 (h1.trans (he x hx))
  by_cases c1 : z 1601 0 at' = 1000000
  · refine hst 1 (Or.inr rfl) ?_ ⟨fun _ => Or.inl c1, fun _ => rfl⟩
    unfold f244
    rw [ld_t (by omega) (by omega), Int.toNat_natCast]
    simp only [jn]
    rw [if_pos c1]
  · have e2 := jrem2 (t := at') (by omega)
    by_cases c2 : at' % 2 = 0
    · have hev : evT at' = true := decide_eq_true c2
      by_cases c3 : v ≤ z 1601 0 at'
      · refine hst 0 (Or.inl rfl) ?_ ⟨fun q => absurd q (by decide), fun q => ?_⟩
        · unfold f244
          rw [ld_t (by omega) (by omega), Int.toNat_natCast]
          simp only [jn]
          rw [if_neg c1, e2, c2, if_neg (by decide), ld_t (by omega) (by omega), Int.toNat_natCast, if_pos c3]
        · exfalso
          rcases q with q | q
          · exact c1 q
          · rw [hev] at q
            have : z 1601 0 at' < v := of_decide_eq_true q
            omega
      · refine hst 1 (Or.inr rfl) ?_ ⟨fun _ => Or.inr ?_, fun _ => rfl⟩
        · unfold f244
          rw [ld_t (by omega) (by omega), Int.toNat_natCast]
          simp only [jn]
          rw [if_neg c1, e2, c2, if_neg (by decide), ld_t (by omega) (by omega), Int.toNat_natCast, if_neg c3]
        · rw [hev]
          exact decide_eq_true (by omega)
    · have hev : evT at' = false := decide_eq_false c2
      by_cases c3 : z 1601 0 at' ≤ v
      · refine hst 0 (Or.inl rfl) ?_ ⟨fun q => absurd q (by decide), fun q => ?_⟩
        · unfold f244
          rw [ld_t (by omega) (by omega), Int.toNat_natCast]
          simp only [jn]
          rw [if_neg c1, e2, if_pos (by omega), ld_t (by omega) (by omega), Int.toNat_natCast, if_pos c3]
        · exfalso
          rcases q with q | q
          · exact c1 q
          · rw [hev] at q
            have : v < z 1601 0 at' := of_decide_eq_true q
            omega
      · refine hst 1 (Or.inr rfl) ?_ ⟨fun _ => Or.inr ?_, fun _ => rfl⟩
        · unfold f244
          rw [ld_t (by omega) (by omega), Int.toNat_natCast]
          simp only [jn]
          rw [if_neg c1, e2, if_pos (by omega), ld_t (by omega) (by omega), Int.toNat_natCast, if_neg c3]
        · rw [hev]
          exact decide_eq_true (by omega)
