/-- the law in force in the model -/
def MF (t : S2) (code : List Int) : Prop := (t 1537 0 10 = -1 ∧ code = [-260, -59]) ∨ ∃ r : Nat, t 1537 0 10 = r ∧ MLaw t r code
def pO (f i : Nat) : Bool := (Nat.beq f 1587 || Nat.beq f 1588) && Nat.beq i 0
theorem pO_f {f i : Nat} : pO f i = false ↔ ¬ ((f = 1587 ∨ f = 1588) ∧ i = 0) := by
  unfold pO
  rw [← Bool.not_eq_true, Bool.and_eq_true, Bool.or_eq_true, Nat.beq_eq, Nat.beq_eq, Nat.beq_eq]
theorem MF.fr {t t' : S2} {code : List Int} {P : Nat → Nat → Bool} (h : MF t code) (e : Fr P t t') (h1 : t' 1537 0 10 = t 1537 0 10) (hp : ∀ f, 1580 ≤ f → f ≤ 1585 → P f 0 = false) : MF t' code := by
  rcases h with ⟨a, b⟩ | ⟨r, a, b⟩
  · exact Or.inl ⟨by rw [h1]; exact a, b⟩
  · exact Or.inr ⟨r, by rw [h1]; exact a, b.fr e hp⟩
/-- all that the model asks stands -/
def MS (C Y : V2) (code : List Int) (d : Int) (t : S2) : Prop := CR C t ∧ YR C Y t ∧ MF t code ∧ t 1589 0 0 = d ∧ (d = 0 ∨ d = 1)
theorem MS.fr {C Y : V2} {code : List Int} {d : Int} {t t' : S2} {P : Nat → Nat → Bool} (h : MS C Y code d t) (e : Fr P t t') (hp : ∀ f, 1537 ≤ f → f ≤ 1589 → f ≠ 1587 → f ≠ 1588 → P f 0 = false) : MS C Y code d t' := by
  obtain ⟨h1, h2, h3, h4, h5⟩ := h
  refine ⟨h1.fr e (Or.inl (hp _ (by omega) (by omega) (by omega) (by omega))) (fun f g1 g2 => hp _ (by omega) (by omega) (by omega) (by omega)) (hp _ (by omega) (by omega) (by omega) (by omega)) (hp _ (by omega) (by omega) (by omega) (by omega)) (hp _ (by omega) (by omega) (by omega) (by omega)) (hp _ (by omega) (by omega) (by omega) (by omega)) (hp _ (by omega) (by omega) (by omega) (by omega)), h2.fr e (hp _ (by omega) (by omega) (by omega) (by omega)) (hp _ (by omega) (by omega) (by omega) (by omega)) (hp _ (by omega) (by omega) (by omega) (by omega)) (hp _ (by omega) (by omega) (by omega) (by omega)) (hp _ (by omega) (by omega) (by omega) (by omega)) (hp _ (by omega) (by omega) (by omega) (by omega)), h3.fr e ?_ (fun f g1 g2 => hp _ (by omega) (by omega) (by omega) (by omega)), ?_, h5⟩
  · rw [e 1537 0 (hp _ (by omega) (by omega) (by omega) (by omega))]
  · rw [e 1589 0 (hp _ (by omega) (by omega) (by omega) (by omega))]; exact h4
theorem runL_plain {v : Int → Int} : runL v [-260, -59] [] = v 260 := rfl
/-- what the law in force is worth, behind the asking -/
theorem m200_sum {C Y : V2} {code : List Int} {d : Int} {t : S2} {f l : Nat} (hC : CB C) (hY : YB C Y) (h : MS C Y code d t) (hf : f < 4) (hf2 : (f : Int) < C 387 0) (hl : l < 6) (hl2 : (l : Int) < C 388 0) : ∃ t1, f203 f l t = some t1 ∧ Fr pO t t1 ∧ ((t1 1537 0 10 = -1 ∧ t1 1587 0 4 = runL (vls C Y (rainI C Y d) f l) code []) ∨ (¬ t1 1537 0 10 = -1 ∧ ∃ t2, f205 t1 = some (runL (vls C Y (rainI C Y d) f l) code [], t2) ∧ Fr pO t1 t2)) := by
  obtain ⟨h1, h2, h3, rfl, h5⟩ := h
  obtain ⟨t1, k1, k2, k3⟩ := m203 hC hY h1 h2 h5 hf hf2 hl hl2
  have kO : Fr pO t t1 := k3.mo fun f i h => pK_f.mpr (by have := pO_f.mp h; omega)
  have e1 : t1 1537 0 = t 1537 0 := k3 1537 0 (by decide)
  refine ⟨t1, k1, kO, ?_⟩
  rcases h3 with ⟨a, rfl⟩ | ⟨r, a, b⟩
  · left
    refine ⟨by rw [e1]; exact a, ?_⟩
    rw [runL_plain]
    exact k2 4 (by omega)
  · right
    refine ⟨by rw [e1, a]; omega, ?_⟩
    obtain ⟨t2, g1, g2⟩ := m205 (b.fr k3 (fun f g1 g2 => pK_f.mpr (by omega))) (by rw [e1]; exact a) k2
    exact ⟨t2, g1, g2.mo fun f i h => pE_f.mpr (by have := pO_f.mp h; omega)⟩
theorem m200 {C Y : V2} {code : List Int} {d : Int} {t : S2} {l : Nat} (hC : CB C) (hY : YB C Y) (h : MS C Y code d t) (hl : l < 6) (hl2 : (l : Int) < C 388 0) : ∃ t', f200 l t = some (own C Y (rainI C Y d) code l, t') ∧ Fr pO t t' := by
  have hcc := hC.1
  unfold f200 own
  by_cases hcut : Y 514 l = 0
  · rw [if_pos ⟨hl2, hl, hcut⟩]
    refine inv_cP (a := ((-1 : Int), (0 : Int), (0 : Int), t)) (P := fun e => ∃ s', e = some ((ownS (fun f => runL (vls C Y (rainI C Y d) f l) code []) (C 387 0).toNat).1, s') ∧ Fr pO t s') (fun (i : Nat) (z : Int × Int × Int × S2) => z.1 = (ownS (fun f => runL (vls C Y (rainI C Y d) f l) code []) i).1 ∧ z.2.1 = (ownS (fun f => runL (vls C Y (rainI C Y d) f l) code []) i).2 ∧ z.2.2.1 = i ∧ Fr pO t z.2.2.2) (fun (z : Int × S2) => z.1 = (ownS (fun f => runL (vls C Y (rainI C Y d) f l) code []) (C 387 0).toNat).1 ∧ Fr pO t z.2) (C 387 0).toNat (by omega) ⟨rfl, rfl, rfl, Fr.rf⟩ ?_ ?_
    · rintro i ⟨x, y, w, z⟩ hi ⟨g1, g2, g3, hF⟩
      dsimp only at g1 g2 g3 hF ⊢
      subst g1 g2 g3
      have hz := h.fr hF (fun f h1 h2 h3 h4 => pO_f.mpr (by omega))
      have q1 : z 1537 0 2 = C 387 0 := hz.1.1.2.2.1
      by_cases e : i = (C 387 0).toNat
      · refine Or.inr ⟨((ownS (fun f => runL (vls C Y (rainI C Y d) f l) code []) i).1, z), ?_, by rw [e], hF⟩
        show f200_a l _ _ i z = _
        unfold f200_a
        rw [ld_t (by omega) (by omega), show z 1537 0 (Int.toNat 2) = C 387 0 from q1, if_pos (by omega)]
      · refine Or.inl ⟨by omega, ?_⟩
        obtain ⟨t1, k1, k2, k3⟩ := m200_sum (f := i) hC hY hz (by omega) (by omega) hl hl2
        have e201 : f201 l z = some 0 := by rw [m201 hY hz.2.1 hl, hcut]
        have key : ∀ (t2 : S2), Fr pO t1 t2 → (if jcmp (runL (vls C Y (rainI C Y d) i l) code []) (ownS (fun f => runL (vls C Y (rainI C Y d) f l) code []) i).2 ≤ 0 then (if ¬ jcmp (runL (vls C Y (rainI C Y d) i l) code []) (ownS (fun f => runL (vls C Y (rainI C Y d) f l) code []) i).2 = 0 then bnd (jadd (i : Int) 1) fun v12 => (some (.inl ((ownS (fun f => runL (vls C Y (rainI C Y d) f l) code []) i).1, (ownS (fun f => runL (vls C Y (rainI C Y d) f l) code []) i).2, v12, t2)) : Option ((Int × Int × Int × S2) ⊕ (Int × S2))) else bnd (jadd (i : Int) 1) fun v13 => some (.inl (-1, (ownS (fun f => runL (vls C Y (rainI C Y d) f l) code []) i).2, v13, t2))) else bnd (jadd (i : Int) 1) fun v14 => some (.inl ((i : Int), runL (vls C Y (rainI C Y d) i l) code [], v14, t2))) = some (.inl ((ownS (fun f => runL (vls C Y (rainI C Y d) f l) code []) (i + 1)).1, (ownS (fun f => runL (vls C Y (rainI C Y d) f l) code []) (i + 1)).2, ((i + 1 : Nat) : Int), t2)) := by
          intro t2 h2
          rw [jadd_e (by omega) (by omega)]
          simp only [bnd, jcmp_le, jcmp_eq, ownS]
          grind
        have hst : f200_a l (ownS (fun f => runL (vls C Y (rainI C Y d) f l) code []) i).1 (ownS (fun f => runL (vls C Y (rainI C Y d) f l) code []) i).2 i z = cP (f203 i l z) fun s8 => ld s8 1537 0 11 10 fun v9 => jn (fun (x10 : Int) (s11 : S2) => if (jcmp x10 (ownS (fun f => runL (vls C Y (rainI C Y d) f l) code []) i).2) ≤ 0 then (if ¬ (jcmp x10 (ownS (fun f => runL (vls C Y (rainI C Y d) f l) code []) i).2) = 0 then (bnd (jadd (i : Int) 1) fun v12 => some (.inl ((ownS (fun f => runL (vls C Y (rainI C Y d) f l) code []) i).1, (ownS (fun f => runL (vls C Y (rainI C Y d) f l) code []) i).2, v12, s11))) else bnd (jadd (i : Int) 1) fun v13 => some (.inl ((-1), (ownS (fun f => runL (vls C Y (rainI C Y d) f l) code []) i).2, v13, s11))) else bnd (jadd (i : Int) 1) fun v14 => some (.inl ((i : Int), x10, v14, s11))) fun j57 => if ¬ v9 = (-1) then (cR (f205 s8) fun r15 s16 => j57 r15 s16) else ld s8 1587 0 13 4 fun v17 => j57 v17 s8 := by
          unfold f200_a
          rw [ld_t (by omega) (by omega), show z 1537 0 (Int.toNat 2) = C 387 0 from q1, if_neg (by omega), e201, cP_s, if_neg (by decide)]
        rcases k3 with ⟨a1, a2⟩ | ⟨a1, t2, a2, a3⟩
        · refine ⟨((ownS (fun f => runL (vls C Y (rainI C Y d) f l) code []) (i + 1)).1, (ownS (fun f => runL (vls C Y (rainI C Y d) f l) code []) (i + 1)).2, ((i + 1 : Nat) : Int), t1), ?_, rfl, rfl, rfl, hF.tr k2⟩
          show f200_a l _ _ i z = _
          rw [hst, k1, cP_s, ld_t (by omega) (by omega), show t1 1537 0 (Int.toNat 10) = -1 from a1, jn, if_neg (by decide), ld_t (by omega) (by omega), show t1 1587 0 (Int.toNat 4) = _ from a2]
          exact key t1 Fr.rf
        · refine ⟨((ownS (fun f => runL (vls C Y (rainI C Y d) f l) code []) (i + 1)).1, (ownS (fun f => runL (vls C Y (rainI C Y d) f l) code []) (i + 1)).2, ((i + 1 : Nat) : Int), t2), ?_, rfl, rfl, rfl, hF.tr (k2.tr a3)⟩
          show f200_a l _ _ i z = _
          rw [hst, k1, cP_s, ld_t (by omega) (by omega), jn, show Int.toNat 10 = 10 from rfl, if_pos a1, a2, cR_s]
          exact key t2 a3
    · rintro ⟨x, z⟩ ⟨g1, g2⟩
      exact ⟨z, by rw [← g1], g2⟩
  · rw [if_neg (fun q => hcut q.2.2)]
    have q1 : t 1537 0 2 = C 387 0 := h.1.1.2.2.1
    have e201 : f201 l t = some (Y 514 l) := m201 hY h.2.1 hl
    have hst : itr (fun (x2, x3, x4, s5) => f200_a l x2 x3 x4 s5) am_fu (-1, 0, 0, t) = some (-1, t) := by
      have : f200_a l (-1) 0 0 t = some (.inr (-1, t)) := by
        unfold f200_a
        rw [ld_t (by omega) (by omega), show t 1537 0 (Int.toNat 2) = C 387 0 from q1]
        by_cases h0 : C 387 0 ≤ 0
        · rw [if_pos h0]
        · rw [if_neg h0, e201, cP_s, if_pos hcut]
      exact itr_seq (fun _ => ((-1 : Int), (0 : Int), (0 : Int), t)) 0 (-1, t) (fun i hi => by omega) this am_fu (fu_lt (by decide))
    rw [hst]
    exact ⟨t, rfl, Fr.rf⟩
