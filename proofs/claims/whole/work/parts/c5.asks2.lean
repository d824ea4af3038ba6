theorem fk_n9 {f : Nat} (h : (am_fk f).1 = 2 ∨ (am_fk f).1 = 7) : f ≠ 9999 := fun e => by
  subst e
  obtain ⟨-, -, k⟩ := fk_ok (f := 9999) rfl (by omega)
  omega
/-- a row of numbers is written -/
theorem row_st {m a f i k t n : Nat} {s : S2} {w : W1} {g : Nat → Int} {v : Int} {q : am_K5} (h : SM m s w) (ha : a < am_NN m) (hx : am_lay[a]? = some (2000 + f, i)) (hf : am_fk f = (2, t, n, q.1, q.2.1)) (hg : ∀ k, k < n → g k = s f i k) (hk : k < n) : SM m (st2 s f i k v) (w.set a (.inr (.inl (t, n, am_u g k v)))) := by
  have h2 : (am_fk f).1 = 2 ∨ (am_fk f).1 = 7 := Or.inl (by rw [hf])
  have n9 := fk_n9 h2
  refine h.upd ha hx ?_ (fun y cell hy hcell => hcell.str h2 hy) (by rw [st2_ne (by omega)])
  unfold CL
  rw [if_neg (show ¬ 2000 + f < 2000 by omega), show (2000 + f, i).1 - 2000 = f by dsimp only; omega, hf]
  refine ⟨_, rfl, fun j hj => ?_⟩
  unfold am_u
  show _ = st2 s f i k v f i j
  rw [st2_d]
  by_cases e : j = k
  · rw [if_pos e, if_pos ⟨rfl, rfl, e⟩]
  · rw [if_neg e, if_neg (fun w => e w.2.2), hg j hj]
theorem mS_ast {X : X2} {t : Nat} : mS X 3 t := by
  intro m s s' w S T rv hI hS h0
  have h : m2_ast t S s = some (rv, s') := h0
  show ∃ c' rw b', m ≤ c' ∧ m1_ast t T w = some (rw, b') ∧ SM c' s' b' ∧ oV (VM c') rv rw
  have nf : ∀ {f : Nat}, (am_fk f).1 = 2 ∨ (am_fk f).1 = 7 → f ≠ 6000 ∧ f ≠ 6002 := fun {f} h => by
    refine ⟨fun e => ?_, fun e => ?_⟩
    · subst e
      obtain ⟨-, -, k⟩ := fk_ok (f := 6000) rfl (by omega)
      omega
    · subst e
      obtain ⟨-, -, k⟩ := fk_ok (f := 6002) rfl (by omega)
      omega
  unfold m2_ast at h
  split at h
  · rename_i f i x v
    obtain ⟨w1, w2, w3, rfl, h1, h3, h4⟩ := lR3 hS
    obtain ⟨q, rfl, h2⟩ := h1.ref
    obtain rfl := h3.int
    obtain rfl := h4.int
    split at h
    · rename_i n r ef
      obtain ⟨a, a1, a2, rfl⟩ := h2.row (nf (Or.inl (by rw [ef]))).1 (nf (Or.inl (by rw [ef]))).2
      obtain ⟨cell, b1, b2⟩ := hI.row a1 a2
      rw [ef] at b2
      obtain ⟨g, rfl, g2⟩ := b2
      split at h
      · rename_i hx
        cases et : Nat.beq t 0 with
        | false => rw [et] at h; cases h
        | true =>
          rw [et] at h
          cases h
          have ht := Nat.eq_of_beq_eq_true et
          subst ht
          refine ⟨m, none, w.set a (.inr (.inl (0, n, am_u g x.toNat v))), Nat.le_refl _, ?_, row_st (q := (r.1, r.2, 0, 0, 0)) hI a1 a2 ef g2 (by omega), trivial⟩
          unfold m1_ast
          simp only [b1]
          rw [if_pos ⟨rfl, in_t hx⟩]
      · cases h
    · rename_i n r ef
      obtain ⟨a, a1, a2, rfl⟩ := h2.row (nf (Or.inl (by rw [ef]))).1 (nf (Or.inl (by rw [ef]))).2
      obtain ⟨cell, b1, b2⟩ := hI.row a1 a2
      rw [ef] at b2
      obtain ⟨g, rfl, g2⟩ := b2
      split at h
      · rename_i hx
        cases et : Nat.beq t 1 with
        | false => rw [et] at h; cases h
        | true =>
          rw [et] at h
          cases h
          have ht := Nat.eq_of_beq_eq_true et
          subst ht
          refine ⟨m, none, w.set a (.inr (.inl (1, n, am_u g x.toNat (ji2b v)))), Nat.le_refl _, ?_, row_st (q := (r.1, r.2, 0, 0, 0)) hI a1 a2 ef g2 (by omega), trivial⟩
          unfold m1_ast
          simp only [b1]
          rw [if_pos ⟨rfl, in_t hx⟩]
      · cases h
    · rename_i n r ef
      obtain ⟨a, a1, a2, rfl⟩ := h2.row (nf (Or.inl (by rw [ef]))).1 (nf (Or.inl (by rw [ef]))).2
      obtain ⟨cell, b1, b2⟩ := hI.row a1 a2
      rw [ef] at b2
      obtain ⟨g, rfl, g2⟩ := b2
      split at h
      · rename_i hx
        split at h
        · rename_i ht
          cases h
          obtain ⟨rfl, hv⟩ := ht
          refine ⟨m, none, w.set a (.inr (.inl (2, n, am_u g x.toNat v))), Nat.le_refl _, ?_, row_st (q := (r.1, r.2, 0, 0, 0)) hI a1 a2 ef g2 (by omega), trivial⟩
          unfold m1_ast
          simp only [b1]
          rw [if_pos ⟨rfl, in_t hx⟩, if_pos hv]
        · cases h
      · cases h
    · cases h
  · rename_i f i x v
    obtain ⟨w1, w2, w3, rfl, h1, h3, h4⟩ := lR3 hS
    obtain ⟨q, rfl, h2⟩ := h1.ref
    obtain rfl := h3.int
    obtain rfl := h4.long
    split at h
    · rename_i n r ef
      obtain ⟨a, a1, a2, rfl⟩ := h2.row (nf (Or.inl (by rw [ef]))).1 (nf (Or.inl (by rw [ef]))).2
      obtain ⟨cell, b1, b2⟩ := hI.row a1 a2
      rw [ef] at b2
      obtain ⟨g, rfl, g2⟩ := b2
      split at h
      · rename_i hx
        cases et : Nat.beq t 3 with
        | false => rw [et] at h; cases h
        | true =>
          rw [et] at h
          cases h
          have ht := Nat.eq_of_beq_eq_true et
          subst ht
          refine ⟨m, none, w.set a (.inr (.inl (3, n, am_u g x.toNat v))), Nat.le_refl _, ?_, row_st (q := (r.1, r.2, 0, 0, 0)) hI a1 a2 ef g2 (by omega), trivial⟩
          unfold m1_ast
          simp only [b1]
          rw [if_pos ⟨trivial, trivial, in_t hx⟩]
      · cases h
    · cases h
  · rename_i f i x c j
    obtain ⟨w1, w2, w3, rfl, h1, h3, h4⟩ := lR3 hS
    obtain ⟨q, rfl, h2⟩ := h1.ref
    obtain rfl := h3.int
    obtain ⟨p, rfl, h5⟩ := h4.ref
    split at h
    · rename_i c' n r ef
      have hk : (am_fk f).1 = 2 ∨ (am_fk f).1 = 7 := Or.inr (by rw [ef])
      obtain ⟨a, a1, a2, rfl⟩ := h2.row (nf hk).1 (nf hk).2
      obtain ⟨cell, b1, b2⟩ := hI.row a1 a2
      rw [ef] at b2
      obtain ⟨g, rfl, g2⟩ := b2
      split at h
      · rename_i hx
        cases et : (Nat.beq t 4 && Nat.beq c c' && !(Nat.beq j 0)) with
        | false => rw [et] at h; cases h
        | true =>
          rw [et] at h
          cases h
          rw [Bool.and_eq_true, Bool.and_eq_true] at et
          have ht := Nat.eq_of_beq_eq_true et.1.1
          have hc := Nat.eq_of_beq_eq_true et.1.2
          have hj : j ≠ 0 := fun e => by
            subst e
            have := et.2
            cases this
          subst ht
          subst hc
          have hcls : c < 13 := by
            have hck : (am_fkA.all fun x => !(Nat.beq x.2.1 7) || Nat.blt x.2.2.1 13) = true := by decide +kernel
            have := List.all_eq_true.mp hck _ (fk_mem ef (by dsimp only; omega))
            dsimp only at this
            rcases Bool.or_eq_true _ _ ▸ this with g | g
            · cases g
            · exact Nat.le_of_ble_eq_true g
          obtain ⟨b, e1, e2, rfl⟩ := h5.obj hcls
          obtain ⟨fs, d1, d2, d3⟩ := hI.obj e1 e2 hcls
          refine ⟨m, none, w.set a (.inr (.inr (100 + c, n, am_uq g x.toNat (some b)))), Nat.le_refl _, ?_, hI.upd a1 a2 ?_ (fun y cell hy hcell => hcell.str hk hy) (by rw [st2_ne (by have := fk_n9 hk; omega)]), trivial⟩
          · unfold m1_ast
            simp only [b1, d1]
            rw [if_pos ⟨trivial, trivial, in_t hx⟩]
          · unfold CL
            rw [if_neg (show ¬ 2000 + f < 2000 by omega), show (2000 + f, i).1 - 2000 = f by dsimp only; omega, ef]
            refine ⟨_, rfl, fun l hl => ?_⟩
            show (st2 s f i x.toNat (j : Int) f i l = 0 ∧ _) ∨ (st2 s f i x.toNat (j : Int) f i l ≠ 0 ∧ ∃ p, _ ∧ VM m (false, c, (st2 s f i x.toNat (j : Int) f i l).toNat) _)
            unfold am_uq
            rw [st2_d]
            by_cases e : l = x.toNat
            · rw [if_pos e, if_pos ⟨rfl, rfl, e⟩]
              refine Or.inr ⟨by omega, b, rfl, ?_⟩
              rw [Int.toNat_natCast]
              exact h5
            · rw [if_neg e, if_neg (fun w => e w.2.2)]
              exact g2 l hl
      · cases h
    · cases h
  · cases h
theorem mS_len {X : X2} {t : Nat} : mS X 4 t := by
  intro m s s' w S T rv hI hS h0
  have h : m2_len X S s = some (rv, s') := h0
  show ∃ c' rw b', m ≤ c' ∧ m1_len am_T X.1 T w = some (rw, b') ∧ SM c' s' b' ∧ oV (VM c') rv rw
  unfold m2_len at h
  split at h
  · rename_i f i
    obtain ⟨w1, rfl, h1⟩ := lR1 hS
    obtain ⟨q, rfl, h2⟩ := h1.ref
    cases e1 : Nat.beq f 6000 with
    | true =>
      rw [e1] at h
      simp only [cond_true] at h
      have := Nat.eq_of_beq_eq_true e1
      subst this
      split at h
      · rename_i hx
        cases h
        obtain ⟨-, rfl⟩ := h2.scr
        refine ⟨m, some (vI X.1), w, Nat.le_refl _, ?_, hI, rfl⟩
        unfold m1_len
        simp only
        rw [if_pos ⟨trivial, hx.2⟩]
      · cases h
    | false =>
      rw [e1] at h
      simp only [cond_false] at h
      have n1 : f ≠ 6000 := fun w => by rw [w] at e1; cases e1
      cases e2 : Nat.beq f 6002 with
      | true =>
        rw [e2] at h
        simp only [cond_true] at h
        have := Nat.eq_of_beq_eq_true e2
        subst this
        split at h
        · rename_i hx
          cases h
          obtain ⟨-, rfl⟩ := h2.txt
          refine ⟨m, some (vI (m2_tb i).length), w, Nat.le_refl _, ?_, hI, rfl⟩
          have hT : ∀ j : Fin 23, (m2_tb j.val).length ≤ 100000 := fun j => by have := (lenk j).1; omega
          have hT2 : am_T.length = 23 := by decide +kernel
          unfold m1_len
          simp only
          rw [if_neg (by omega), if_pos (by omega), show 1001 + i - 1001 = i by omega, T_at hx]
          simp only
          rw [if_pos (hT ⟨i, by omega⟩)]
        · cases h
      | false =>
        rw [e2] at h
        simp only [cond_false] at h
        have n2 : f ≠ 6002 := fun w => by rw [w] at e2; cases e2
        obtain ⟨a, a1, a2, rfl⟩ := h2.row n1 n2
        obtain ⟨cell, b1, b2⟩ := hI.row a1 a2
        have hok := @fk_ok f _ rfl
        have hn : ∀ r : am_K5, am_fk f = r → r.1 ≠ 9 → r.2.2.1 ≤ 100000 := fun r e h9 => by
          subst e
          exact (hok h9).2.1
        split at h
        · rename_i t' n r ef
          rw [ef] at b2
          obtain ⟨g, rfl, g2⟩ := b2
          cases h
          refine ⟨m, some (vI n), w, Nat.le_refl _, ?_, hI, rfl⟩
          unfold m1_len
          simp only [b1]
          rw [if_pos (hn _ ef (by dsimp only; omega))]
        · rename_i c n r ef
          rw [ef] at b2
          obtain ⟨a', b'⟩ := r
          obtain ⟨g, rfl, g2⟩ := b2
          cases h
          refine ⟨m, some (vI n), w, Nat.le_refl _, ?_, hI, rfl⟩
          unfold m1_len
          simp only [b1]
          rw [if_pos (hn _ ef (by dsimp only; omega))]
        · rename_i c n r ef
          rw [ef] at b2
          obtain ⟨g, rfl, g2⟩ := b2
          cases h
          refine ⟨m, some (vI n), w, Nat.le_refl _, ?_, hI, rfl⟩
          unfold m1_len
          simp only [b1]
          rw [if_pos (hn _ ef (by dsimp only; omega))]
        · rename_i c n r ef
          rw [ef] at b2
          obtain ⟨g, rfl, g2⟩ := b2
          cases h
          refine ⟨m, some (vI n), w, Nat.le_refl _, ?_, hI, rfl⟩
          unfold m1_len
          simp only [b1]
          rw [if_pos (hn _ ef (by dsimp only; omega))]
        · cases h
  · cases h
theorem mS_cpy {X : X2} {t : Nat} : mS X 10 t := by
  intro m s s' w S T rv hI hS h0
  have h : m2_cpy S s = some (rv, s') := h0
  show ∃ c' rw b', m ≤ c' ∧ m1_cpy T w = some (rw, b') ∧ SM c' s' b' ∧ oV (VM c') rv rw
  have nf : ∀ {f : Nat}, (am_fk f).1 = 2 ∨ (am_fk f).1 = 7 → f ≠ 6000 ∧ f ≠ 6002 := fun {f} h => by
    refine ⟨fun e => ?_, fun e => ?_⟩
    · subst e
      obtain ⟨-, -, k⟩ := fk_ok (f := 6000) rfl (by omega)
      omega
    · subst e
      obtain ⟨-, -, k⟩ := fk_ok (f := 6002) rfl (by omega)
      omega
  unfold m2_cpy at h
  split at h
  · rename_i f i sp g j dp n
    obtain ⟨w1, z1, rfl, h1, hS1⟩ := hS.cons
    obtain ⟨w2, z2, rfl, h2, hS2⟩ := hS1.cons
    obtain ⟨w3, w4, w5, rfl, h3, h4, h5⟩ := lR3 hS2
    obtain ⟨q, rfl, h6⟩ := h1.ref
    obtain rfl := h2.int
    obtain ⟨q2, rfl, h7⟩ := h3.ref
    obtain rfl := h4.int
    obtain rfl := h5.int
    split at h
    · rename_i n0 r0 n1 r1 ef eg
      have kf : (am_fk f).1 = 2 ∨ (am_fk f).1 = 7 := Or.inl (by rw [ef])
      have kg : (am_fk g).1 = 2 ∨ (am_fk g).1 = 7 := Or.inl (by rw [eg])
      obtain ⟨a, a1, a2, rfl⟩ := h6.row (nf kf).1 (nf kf).2
      obtain ⟨b, e1, e2, rfl⟩ := h7.row (nf kg).1 (nf kg).2
      obtain ⟨cell, b1, b2⟩ := hI.row a1 a2
      obtain ⟨cell2, d1, d2⟩ := hI.row e1 e2
      rw [ef] at b2
      rw [eg] at d2
      obtain ⟨u, rfl, u2⟩ := b2
      obtain ⟨v, rfl, v2⟩ := d2
      split at h
      · rename_i hx
        cases h
        obtain ⟨x1, x2, x3, x4, x5⟩ := hx
        refine ⟨m, none, w.set b (.inr (.inl (0, n1, am_cp u v sp.toNat dp.toNat n.toNat))), Nat.le_refl _, ?_, hI.upd e1 e2 ?_ (fun y cell hy hcell => hcell.cpr (by rw [eg]) hy) ?_, trivial⟩
        · unfold m1_cpy
          simp only [b1, d1]
          rw [if_pos ⟨trivial, trivial, x1, x2, x3, by omega, by omega⟩]
        · unfold CL
          rw [if_neg (show ¬ 2000 + g < 2000 by omega), show (2000 + g, j).1 - 2000 = g by dsimp only; omega, eg]
          refine ⟨_, rfl, fun l hl => ?_⟩
          show _ = cp2 s f i sp.toNat g j dp.toNat n.toNat g j l
          unfold am_cp cp2
          by_cases c : dp.toNat ≤ l ∧ l < dp.toNat + n.toNat
          · rw [if_pos c, if_pos ⟨rfl, rfl, c.1, c.2⟩, u2 _ (by omega)]
          · rw [if_neg c, if_neg (fun w => c ⟨w.2.2.1, w.2.2.2⟩), v2 l hl]
        · unfold cp2
          rw [if_neg]
          rintro ⟨e, -⟩
          exact fk_n9 kg e.symm
      · cases h
    · cases h
  · cases h
theorem mS_all {X : X2} (kind idx : Nat) (hk : kind ≠ 30) : mS X kind idx := by
  by_cases k0 : kind = 0
  · subst k0; exact mS_get
  by_cases k1 : kind = 1
  · subst k1; exact mS_put
  by_cases k2 : kind = 2
  · subst k2; exact mS_ald
  by_cases k3 : kind = 3
  · subst k3; exact mS_ast
  by_cases k4 : kind = 4
  · subst k4; exact mS_len
  by_cases k10 : kind = 10
  · subst k10; exact mS_cpy
  intro m s s' w S T rv hI hS h
  unfold m2 at h
  split at h
  · exact absurd rfl k0
  · exact absurd rfl k1
  · exact absurd rfl k2
  · exact absurd rfl k3
  · exact absurd rfl k4
  · split at h
    · split at h
      · rename_i hi
        cases h
        obtain rfl := hS.nil
        refine ⟨m, some (vR (.inr (idx + 1))), w, Nat.le_refl _, ?_, hI, Or.inr (Or.inl ⟨rfl, rfl, hi, rfl⟩)⟩
        show (if idx < am_T.length then some (some (vR (Sum.inr (idx + 1) : R1)), w) else none) = _
        rw [if_pos hi]
      · cases h
    · cases h
  · exact absurd rfl k10
  · split at h
    · cases h
      obtain ⟨w1, w2, rfl, h1, h2⟩ := lR2 hS
      obtain rfl := h1.int
      obtain rfl := h2.int
      exact ⟨m, _, w, Nat.le_refl _, rfl, hI, rfl⟩
    · cases h
  · split at h
    · cases h
      obtain ⟨w1, w2, rfl, h1, h2⟩ := lR2 hS
      obtain rfl := h1.int
      obtain rfl := h2.int
      exact ⟨m, _, w, Nat.le_refl _, rfl, hI, rfl⟩
    · cases h
  · split at h
    · rename_i c i
      cases ec : Nat.beq c (am_o idx) with
      | false => rw [ec] at h; cases h
      | true =>
        rw [ec] at h
        cases h
        have hc := Nat.eq_of_beq_eq_true ec
        have h99 := oc_99 (k := idx)
        obtain ⟨w1, rfl, h1⟩ := lR1 hS
        obtain ⟨q, rfl, h2⟩ := h1.ref
        rcases h2.cls with k | ⟨k, k', rfl⟩ | k
        · obtain ⟨a, a1, a2, rfl⟩ := h2.obj k
          obtain ⟨fs, b1, b2, b3⟩ := hI.obj a1 a2 k
          refine ⟨m, none, w, Nat.le_refl _, ?_, hI, trivial⟩
          show (match w[a]? with
            | some (.inl (c, _)) => if c = am_o idx then some (none, w) else none
            | _ => none) = _
          rw [b1]
          exact if_pos hc
        · refine ⟨m, none, w, Nat.le_refl _, ?_, hI, trivial⟩
          show (if 1 ≤ i + 1 ∧ i + 1 ≤ am_T.length ∧ am_o idx = 16 then some (none, w) else none) = _
          rw [if_pos ⟨by omega, by omega, by omega⟩]
        · omega
    · cases h
  · split at h
    · obtain rfl := hS.nil
      split at h
      · cases h
        exact ⟨m, _, w, Nat.le_refl _, rfl, hI, rfl⟩
      · cases h
        refine ⟨m, some (if X.2 1000000 = 0 then vN else vR (.inr 5000)), w, Nat.le_refl _, rfl, hI, ?_⟩
        by_cases y : X.2 1000000 = 0
        · rw [if_pos y, if_pos y]
          trivial
        · rw [if_neg y, if_neg y]
          exact Or.inr (Or.inr (Or.inl ⟨rfl, rfl, rfl⟩))
      · cases h
    · cases h
  · split at h
    · rename_i c i
      cases ec : Nat.beq c 16 with
      | false => rw [ec] at h; cases h
      | true =>
        rw [ec] at h
        have hc := Nat.eq_of_beq_eq_true ec
        subst hc
        obtain ⟨w1, rfl, h1⟩ := lR1 hS
        obtain ⟨q, rfl, h2⟩ := h1.ref
        rcases h2.cls with k | ⟨-, k', rfl⟩ | k
        · omega
        · simp only [cond_true] at h
          split at h
          · cases h
            refine ⟨m, some (vR (.inr (1000 + (i + 1)))), w, Nat.le_refl _, ?_, hI, Or.inr (Or.inr (Or.inr (Or.inr (Or.inr ⟨rfl, rfl, k', by rw [show 1000 + (i + 1) = 1001 + i by omega]⟩))))⟩
            show (if 1 ≤ i + 1 ∧ i + 1 ≤ am_T.length then some (some (vR (Sum.inr (1000 + (i + 1)) : R1)), w) else none) = _
            rw [if_pos (by omega)]
          · cases h
            refine ⟨m, some (vI 0), w, Nat.le_refl _, ?_, hI, rfl⟩
            show (if 1 ≤ i + 1 ∧ i + 1 ≤ am_T.length then some (some (vI 0), w) else none) = _
            rw [if_pos (by omega)]
          · cases h
        · omega
    · cases h
  · exact absurd rfl hk
  · cases h
