/-! WHAT IS ASKED of the two memories -/
theorem lR1 {α β : Type} {R : α → β → Prop} {a : α} {y : List β} (h : lR R [a] y) : ∃ b, y = [b] ∧ R a b := by
  obtain ⟨b, z, rfl, h1, h2⟩ := h.cons
  obtain rfl := h2.nil
  exact ⟨b, rfl, h1⟩
theorem lR2 {α β : Type} {R : α → β → Prop} {a b : α} {y : List β} (h : lR R [a, b] y) : ∃ a' b', y = [a', b'] ∧ R a a' ∧ R b b' := by
  obtain ⟨a', z, rfl, h1, h2⟩ := h.cons
  obtain ⟨b', rfl, h3⟩ := lR1 h2
  exact ⟨a', b', rfl, h1, h3⟩
theorem lR3 {α β : Type} {R : α → β → Prop} {a b c : α} {y : List β} (h : lR R [a, b, c] y) : ∃ a' b' c', y = [a', b', c'] ∧ R a a' ∧ R b b' ∧ R c c' := by
  obtain ⟨a', z, rfl, h1, h2⟩ := h.cons
  obtain ⟨b', c', rfl, h3, h4⟩ := lR2 h2
  exact ⟨a', b', c', rfl, h1, h3, h4⟩
theorem fld_9 {s : S2} {f i : Nat} {v : AV R2} (h : m2_fld s f i (am_fk f) = some v) : (am_fk f).1 ≠ 9 := fun w => by
  generalize am_fk f = r at h w
  obtain ⟨k, r⟩ := r
  dsimp only at w
  subst w
  cases h
theorem m2_o {f : Nat} (h : (am_fk f).1 ≠ 9) : f / 128 < 13 ∨ f / 128 = 23 := by
  obtain ⟨-, -, h3⟩ := fk_ok rfl h
  rcases h3 with ⟨h3, -⟩ | ⟨h3, -⟩
  · exact Or.inr (by omega)
  · exact Or.inl h3
theorem VM23 {m i : Nat} {q : R1} (h : VM m (false, 23, i) q) : False := by
  rcases h.cls with h | ⟨h, -⟩ | h <;> omega
def mS (X : X2) (kind idx : Nat) : Prop := memS VM SM (m2 X) (m1 am_ft am_T X.1 X.2) kind idx
theorem mS_get {X : X2} {f : Nat} : mS X 0 f := by
  intro m s s' w S T rv hI hS h0
  have h : m2_get f S s = some (rv, s') := h0
  show ∃ c' rw b', m ≤ c' ∧ m1_get f T w = some (rw, b') ∧ SM c' s' b' ∧ oV (VM c') rv rw
  unfold m2_get at h
  split at h
  · rename_i c i
    cases e : Nat.beq c (f / 128) with
    | false => rw [e] at h; cases h
    | true =>
      rw [e] at h
      have hc := Nat.eq_of_beq_eq_true e
      obtain ⟨w1, rfl, h1⟩ := lR1 hS
      obtain ⟨q, rfl, h2⟩ := h1.ref
      simp only [cond_true] at h
      cases ef : m2_fld s f i (am_fk f) with
      | none => rw [ef] at h; cases h
      | some v =>
        rw [ef] at h
        cases h
        have h9 := fld_9 ef
        have h13 : c < 13 := by
          rcases m2_o h9 with k | k
          · omega
          · rw [hc, k] at h2
            exact (VM23 h2).elim
        obtain ⟨a, a1, a2, rfl⟩ := h2.obj h13
        obtain ⟨fs, b1, b2, b3⟩ := hI.obj a1 a2 h13
        have hf : 128 * c + f % 128 = f := by omega
        have hlen : f % 128 < fs.length := by
          obtain ⟨-, -, k⟩ := fk_ok rfl h9
          rcases k with ⟨k, -⟩ | ⟨-, k⟩
          · omega
          · rw [b2, hc]
            exact (List.getElem?_eq_some_iff.mp k).1
        obtain ⟨v1, v', k1, k2, k3⟩ := b3 _ hlen
        rw [hf, ef] at k1
        cases k1
        refine ⟨m, some v', w, Nat.le_refl _, ?_, hI, k3⟩
        unfold m1_get
        simp only [b1, if_pos hc.symm, k2]
  · cases h
theorem mS_put {X : X2} {f : Nat} : mS X 1 f := by
  intro m s s' w S T rv hI hS h0
  have h : m2_put f S s = some (rv, s') := h0
  show ∃ c' rw b', m ≤ c' ∧ m1_put am_ft f T w = some (rw, b') ∧ SM c' s' b' ∧ oV (VM c') rv rw
  -- what is common: the field of object i takes v, written x in the second memory
  have key : ∀ (c i : Nat) (q : R1) (v : AV R1) (x : Int) (t : Nat), c = f / 128 → VM m (false, c, i) q → (am_fk f).1 ≠ 9 → ((am_fk f).1 = 0 ∨ (am_fk f).1 = 1 ∨ (am_fk f).1 = 4) → (am_ft (f / 128))[f % 128]? = some t → am_fit t v = true → (∃ u, m2_fld (st2 s f i 0 x) f i (am_fk f) = some u ∧ aV (VM m) u v) → ∃ w', m1_put am_ft f [.inr (.inr (some q)), v] w = some (none, w') ∧ SM m (st2 s f i 0 x) w' := by
    intro c i q v x t hc h2 h9 hk ht hfit hu
    have h13 : c < 13 := by
      rcases m2_o h9 with k | k
      · omega
      · rw [hc, k] at h2
        exact (VM23 h2).elim
    obtain ⟨a, a1, a2, rfl⟩ := h2.obj h13
    obtain ⟨fs, b1, b2, b3⟩ := hI.obj a1 a2 h13
    have hf : 128 * c + f % 128 = f := by omega
    have hlen : f % 128 < fs.length := by
      rw [b2, hc]
      exact (List.getElem?_eq_some_iff.mp ht).1
    have h128 := ft_128 (c := c)
    refine ⟨w.set a (.inl (c, fs.set (f % 128) v)), ?_, hI.upd a1 a2 ?_ (fun y cell hy hcell => hcell.sto hk (by rw [← hc]; exact hy)) ?_⟩
    · unfold m1_put
      simp only [b1, if_pos (show f / 128 = c ∧ f % 128 < fs.length from ⟨hc.symm, hlen⟩)]
      rw [hc, ht]
      simp only [hfit, if_true]
    · unfold CL
      rw [if_pos (show c < 2000 by omega)]
      refine ⟨_, rfl, by rw [List.length_set]; exact b2, fun j hj => ?_⟩
      rw [List.length_set] at hj
      by_cases e : j = f % 128
      · subst e
        obtain ⟨u, u1, u2⟩ := hu
        rw [hf]
        exact ⟨u, v, u1, by rw [List.getElem?_set_self hj], u2⟩
      · obtain ⟨v1, v', k1, k2, k3⟩ := b3 j hj
        refine ⟨v1, v', ?_, by rw [List.getElem?_set_ne (fun w => e w.symm)]; exact k2, k3⟩
        rw [← k1]
        refine fld_c fun _ => ?_
        rw [st2_ne (by omega)]
    · have : f ≠ 9999 := fun e => by
        subst e
        obtain ⟨-, -, k⟩ := fk_ok rfl h9
        omega
      rw [st2_ne (by omega)]
  unfold m2_put at h
  split at h
  · rename_i c i v
    cases e : Nat.beq c (f / 128) with
    | false => rw [e] at h; cases h
    | true =>
      rw [e] at h
      have hc := Nat.eq_of_beq_eq_true e
      obtain ⟨w1, w2, rfl, h1, h3⟩ := lR2 hS
      obtain ⟨q, rfl, h2⟩ := h1.ref
      obtain rfl := h3.int
      simp only [cond_true] at h
      have hok := @fk_ok f _ rfl
      split at h
      · rename_i r ef
        cases h
        rw [ef] at hok
        obtain ⟨-, -, k⟩ := hok (by dsimp only; omega)
        rcases k with ⟨-, k⟩ | ⟨-, k⟩
        · cases k
        · obtain ⟨w', x1, x2⟩ := key c i q (.inl v) v 0 hc h2 (by rw [ef]; dsimp only; omega) (Or.inl (by rw [ef])) k rfl ⟨vI v, by rw [ef]; show some (vI (st2 s f i 0 v f i 0)) = _; rw [st2_eq], rfl⟩
          exact ⟨m, none, w', Nat.le_refl _, x1, x2, trivial⟩
      · rename_i r ef
        split at h
        · rename_i hv
          cases h
          rw [ef] at hok
          obtain ⟨-, -, k⟩ := hok (by dsimp only; omega)
          rcases k with ⟨-, k⟩ | ⟨-, k⟩
          · cases k
          · obtain ⟨w', x1, x2⟩ := key c i q (.inl v) v 1 hc h2 (by rw [ef]; dsimp only; omega) (Or.inr (Or.inl (by rw [ef]))) k (decide_eq_true hv) ⟨vI v, by rw [ef]; show some (vI (st2 s f i 0 v f i 0)) = _; rw [st2_eq], rfl⟩
            exact ⟨m, none, w', Nat.le_refl _, x1, x2, trivial⟩
        · cases h
      · cases h
  · rename_i c i d j
    cases e : Nat.beq c (f / 128) with
    | false => rw [e] at h; cases h
    | true =>
      rw [e] at h
      have hc := Nat.eq_of_beq_eq_true e
      obtain ⟨w1, w2, rfl, h1, h3⟩ := lR2 hS
      obtain ⟨q, rfl, h2⟩ := h1.ref
      obtain ⟨p, rfl, h4⟩ := h3.ref
      simp only [cond_true] at h
      have hok := @fk_ok f _ rfl
      split at h
      · rename_i d' r ef
        cases ed : Nat.beq d d' with
        | false => rw [ed] at h; cases h
        | true =>
          rw [ed] at h
          have hd := Nat.eq_of_beq_eq_true ed
          cases h
          rw [ef] at hok
          obtain ⟨-, -, k⟩ := hok (by dsimp only; omega)
          rcases k with ⟨-, k⟩ | ⟨-, k⟩
          · cases k
          · obtain ⟨w', x1, x2⟩ := key c i q (.inr (.inr (some p))) (j : Int) 2 hc h2 (by rw [ef]; dsimp only; omega) (Or.inr (Or.inr (by rw [ef]))) k rfl ⟨oR d' j, by
              rw [ef]
              show some (oR d' (st2 s f i 0 (j : Int) f i 0).toNat) = _
              rw [st2_eq, Int.toNat_natCast], by rw [← hd]; exact h4⟩
            exact ⟨m, none, w', Nat.le_refl _, x1, x2, trivial⟩
      · cases h
  · cases h
theorem in_t {x : Int} {n : Nat} (h : 0 ≤ x ∧ x < n) : am_in x n = true := decide_eq_true h
theorem T_at {i : Nat} (h : i < am_T.length) : am_T[i]? = some (m2_tb i) := by
  unfold m2_tb
  rw [List.getD_eq_getElem?_getD, List.getElem?_eq_getElem h]
  rfl
theorem mS_ald {X : X2} {t : Nat} : mS X 2 t := by
  intro m s s' w S T rv hI hS h0
  have h : m2_ald X t S s = some (rv, s') := h0
  show ∃ c' rw b', m ≤ c' ∧ m1_ald am_T X.1 X.2 t T w = some (rw, b') ∧ SM c' s' b' ∧ oV (VM c') rv rw
  unfold m2_ald at h
  split at h
  · rename_i f i x
    obtain ⟨w1, w2, rfl, h1, h3⟩ := lR2 hS
    obtain ⟨q, rfl, h2⟩ := h1.ref
    obtain rfl := h3.int
    cases e1 : Nat.beq f 6000 with
    | true =>
      rw [e1] at h
      simp only [cond_true] at h
      have := Nat.eq_of_beq_eq_true e1
      subst this
      split at h
      · rename_i hx
        split at h
        · rename_i ht
          cases h
          obtain ⟨-, rfl⟩ := h2.scr
          refine ⟨m, some (vI (X.2 x.toNat)), w, Nat.le_refl _, ?_, hI, rfl⟩
          unfold m1_ald
          simp only
          rw [if_pos ⟨trivial, ht.2, in_t hx⟩]
        · cases h
      · cases h
    | false =>
      rw [e1] at h
      simp only [cond_false] at h
      have n1 : f ≠ 6000 := fun w => by rw [w] at e1; cases e1
      cases e2 : Nat.beq f 6002 with
      | true =>
        rw [e2] at h
        simp only [cond_true] at h
        have := Nat.eq_of_beq_eq_true e2
        subst this
        split at h
        · rename_i hx
          split at h
          · rename_i ht
            cases h
            obtain ⟨-, rfl⟩ := h2.txt
            refine ⟨m, some (vI (Int.ofNat ((m2_tb i).getD x.toNat 0))), w, Nat.le_refl _, ?_, hI, rfl⟩
            unfold m1_ald
            simp only
            rw [if_neg (by omega), if_pos ⟨by omega, ht.2⟩, show 1001 + i - 1001 = i by omega, T_at ht.1]
            simp only
            rw [if_pos (in_t hx)]
          · cases h
        · cases h
      | false =>
        rw [e2] at h
        simp only [cond_false] at h
        have n2 : f ≠ 6002 := fun w => by rw [w] at e2; cases e2
        obtain ⟨a, a1, a2, rfl⟩ := h2.row n1 n2
        obtain ⟨cell, b1, b2⟩ := hI.row a1 a2
        split at h
        · rename_i t' n r ef
          rw [ef] at b2
          obtain ⟨g, rfl, g2⟩ := b2
          split at h
          · rename_i hx
            cases et : am_tm t' t with
            | false => rw [et] at h; cases h
            | true =>
              rw [et] at h
              cases h
              have gx := g2 x.toNat (by omega)
              refine ⟨m, some (if t' = 3 then vL (g x.toNat) else vI (g x.toNat)), w, Nat.le_refl _, ?_, hI, ?_⟩
              · unfold m1_ald
                simp only [b1]
                rw [if_pos ⟨et, in_t hx⟩]
              · rw [gx]
                cases e3 : Nat.beq t' 3 with
                | true => rw [if_pos (Nat.eq_of_beq_eq_true e3)]; exact rfl
                | false => rw [if_neg (fun w => by rw [w] at e3; cases e3)]; exact rfl
          · cases h
        · rename_i c n p q ef
          rw [ef] at b2
          obtain ⟨g, rfl, g2⟩ := b2
          split at h
          · rename_i hx
            cases et : Nat.beq t 4 with
            | false => rw [et] at h; cases h
            | true =>
              rw [et] at h
              cases h
              have ht := Nat.eq_of_beq_eq_true et
              obtain ⟨p', p1, p2⟩ := g2 x.toNat (by omega)
              refine ⟨m, some (vR (.inl p')), w, Nat.le_refl _, ?_, hI, p2⟩
              unfold m1_ald
              simp only [b1]
              rw [if_pos ⟨ht, in_t hx⟩, p1]
              rfl
          · cases h
        · rename_i c n r ef
          rw [ef] at b2
          obtain ⟨g, rfl, g2⟩ := b2
          split at h
          · rename_i hx
            cases et : Nat.beq t 4 with
            | false => rw [et] at h; cases h
            | true =>
              rw [et] at h
              cases h
              have ht := Nat.eq_of_beq_eq_true et
              obtain ⟨p', p1, p2⟩ := g2 x.toNat (by omega)
              refine ⟨m, some (vR (.inl p')), w, Nat.le_refl _, ?_, hI, p2⟩
              unfold m1_ald
              simp only [b1]
              rw [if_pos ⟨ht, in_t hx⟩, p1]
              rfl
          · cases h
        · rename_i c n r ef
          rw [ef] at b2
          obtain ⟨g, rfl, g2⟩ := b2
          split at h
          · rename_i hx
            cases et : Nat.beq t 4 with
            | false => rw [et] at h; cases h
            | true =>
              rw [et] at h
              cases h
              have ht := Nat.eq_of_beq_eq_true et
              rcases g2 x.toNat (by omega) with ⟨p0, p1⟩ | ⟨p0, p', p1, p2⟩
              · refine ⟨m, some vN, w, Nat.le_refl _, ?_, hI, ?_⟩
                · unfold m1_ald
                  simp only [b1]
                  rw [if_pos ⟨ht, in_t hx⟩, p1]
                  rfl
                · rw [if_pos p0]
                  trivial
              · refine ⟨m, some (vR (.inl p')), w, Nat.le_refl _, ?_, hI, ?_⟩
                · unfold m1_ald
                  simp only [b1]
                  rw [if_pos ⟨ht, in_t hx⟩, p1]
                  rfl
                · rw [if_neg p0]
                  exact p2
          · cases h
        · cases h
  · cases h
