/-! THE MADE CELLS lie as the layout says -/
def atL (l : List (Nat × Nat)) (a c i : Nat) : Bool := match l[a]? with
  | some x => Nat.beq x.1 c && Nat.beq x.2 i
  | none => false
def ckV (l : List (Nat × Nat)) : AV R2 → AV R1 → Bool
  | .inl x, .inl y => ieq x y
  | .inr (.inr (some (false, c, i))), .inr (.inr (some (.inl a))) => Nat.blt c 13 && atL l a c i
  | .inr (.inr (some (true, f, i))), .inr (.inr (some (.inl a))) => !(Nat.beq f 6000 || Nat.beq f 6002) && atL l a (2000 + f) i
  | _, _ => false
def ckO (s : S2) (l : List (Nat × Nat)) (c i : Nat) : Nat → List (AV R1) → Bool
  | _, [] => true
  | j, v' :: r => (match m2_fld s (128 * c + j) i (am_fk (128 * c + j)) with
    | some v => ckV l v v'
    | none => false) && ckO s l c i (j + 1) r
def ckT (l : List (Nat × Nat)) (c : Nat) (tg : Nat → Nat) : Nat → List (Option Nat) → Bool
  | _, [] => true
  | k, some p :: r => atL l p c (tg k) && ckT l c tg (k + 1) r
  | _, none :: _ => false
def ckZ (g : Nat → Int) : Nat → List (Option Nat) → Bool
  | _, [] => true
  | k, none :: r => ieq (g k) 0 && ckZ g (k + 1) r
  | _, some _ :: _ => false
def ckR (s : S2) (l : List (Nat × Nat)) (f i : Nat) : am_K5 → TD → Bool
  | (2, t, n, _), .inr (.inl (t', n', d, ex)) => Nat.beq t t' && (Nat.beq n n' && ckI (fun k => s f i k) ex d n)
  | (5, c, n, a, b), .inr (.inr (t, ps)) => Nat.blt c 13 && (Nat.beq t (100 + c) && (Nat.beq ps.length n && ckT l c (fun k => am_el a i b k) 0 ps))
  | (6, _, n, _), .inr (.inr (t, ps)) => Nat.beq t 99 && (Nat.beq ps.length n && ckT l 5000 (fun k => k) 0 ps)
  | (7, c, n, _), .inr (.inr (t, ps)) => Nat.beq t (100 + c) && (Nat.beq ps.length n && ckZ (fun k => s f i k) 0 ps)
  | _, _ => false
def ckX (s : S2) (l : List (Nat × Nat)) (x : Nat × Nat) (d : TD) : Bool := bif Nat.blt x.1 2000 then (match d with
    | .inl (c, fs) => Nat.beq c x.1 && (Nat.beq fs.length (am_ft x.1).length && ckO s l x.1 x.2 0 fs)
    | _ => false)
  else ckR s l (x.1 - 2000) x.2 (am_fk (x.1 - 2000)) d
theorem atL_i {m N K a c i : Nat} (hK : N + K ≤ am_NN m) (h : atL ((am_lay.drop N).take K) a c i = true) : a + N < am_NN m ∧ am_lay[a + N]? = some (c, i) := by
  unfold atL at h
  split at h
  · rename_i x e
    rw [Bool.and_eq_true] at h
    rw [List.getElem?_take] at e
    split at e
    · rename_i hk
      rw [List.getElem?_drop, Nat.add_comm] at e
      rw [← Nat.eq_of_beq_eq_true h.1, ← Nat.eq_of_beq_eq_true h.2]
      exact ⟨by omega, e⟩
    · cases e
  · cases h
theorem ckV_i {m N K : Nat} {v : AV R2} {v' : AV R1} (hK : N + K ≤ am_NN m) (h : ckV ((am_lay.drop N).take K) v v' = true) : aV (VM m) v (shV N v') := by
  unfold ckV at h
  split at h
  · exact ieq_i h
  · rw [Bool.and_eq_true] at h
    obtain ⟨h1, h2⟩ := atL_i hK h.2
    exact Or.inl ⟨rfl, Nat.le_of_ble_eq_true h.1, _, h1, h2, rfl⟩
  · rename_i f i a
    rw [Bool.and_eq_true] at h
    obtain ⟨h1, h2⟩ := atL_i hK h.2
    refine Or.inr (Or.inr (Or.inr (Or.inl ⟨rfl, ?_, _, h1, h2, rfl⟩)))
    rintro (w | w)
    · have w : f = 6000 := w
      subst w
      cases h.1
    · have w : f = 6002 := w
      subst w
      cases h.1
  · cases h
theorem ckO_i {m N K c i : Nat} {s : S2} (hK : N + K ≤ am_NN m) : ∀ {fs : List (AV R1)} {j : Nat}, ckO s ((am_lay.drop N).take K) c i j fs = true → ∀ q v', fs[q]? = some v' → ∃ v, m2_fld s (128 * c + (j + q)) i (am_fk (128 * c + (j + q))) = some v ∧ aV (VM m) v (shV N v')
  | [], _, _, q, v', h => by cases h
  | u :: r, j, h, q, v', hq => by
    unfold ckO at h
    rw [Bool.and_eq_true] at h
    match q, hq with
    | 0, hq =>
      cases hq
      have h1 := h.1
      split at h1
      · rename_i v e
        exact ⟨v, e, ckV_i hK h1⟩
      · cases h1
    | q + 1, hq =>
      rw [show j + (q + 1) = j + 1 + q by omega]
      exact ckO_i hK h.2 q v' hq
theorem ckT_i {m N K c : Nat} {tg : Nat → Nat} (hK : N + K ≤ am_NN m) : ∀ {ps : List (Option Nat)} {k : Nat}, ckT ((am_lay.drop N).take K) c tg k ps = true → ∀ j p, ps[j]? = some p → ∃ a, p = some a ∧ a + N < am_NN m ∧ am_lay[a + N]? = some (c, tg (k + j))
  | [], _, _, j, p, h => by cases h
  | some q :: r, k, h, j, p, hp => by
    unfold ckT at h
    rw [Bool.and_eq_true] at h
    match j, hp with
    | 0, hp =>
      cases hp
      exact ⟨q, rfl, atL_i hK h.1⟩
    | j + 1, hp =>
      rw [show k + (j + 1) = k + 1 + j by omega]
      exact ckT_i hK h.2 j p hp
  | none :: r, k, h, j, p, hp => by cases h
theorem ckZ_i {g : Nat → Int} : ∀ {ps : List (Option Nat)} {k : Nat}, ckZ g k ps = true → ∀ j p, ps[j]? = some p → p = none ∧ g (k + j) = 0
  | [], _, _, j, p, h => by cases h
  | none :: r, k, h, j, p, hp => by
    unfold ckZ at h
    rw [Bool.and_eq_true] at h
    match j, hp with
    | 0, hp =>
      cases hp
      exact ⟨rfl, ieq_i h.1⟩
    | j + 1, hp =>
      rw [show k + (j + 1) = k + 1 + j by omega]
      exact ckZ_i h.2 j p hp
  | some _ :: r, k, h, j, p, hp => by cases h
theorem lt_at {ps : List (Option Nat)} {k : Nat} (h : k < ps.length) : ∃ p, ps[k]? = some p := ⟨_, List.getElem?_eq_getElem h⟩
theorem ckX_i {m N K : Nat} {s sv : S2} {x : Nat × Nat} {d : TD} {ce : C1} (hK : N + K ≤ am_NN m) (h : ckX sv ((am_lay.drop N).take K) x d = true) (hd : TDr d ce) (hs1 : x.1 < 2000 → ∀ j, j < 128 → s (128 * x.1 + j) x.2 0 = sv (128 * x.1 + j) x.2 0) (hs2 : 2000 ≤ x.1 → ∀ k, s (x.1 - 2000) x.2 k = sv (x.1 - 2000) x.2 k) : CL m s x (shC N ce) := by
  unfold ckX at h
  unfold CL
  cases e : Nat.blt x.1 2000 with
  | true =>
    have hx : x.1 < 2000 := Nat.le_of_ble_eq_true e
    rw [e] at h
    simp only [cond_true] at h
    rw [if_pos hx]
    split at h
    · rename_i c fs
      rw [Bool.and_eq_true, Bool.and_eq_true] at h
      obtain rfl := Nat.eq_of_beq_eq_true h.1
      have hd : ce = .inl (x.1, fs) := hd
      subst hd
      refine ⟨fs.map (shV N), rfl, by rw [List.length_map]; exact Nat.eq_of_beq_eq_true h.2.1, fun j hj => ?_⟩
      rw [List.length_map] at hj
      obtain ⟨v, g1, g2⟩ := ckO_i hK h.2.2 j _ (List.getElem?_eq_getElem hj)
      rw [Nat.zero_add] at g1
      have h128 := ft_128 (c := x.1)
      have := Nat.eq_of_beq_eq_true h.2.1
      refine ⟨v, _, ?_, by rw [List.getElem?_map, List.getElem?_eq_getElem hj]; rfl, g2⟩
      rw [← g1]
      exact fld_c fun _ => hs1 hx j (by omega)
    · cases h
  | false =>
    have hx : ¬ x.1 < 2000 := fun w => by rw [show Nat.blt x.1 2000 = true from Nat.ble_eq_true_of_le w] at e; cases e
    have hs2 := hs2 (by omega)
    rw [e] at h
    simp only [cond_false] at h
    rw [if_neg hx]
    generalize am_fk (x.1 - 2000) = r at h ⊢
    unfold ckR at h
    split at h
    · rename_i t n q t' n' d ex
      rw [Bool.and_eq_true, Bool.and_eq_true] at h
      obtain rfl := Nat.eq_of_beq_eq_true h.1
      obtain rfl := Nat.eq_of_beq_eq_true h.2.1
      obtain ⟨g, rfl, g2⟩ := hd
      exact ⟨g, rfl, fun k hk => by rw [g2 k hk, hs2 k, ckI_i h.2.2 k hk]⟩
    · rename_i c n a b t ps
      rw [Bool.and_eq_true, Bool.and_eq_true, Bool.and_eq_true] at h
      obtain rfl := Nat.eq_of_beq_eq_true h.2.1
      obtain rfl := Nat.eq_of_beq_eq_true h.2.2.1
      obtain ⟨g, rfl, g2⟩ := hd
      refine ⟨fun k => (g k).map (· + N), rfl, fun k hk => ?_⟩
      obtain ⟨p, hp⟩ := lt_at hk
      obtain ⟨q, rfl, k1, k2⟩ := ckT_i hK h.2.2.2 k p hp
      rw [Nat.zero_add] at k2
      refine ⟨q + N, by show (g k).map (· + N) = _; rw [g2 k _ hp]; rfl, Or.inl ⟨rfl, Nat.le_of_ble_eq_true h.1, _, k1, k2, rfl⟩⟩
    · rename_i c n q t ps
      rw [Bool.and_eq_true, Bool.and_eq_true] at h
      obtain rfl := Nat.eq_of_beq_eq_true h.1
      obtain rfl := Nat.eq_of_beq_eq_true h.2.1
      obtain ⟨g, rfl, g2⟩ := hd
      refine ⟨fun k => (g k).map (· + N), rfl, fun k hk => ?_⟩
      obtain ⟨p, hp⟩ := lt_at hk
      obtain ⟨q, rfl, k1, k2⟩ := ckT_i hK h.2.2 k p hp
      rw [Nat.zero_add] at k2
      exact ⟨q + N, by show (g k).map (· + N) = _; rw [g2 k _ hp]; rfl, Or.inr (Or.inr (Or.inr (Or.inl ⟨rfl, fun w => by
        have w : 3000 = 6000 ∨ 3000 = 6002 := w
        omega, _, k1, k2, rfl⟩)))⟩
    · rename_i c n q t ps
      rw [Bool.and_eq_true, Bool.and_eq_true] at h
      obtain rfl := Nat.eq_of_beq_eq_true h.1
      obtain rfl := Nat.eq_of_beq_eq_true h.2.1
      obtain ⟨g, rfl, g2⟩ := hd
      refine ⟨fun k => (g k).map (· + N), rfl, fun k hk => ?_⟩
      obtain ⟨p, hp⟩ := lt_at hk
      obtain ⟨rfl, k1⟩ := ckZ_i h.2.2 k p hp
      rw [Nat.zero_add] at k1
      exact Or.inl ⟨by rw [hs2 k]; exact k1, by show (g k).map (· + N) = _; rw [g2 k _ hp]; rfl⟩
    · cases h
def zall (f : Nat × Nat → TD → Bool) : List (Nat × Nat) → List TD → Bool
  | [], [] => true
  | x :: a, d :: b => f x d && zall f a b
  | _, _ => false
theorem zall_i {f : Nat × Nat → TD → Bool} : ∀ {a : List (Nat × Nat)} {b : List TD}, zall f a b = true → lR (fun x d => f x d = true) a b
  | [], [], _ => trivial
  | x :: a, d :: b, h => by
    unfold zall at h
    rw [Bool.and_eq_true] at h
    exact ⟨h.1, zall_i h.2⟩
  | [], _ :: _, h => by cases h
  | _ :: _, [], h => by cases h
