/-! THE TWO MEMORIES held against one another -/
def am_NN (m : Nat) : Nat := 347 + 169 * m
def VM (m : Nat) (r : R2) (q : R1) : Prop := (r.1 = false ∧ r.2.1 < 13 ∧ ∃ a, a < am_NN m ∧ am_lay[a]? = some (r.2.1, r.2.2) ∧ q = .inl a) ∨ (r.1 = false ∧ r.2.1 = 16 ∧ r.2.2 < am_T.length ∧ q = .inr (r.2.2 + 1)) ∨ (r.1 = false ∧ r.2.1 = 99 ∧ q = .inr 5000) ∨ (r.1 = true ∧ ¬ (r.2.1 = 6000 ∨ r.2.1 = 6002) ∧ ∃ a, a < am_NN m ∧ am_lay[a]? = some (2000 + r.2.1, r.2.2) ∧ q = .inl a) ∨ (r.1 = true ∧ r.2.1 = 6000 ∧ r.2.2 = 0 ∧ q = .inr 0) ∨ (r.1 = true ∧ r.2.1 = 6002 ∧ r.2.2 < am_T.length ∧ q = .inr (1001 + r.2.2))
theorem VM.mono {m m' : Nat} {r : R2} {q : R1} (h : VM m r q) (hm : m ≤ m') : VM m' r q := by
  have hn : am_NN m ≤ am_NN m' := by unfold am_NN; omega
  rcases h with ⟨h1, h2, a, h3, h4, h5⟩ | h | h | ⟨h1, h2, a, h3, h4, h5⟩ | h | h
  · exact Or.inl ⟨h1, h2, a, by omega, h4, h5⟩
  · exact Or.inr (Or.inl h)
  · exact Or.inr (Or.inr (Or.inl h))
  · exact Or.inr (Or.inr (Or.inr (Or.inl ⟨h1, h2, a, by omega, h4, h5⟩)))
  · exact Or.inr (Or.inr (Or.inr (Or.inr (Or.inl h))))
  · exact Or.inr (Or.inr (Or.inr (Or.inr (Or.inr h))))
theorem VM.obj {m c i : Nat} {q : R1} (h : VM m (false, c, i) q) (hc : c < 13) : ∃ a, a < am_NN m ∧ am_lay[a]? = some (c, i) ∧ q = .inl a := by
  rcases h with ⟨-, -, h⟩ | ⟨-, h, -⟩ | ⟨-, h, -⟩ | ⟨h, -⟩ | ⟨h, -⟩ | ⟨h, -⟩
  · exact h
  · dsimp only at h; omega
  · dsimp only at h; omega
  · cases h
  · cases h
  · cases h
theorem VM.cls {m c i : Nat} {q : R1} (h : VM m (false, c, i) q) : c < 13 ∨ (c = 16 ∧ i < am_T.length ∧ q = .inr (i + 1)) ∨ c = 99 := by
  rcases h with ⟨-, h, -⟩ | ⟨-, h, h2⟩ | ⟨-, h, -⟩ | ⟨h, -⟩ | ⟨h, -⟩ | ⟨h, -⟩
  · exact Or.inl h
  · exact Or.inr (Or.inl ⟨h, h2⟩)
  · exact Or.inr (Or.inr h)
  · cases h
  · cases h
  · cases h
theorem VM.row {m f i : Nat} {q : R1} (h : VM m (true, f, i) q) (hf : f ≠ 6000) (hf2 : f ≠ 6002) : ∃ a, a < am_NN m ∧ am_lay[a]? = some (2000 + f, i) ∧ q = .inl a := by
  rcases h with ⟨h, -⟩ | ⟨h, -⟩ | ⟨h, -⟩ | ⟨-, -, h⟩ | ⟨-, h, -⟩ | ⟨-, h, -⟩
  · cases h
  · cases h
  · cases h
  · exact h
  · exact absurd h hf
  · exact absurd h hf2
theorem VM.scr {m i : Nat} {q : R1} (h : VM m (true, 6000, i) q) : i = 0 ∧ q = .inr 0 := by
  rcases h with ⟨h, -⟩ | ⟨h, -⟩ | ⟨h, -⟩ | ⟨-, h, -⟩ | ⟨-, -, h⟩ | ⟨-, h, -⟩
  · cases h
  · cases h
  · cases h
  · exact absurd (Or.inl rfl) h
  · exact h
  · cases h
theorem VM.txt {m i : Nat} {q : R1} (h : VM m (true, 6002, i) q) : i < am_T.length ∧ q = .inr (1001 + i) := by
  rcases h with ⟨h, -⟩ | ⟨h, -⟩ | ⟨h, -⟩ | ⟨-, h, -⟩ | ⟨-, h, -⟩ | ⟨-, -, h⟩
  · cases h
  · cases h
  · cases h
  · exact absurd (Or.inr rfl) h
  · cases h
  · exact h
/-- what a cell holds -/
def CLr (m : Nat) (s : S2) (f i : Nat) (cell : C1) : am_K5 → Prop
  | (2, t, n, _) => ∃ g : Nat → Int, cell = .inr (.inl (t, n, g)) ∧ ∀ k, k < n → g k = s f i k
  | (5, c, n, a, b) => ∃ g : Nat → Option Nat, cell = .inr (.inr (100 + c, n, g)) ∧ ∀ k, k < n → ∃ p, g k = some p ∧ VM m (false, c, am_el a i b k) (.inl p)
  | (6, _, n, _) => ∃ g : Nat → Option Nat, cell = .inr (.inr (99, n, g)) ∧ ∀ k, k < n → ∃ p, g k = some p ∧ VM m (true, 3000, k) (.inl p)
  | (7, c, n, _) => ∃ g : Nat → Option Nat, cell = .inr (.inr (100 + c, n, g)) ∧ ∀ k, k < n → (s f i k = 0 ∧ g k = none) ∨ (s f i k ≠ 0 ∧ ∃ p, g k = some p ∧ VM m (false, c, (s f i k).toNat) (.inl p))
  | _ => False
def CLo (m : Nat) (s : S2) (c i : Nat) (cell : C1) : Prop := ∃ fs : List (AV R1), cell = .inl (c, fs) ∧ fs.length = (am_ft c).length ∧ ∀ j, j < fs.length → ∃ v v', m2_fld s (128 * c + j) i (am_fk (128 * c + j)) = some v ∧ fs[j]? = some v' ∧ aV (VM m) v v'
def CL (m : Nat) (s : S2) (x : Nat × Nat) (cell : C1) : Prop := if x.1 < 2000 then CLo m s x.1 x.2 cell else CLr m s (x.1 - 2000) x.2 cell (am_fk (x.1 - 2000))
def SM (m : Nat) (s : S2) (w : W1) : Prop := m ≤ 4 ∧ s 9999 0 0 = m ∧ w.length = am_NN m ∧ ∀ a x, a < am_NN m → am_lay[a]? = some x → ∃ cell, w[a]? = some cell ∧ CL m s x cell
theorem SM.obj {m a c i : Nat} {s : S2} {w : W1} (h : SM m s w) (ha : a < am_NN m) (hx : am_lay[a]? = some (c, i)) (hc : c < 13) : ∃ fs : List (AV R1), w[a]? = some (.inl (c, fs)) ∧ fs.length = (am_ft c).length ∧ ∀ j, j < fs.length → ∃ v v', m2_fld s (128 * c + j) i (am_fk (128 * c + j)) = some v ∧ fs[j]? = some v' ∧ aV (VM m) v v' := by
  obtain ⟨cell, h1, h2⟩ := h.2.2.2 a _ ha hx
  unfold CL at h2
  rw [if_pos (show c < 2000 by omega)] at h2
  obtain ⟨fs, rfl, h3⟩ := h2
  exact ⟨fs, h1, h3⟩
theorem SM.row {m a f i : Nat} {s : S2} {w : W1} (h : SM m s w) (ha : a < am_NN m) (hx : am_lay[a]? = some (2000 + f, i)) : ∃ cell, w[a]? = some cell ∧ CLr m s f i cell (am_fk f) := by
  obtain ⟨cell, h1, h2⟩ := h.2.2.2 a _ ha hx
  unfold CL at h2
  rw [if_neg (show ¬ 2000 + f < 2000 by omega), show (2000 + f, i).1 - 2000 = f by dsimp only; omega] at h2
  exact ⟨cell, h1, h2⟩
theorem fld_c {s s' : S2} {f i : Nat} (h : (am_fk f).1 = 0 ∨ (am_fk f).1 = 1 ∨ (am_fk f).1 = 4 → s' f i 0 = s f i 0) : m2_fld s' f i (am_fk f) = m2_fld s f i (am_fk f) := by
  generalize am_fk f = r at h ⊢
  unfold m2_fld
  split
  · rw [h (Or.inl rfl)]
  · rw [h (Or.inr (Or.inl rfl))]
  · rfl
  · rfl
  · rw [h (Or.inr (Or.inr rfl))]
  · rfl
  · rfl
  · rfl
  · rfl
/-- a cell is as it was where nothing of its own has changed -/
theorem CL.same {m : Nat} {s s' : S2} {x : Nat × Nat} {cell : C1} (h : CL m s x cell) (h1 : ∀ j, x.1 < 2000 → j < 128 → (am_fk (128 * x.1 + j)).1 = 0 ∨ (am_fk (128 * x.1 + j)).1 = 1 ∨ (am_fk (128 * x.1 + j)).1 = 4 → s' (128 * x.1 + j) x.2 0 = s (128 * x.1 + j) x.2 0) (h2 : 2000 ≤ x.1 → (am_fk (x.1 - 2000)).1 = 2 ∨ (am_fk (x.1 - 2000)).1 = 7 → ∀ k, s' (x.1 - 2000) x.2 k = s (x.1 - 2000) x.2 k) : CL m s' x cell := by
  unfold CL at h ⊢
  by_cases y : x.1 < 2000
  · rw [if_pos y] at h ⊢
    obtain ⟨fs, e1, e2, e3⟩ := h
    have := ft_128 (c := x.1)
    refine ⟨fs, e1, e2, fun j hj => ?_⟩
    obtain ⟨v, v', k1, k2, k3⟩ := e3 j hj
    exact ⟨v, v', by rw [fld_c (h1 j y (by omega))]; exact k1, k2, k3⟩
  · rw [if_neg y] at h ⊢
    have h2 := h2 (by omega)
    generalize am_fk (x.1 - 2000) = r at h h2 ⊢
    match r, h, h2 with
    | (2, t, n, q), h, h2 =>
      obtain ⟨g, g1, g2⟩ := h
      exact ⟨g, g1, fun k hk => by rw [h2 (Or.inl rfl)]; exact g2 k hk⟩
    | (5, c, n, a, b), h, _ => exact h
    | (6, _, n, _), h, _ => exact h
    | (7, c, n, _), h, h2 =>
      obtain ⟨g, g1, g2⟩ := h
      exact ⟨g, g1, fun k hk => by rw [h2 (Or.inr rfl)]; exact g2 k hk⟩
theorem CL.mono {m m' : Nat} {s : S2} {x : Nat × Nat} {cell : C1} (h : CL m s x cell) (hm : m ≤ m') : CL m' s x cell := by
  unfold CL at h ⊢
  by_cases y : x.1 < 2000
  · rw [if_pos y] at h ⊢
    obtain ⟨fs, e1, e2, e3⟩ := h
    refine ⟨fs, e1, e2, fun j hj => ?_⟩
    obtain ⟨v, v', k1, k2, k3⟩ := e3 j hj
    exact ⟨v, v', k1, k2, k3.mono fun _ _ h => h.mono hm⟩
  · rw [if_neg y] at h ⊢
    generalize am_fk (x.1 - 2000) = r at h ⊢
    match r, h with
    | (2, t, n, q), h => exact h
    | (5, c, n, a, b), h =>
      obtain ⟨g, g1, g2⟩ := h
      exact ⟨g, g1, fun k hk => by
        obtain ⟨p, p1, p2⟩ := g2 k hk
        exact ⟨p, p1, p2.mono hm⟩⟩
    | (6, _, n, _), h =>
      obtain ⟨g, g1, g2⟩ := h
      exact ⟨g, g1, fun k hk => by
        obtain ⟨p, p1, p2⟩ := g2 k hk
        exact ⟨p, p1, p2.mono hm⟩⟩
    | (7, c, n, _), h =>
      obtain ⟨g, g1, g2⟩ := h
      exact ⟨g, g1, fun k hk => by
        rcases g2 k hk with p | ⟨p0, p, p1, p2⟩
        · exact Or.inl p
        · exact Or.inr ⟨p0, p, p1, p2.mono hm⟩⟩
theorem SM.upd {m a : Nat} {s s' : S2} {w : W1} {x : Nat × Nat} {cell : C1} (h : SM m s w) (ha : a < am_NN m) (hx : am_lay[a]? = some x) (hc : CL m s' x cell) (ho : ∀ y cell, y ≠ x → CL m s y cell → CL m s' y cell) (h9 : s' 9999 0 0 = s 9999 0 0) : SM m s' (w.set a cell) := by
  obtain ⟨h1, h2, h3, h4⟩ := h
  refine ⟨h1, by rw [h9]; exact h2, by rw [List.length_set]; exact h3, fun b y hb hy => ?_⟩
  by_cases e : b = a
  · subst e
    rw [hx] at hy
    cases hy
    exact ⟨cell, by rw [List.getElem?_set_self (by omega)], hc⟩
  · obtain ⟨cell', k1, k2⟩ := h4 b y hb hy
    refine ⟨cell', by rw [List.getElem?_set_ne (fun w => e w.symm)]; exact k1, ho y cell' (fun w => e ?_) k2⟩
    subst w
    exact lay_inj hy hx
/-- a field is written -/
theorem CL.sto {m f i : Nat} {s : S2} {v : Int} {y : Nat × Nat} {cell : C1} (h : CL m s y cell) (hk : (am_fk f).1 = 0 ∨ (am_fk f).1 = 1 ∨ (am_fk f).1 = 4) (hy : y ≠ (f / 128, i)) : CL m (st2 s f i 0 v) y cell := by
  refine h.same (fun j hj1 hj2 _ => ?_) (fun hy2 hk2 k => ?_)
  · rw [st2_d, if_neg]
    rintro ⟨e1, e2, -⟩
    refine hy ?_
    rw [← e1, ← e2]
    have : (128 * y.1 + j) / 128 = y.1 := by omega
    rw [this]
  · rw [st2_d, if_neg]
    rintro ⟨e1, -, -⟩
    rw [e1] at hk2
    omega
/-- a row is written -/
theorem CL.str {m f i k : Nat} {s : S2} {v : Int} {y : Nat × Nat} {cell : C1} (h : CL m s y cell) (hk : (am_fk f).1 = 2 ∨ (am_fk f).1 = 7) (hy : y ≠ (2000 + f, i)) : CL m (st2 s f i k v) y cell := by
  refine h.same (fun j hj1 hj2 hk2 => ?_) (fun hy2 _ q => ?_)
  · rw [st2_d, if_neg]
    rintro ⟨e1, -, -⟩
    rw [e1] at hk2
    omega
  · rw [st2_d, if_neg]
    rintro ⟨e1, e2, -⟩
    refine hy ?_
    rw [← e1, ← e2]
    have : 2000 + (y.1 - 2000) = y.1 := by omega
    rw [this]
theorem CL.cpr {m f i g j sp dp n : Nat} {s : S2} {y : Nat × Nat} {cell : C1} (h : CL m s y cell) (hk : (am_fk g).1 = 2) (hy : y ≠ (2000 + g, j)) : CL m (cp2 s f i sp g j dp n) y cell := by
  refine h.same (fun l hj1 hj2 hk2 => ?_) (fun hy2 _ q => ?_)
  · unfold cp2
    rw [if_neg]
    rintro ⟨e1, -⟩
    rw [e1] at hk2
    omega
  · unfold cp2
    rw [if_neg]
    rintro ⟨e1, e2, -⟩
    refine hy ?_
    rw [← e1, ← e2]
    have : 2000 + (y.1 - 2000) = y.1 := by omega
    rw [this]
