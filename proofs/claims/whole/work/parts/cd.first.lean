/-! THE START is a state that the law may begin from -/
theorem ix_b {f g : Nat} (h : f ≠ g) : Nat.beq f g = false := by
  cases e : Nat.beq f g with
  | true => exact absurd (Nat.eq_of_beq_eq_true e) h
  | false => rfl
theorem s0_z {f i k : Nat} (h : f ≠ 513 ∧ f ≠ 515 ∧ f ≠ 1033 ∧ f ≠ 768 ∧ f ≠ 769 ∧ f ≠ 1537 ∧ f ≠ 1578 ∧ f ≠ 1153 ∧ f ≠ 1154) : s0 f i k = 0 := by
  obtain ⟨h1, h2, h3, h4, h5, h6, h7, h8, h9⟩ := h
  unfold s0
  rw [ix_b h1, ix_b h2, ix_b h3, ix_b h4, ix_b h5, ix_b h6, ix_b h7, ix_b h8, ix_b h9]
  rfl
theorem s0_1537 {i k : Nat} (h : k ≠ 10) : s0 1537 i k = 0 := by
  unfold s0
  rw [ix_b h]
  rfl
theorem c0_v {c : Nat} : cw s0 c = fun _ _ => 0 := by
  funext f k
  unfold cw nC
  split
  · rename_i h
    unfold cr at h
    exact s0_z (by omega)
  · rfl
theorem y0_z {y f k : Nat} (h : f ≠ 513 ∧ f ≠ 515) : yv s0 y f k = 0 := by
  unfold yv nY
  split
  · rename_i hr
    unfold yr at hr
    exact s0_z (by omega)
  · rfl
theorem y0_13 {y l : Nat} (h : l < 6) : yv s0 y 513 l = -1 := by
  rw [yv_t (Or.inr (Or.inl ⟨rfl, h⟩))]
  rfl
theorem y0_15 {y n : Nat} (h : n < 10) : yv s0 y 515 n = -1 := by
  rw [yv_t (Or.inr (Or.inr (Or.inr (Or.inl ⟨rfl, h⟩))))]
  rfl
theorem yb_0 {C : V2} {y : Nat} : YB C (yv s0 y) := by
  refine ⟨fun n hn => Or.inl (y0_15 hn), fun n hn => ?_, fun l hl => Or.inl (y0_z (by omega)), fun l hl => Or.inl (y0_13 hl), ?_, fun f hf => ?_⟩
  · rw [y0_z (by omega)]; omega
  · rw [y0_z (by omega)]; omega
  · rw [y0_z (by omega), y0_z (by omega)]; omega
theorem live_0 {f k : Nat} (h : ¬ (f = 1537 ∧ k = 10)) (hj : jr f k) : live s0 f k = 0 := by
  rw [live_t hj]
  by_cases e : f = 1537
  · subst e
    exact s0_1537 (by omega)
  · unfold jr at hj
    exact s0_z (by omega)
theorem inv_0 : Inv s0 := by
  have l0 : ∀ k, k < 10 → live s0 1537 k = 0 := fun k hk => live_0 (by omega) (by unfold jr; omega)
  refine ⟨0, fun _ => [], ⟨rfl, rfl, by omega, fun r hr => by omega, ⟨rfl, by decide, fun k hk => ?_⟩⟩, ⟨0, by omega, rfl, rfl, fun k hk => by omega⟩, ?_, ⟨0, rfl, by decide, fun k hk => Or.inl ⟨s0_z (by omega), s0_z (by omega)⟩, fun k k' _ _ h => absurd (s0_z (by omega)) h⟩, ⟨rfl, ?_⟩, rfl⟩
  · match k, hk with
    | 0, _ => exact ⟨rfl, by decide, by decide⟩
    | 1, _ => exact ⟨rfl, by decide, by decide⟩
    | k + 2, hk =>
      have : k + 2 < 2 := hk
      omega
  · unfold IW
    rw [c0_v]
    refine ⟨⟨?_, yb_0, ?_, ?_, ?_⟩, ⟨yb_0, y0_z (by omega), fun l hl => ⟨y0_13 hl, y0_z (by omega)⟩, fun f hf => y0_z (by omega), fun n _ h => ?_, fun f _ h => ?_⟩, ⟨0, 0, by omega, by omega, ?_, ?_, ?_, fun j hj => by omega⟩, ⟨0, by omega, ?_, l0 8 (by omega), fun i hi => by omega⟩, ⟨?_, ?_, ?_, ?_, ?_, ?_⟩⟩
    · unfold CB
      dsimp only
      refine ⟨by omega, fun _ _ => by omega, fun _ _ h => by omega, fun _ _ => by omega, fun _ _ h => by omega, fun _ _ => by omega, fun _ _ h => by omega, by omega, by omega, by omega, by omega, by omega, by omega, by omega⟩
    · rw [y0_z (by omega)]; omega
    · refine ⟨⟨l0 0 (by omega), l0 1 (by omega), l0 2 (by omega), l0 3 (by omega), l0 4 (by omega), l0 5 (by omega)⟩, fun _ _ h => ?_, fun _ _ h => ?_, fun _ _ h => ?_⟩
      · dsimp only at h; omega
      · dsimp only at h; omega
      · dsimp only at h; omega
    · refine ⟨?_, ?_, fun _ _ h => ?_, fun _ _ h => ?_, fun _ _ h => ?_⟩
      · rw [y0_z (by omega)]; exact l0 7 (by omega)
      · unfold cutV
        rw [y0_z (by omega), y0_z (by omega), y0_z (by omega), y0_z (by omega), y0_z (by omega), y0_z (by omega)]
        exact l0 6 (by omega)
      · dsimp only at h; omega
      · dsimp only at h; omega
      · dsimp only at h; omega
    · dsimp only at h; omega
    · dsimp only at h; omega
    · rw [uw1 (by omega)]; exact s0_z (by omega)
    · exact live_0 (by omega) (by unfold jr; omega)
    · rw [uw1 (by omega)]; exact s0_z (by omega)
    · rw [uw1 (by omega)]; exact s0_z (by omega)
    · rw [uw1 (by omega), live_t (by unfold jr; omega)]; rfl
    · rw [uw1 (by omega)]; decide
    · rw [uw1 (by omega)]; decide
    · rw [uw1 (by omega), l0 9 (by omega)]; exact s0_z (by omega)
    · rw [uw1 (by omega), s0_z (by omega)]; omega
    · rw [uw1 (by omega), s0_z (by omega)]; omega
  · unfold CS
    rw [c0_v]
    dsimp only
    exact ⟨fun _ _ => by omega, fun _ _ => by omega, fun _ _ => by omega⟩
/-! sizes -/
def ckS (x : Nat × am_K5) : Bool := Nat.ble x.2.2.2.1 5500
theorem fk_5500 {f : Nat} (h9 : (am_fk f).1 ≠ 9) : (am_fk f).2.2.1 ≤ 5500 := by
  have h : am_fkA.all ckS = true := by decide +kernel
  exact Nat.le_of_ble_eq_true (List.all_eq_true.mp h _ (fk_mem rfl h9))
theorem CL.sz {m : Nat} {s : S2} {x : Nat × Nat} {ce : C1} (h : CL m s x ce) : am_szc am_ft ce ≤ 5500 := by
  unfold CL at h
  split at h
  · obtain ⟨fs, rfl, -⟩ := h
    have := ft_128 (c := x.1)
    show (am_ft x.1).length ≤ 5500
    omega
  · have hk := @fk_5500 (x.1 - 2000)
    generalize am_fk (x.1 - 2000) = r at h hk
    match r, h, hk with
    | (2, t, n, q), h, hk =>
      obtain ⟨g, rfl, -⟩ := h
      exact hk (by dsimp only; omega)
    | (5, c, n, a, b), h, hk =>
      obtain ⟨g, rfl, -⟩ := h
      exact hk (by dsimp only; omega)
    | (6, _, n, _), h, hk =>
      obtain ⟨g, rfl, -⟩ := h
      exact hk (by dsimp only; omega)
    | (7, c, n, _), h, hk =>
      obtain ⟨g, rfl, -⟩ := h
      exact hk (by dsimp only; omega)
theorem sum_bd {l : List Nat} {b : Nat} (h : ∀ x ∈ l, x ≤ b) : l.sum ≤ b * l.length := by
  induction l with
  | nil => exact Nat.zero_le _
  | cons a l ih =>
    rw [List.sum_cons, List.length_cons, Nat.mul_succ]
    have h1 := h a List.mem_cons_self
    have h2 := ih fun x hx => h x (List.mem_cons_of_mem _ hx)
    omega
theorem lay_len : am_lay.length = 1023 := by decide +kernel
theorem SM.sz {m : Nat} {s : S2} {w : W1} (h : SM m s w) : w.length ≤ 600000 ∧ am_sl am_ft w ≤ 7302250 := by
  obtain ⟨h1, -, h3, h4⟩ := h
  have hl : w.length ≤ 1023 := by unfold am_NN at h3; omega
  refine ⟨by omega, ?_⟩
  unfold am_sl
  have := sum_bd (l := w.map (am_szc am_ft)) (b := 5500) fun x hx => by
    obtain ⟨ce, k1, rfl⟩ := List.mem_map.mp hx
    obtain ⟨a, k2, k3⟩ := List.getElem_of_mem k1
    have hx : a < am_lay.length := by rw [lay_len]; omega
    obtain ⟨ce', k4, k5⟩ := h4 a _ (by omega) (List.getElem?_eq_getElem hx)
    rw [List.getElem?_eq_getElem k2, k3] at k4
    cases k4
    exact k5.sz
  rw [List.length_map] at this
  omega
