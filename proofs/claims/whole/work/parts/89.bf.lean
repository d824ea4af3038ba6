/-! WAYS: least ways by rounds, in pure numbers -/
def rxD (w : Int) (a b : Nat) (d : Nat → Int) : Nat → Int := fun v => if v = a then (if d b + w < d a then d b + w else d a) else d v
theorem rx_a {w : Int} {a b : Nat} {d : Nat → Int} : rxD w a b d a = if d b + w < d a then d b + w else d a := if_pos rfl
theorem rx_n {w : Int} {a b v : Nat} {d : Nat → Int} (h : v ≠ a) : rxD w a b d v = d v := if_neg h
theorem rx_le {w : Int} {a b v : Nat} {d : Nat → Int} : rxD w a b d v ≤ d v := by
  by_cases h : v = a
  · subst h
    rw [rx_a]
    split <;> omega
  · rw [rx_n h]; exact Int.le_refl _
def onL (C Y : V2) (i : Nat) : Prop := (i : Int) < C 388 0 ∧ Y 514 i = 0
def onD (C Y : V2) (i : Nat) : Decidable (onL C Y i) := by unfold onL; exact inferInstance
/-- one line relaxed, both ways -/
def lnD (C Y : V2) (k : Int) (i : Nat) (d : Nat → Int) : Nat → Int := @ite _ (onL C Y i) (onD C Y i) (rxD (k * C 393 i + 1) (C 392 i).toNat (C 391 i).toNat (rxD (k * C 393 i + 1) (C 391 i).toNat (C 392 i).toNat d)) d
theorem ln_t {C Y : V2} {k : Int} {i : Nat} {d : Nat → Int} (h : onL C Y i) : lnD C Y k i d = rxD (k * C 393 i + 1) (C 392 i).toNat (C 391 i).toNat (rxD (k * C 393 i + 1) (C 391 i).toNat (C 392 i).toNat d) := if_pos h
theorem ln_f {C Y : V2} {k : Int} {i : Nat} {d : Nat → Int} (h : ¬ onL C Y i) : lnD C Y k i d = d := if_neg h
def rdN (C Y : V2) (k : Int) (d : Nat → Int) : Nat → Nat → Int
  | 0 => d
  | i + 1 => lnD C Y k i (rdN C Y k d i)
def rsN (C Y : V2) (k : Int) (d : Nat → Int) : Nat → Nat → Int
  | 0 => d
  | r + 1 => rdN C Y k (rsN C Y k d r) 6
theorem ln_le {C Y : V2} {k : Int} {i v : Nat} {d : Nat → Int} : lnD C Y k i d v ≤ d v := by
  by_cases h : onL C Y i
  · rw [ln_t h]
    exact Int.le_trans rx_le rx_le
  · rw [ln_f h]; exact Int.le_refl _
theorem rd_le {C Y : V2} {k : Int} {d : Nat → Int} {v i : Nat} : ∀ {j : Nat}, i ≤ j → rdN C Y k d j v ≤ rdN C Y k d i v
  | 0, h => by
    have : i = 0 := by omega
    subst this; exact Int.le_refl _
  | j + 1, h => by
    by_cases e : i = j + 1
    · subst e; exact Int.le_refl _
    · exact Int.le_trans ln_le (rd_le (j := j) (by omega))
/-- an edge of weight k * length + 1 -/
def Ed (C Y : V2) (k : Int) (u v : Nat) (w : Int) : Prop := ∃ i, i < 6 ∧ onL C Y i ∧ w = k * C 393 i + 1 ∧ ((u = (C 391 i).toNat ∧ v = (C 392 i).toNat) ∨ (u = (C 392 i).toNat ∧ v = (C 391 i).toNat))
theorem Ed.bd {C Y : V2} {u v : Nat} {w : Int} (hC : CB C) (h : Ed C Y 16 u v w) : u < 8 ∧ v < 8 ∧ 17 ≤ w ∧ u ≠ v := by
  obtain ⟨i, hi, h1, h2, h3⟩ := h
  have a1 := hC.2.2.2.1 i hi
  have a2 := hC.2.2.2.2.1 i hi h1.1
  omega
/-- behind a round every edge was looked at -/
theorem rd_edge {C Y : V2} {k : Int} {d : Nat → Int} {u v : Nat} {w : Int} (h : Ed C Y k u v w) (huv : u ≠ v) : rdN C Y k d 6 v ≤ d u + w := by
  obtain ⟨i, hi, h1, h2, h3⟩ := h
  have q1 : rdN C Y k d 6 v ≤ rdN C Y k d (i + 1) v := rd_le (by omega)
  have q2 : rdN C Y k d i u ≤ d u := rd_le (i := 0) (by omega)
  have q3 : rdN C Y k d (i + 1) v ≤ rdN C Y k d i u + w := by
    show lnD C Y k i (rdN C Y k d i) v ≤ _
    generalize rdN C Y k d i = e
    rw [ln_t h1, ← h2]
    rcases h3 with ⟨rfl, rfl⟩ | ⟨rfl, rfl⟩
    · rw [rx_a]
      have := rx_le (w := w) (a := (C 391 i).toNat) (b := (C 392 i).toNat) (v := (C 391 i).toNat) (d := e)
      split <;> omega
    · refine Int.le_trans rx_le ?_
      rw [rx_a]
      split <;> omega
  omega
/-- what lies below every edge lies below all rounds -/
theorem rx_low {D d : Nat → Int} {w : Int} {a b : Nat} (h : ∀ v, v < 8 → D v ≤ d v) (hb : b < 8) (he : D a ≤ D b + w) : ∀ v, v < 8 → D v ≤ rxD w a b d v := fun v hv => by
  by_cases e : v = a
  · subst e
    rw [rx_a]
    have h1 := h v hv
    have h2 := h b hb
    split <;> omega
  · rw [rx_n e]; exact h v hv
theorem rd_low {C Y : V2} {D d : Nat → Int} (hC : CB C) (hE : ∀ u v w, Ed C Y 16 u v w → D v ≤ D u + w) (h : ∀ v, v < 8 → D v ≤ d v) : ∀ {i : Nat}, i ≤ 6 → ∀ v, v < 8 → D v ≤ rdN C Y 16 d i v
  | 0, _ => h
  | i + 1, hi => by
    have ih := rd_low hC hE h (i := i) (by omega)
    show ∀ v, v < 8 → D v ≤ lnD C Y 16 i (rdN C Y 16 d i) v
    by_cases q : onL C Y i
    · rw [ln_t q]
      have e1 : Ed C Y 16 (C 391 i).toNat (C 392 i).toNat (16 * C 393 i + 1) := ⟨i, by omega, q, rfl, Or.inl ⟨rfl, rfl⟩⟩
      have e2 : Ed C Y 16 (C 392 i).toNat (C 391 i).toNat (16 * C 393 i + 1) := ⟨i, by omega, q, rfl, Or.inr ⟨rfl, rfl⟩⟩
      have b1 := e1.bd hC
      exact rx_low (rx_low ih b1.2.1 (hE _ _ _ e2)) b1.1 (hE _ _ _ e1)
    · rw [ln_f q]; exact ih
/-- what every state of the rounds is like -/
def BI (C Y : V2) (to : Nat) (d : Nat → Int) : Prop := d to = 0 ∧ (∀ v, v < 8 → 0 ≤ d v ∧ d v ≤ 1000000) ∧ ∀ v, v < 8 → d v < 1000000 → v ≠ to → ∃ u w, Ed C Y 16 u v w ∧ d u + w ≤ d v
theorem rx_BI {C Y : V2} {to a b : Nat} {w : Int} {d : Nat → Int} (hC : CB C) (h : BI C Y to d) (he : Ed C Y 16 b a w) : BI C Y to (rxD w a b d) := by
  obtain ⟨h1, h2, h3⟩ := h
  obtain ⟨b1, b2, b3, b4⟩ := he.bd hC
  have hb := h2 b b1
  refine ⟨?_, fun v hv => ?_, fun v hv hv2 hvt => ?_⟩
  · by_cases e : to = a
    · subst e
      rw [rx_a, if_neg (by omega)]
      exact h1
    · rw [rx_n e]; exact h1
  · have := h2 v hv
    by_cases e : v = a
    · subst e
      rw [rx_a]
      split <;> omega
    · rw [rx_n e]; exact this
  · by_cases e : v = a
    · subst e
      rw [rx_a] at hv2 ⊢
      by_cases q : d b + w < d v
      · rw [if_pos q]
        exact ⟨b, w, he, by rw [rx_n (by omega)]; exact Int.le_refl _⟩
      · rw [if_neg q] at hv2 ⊢
        obtain ⟨u, w', g1, g2⟩ := h3 v hv hv2 hvt
        have := (rx_le (w := w) (a := v) (b := b) (v := u) (d := d))
        exact ⟨u, w', g1, by omega⟩
    · rw [rx_n e] at hv2 ⊢
      obtain ⟨u, w', g1, g2⟩ := h3 v hv hv2 hvt
      have := (rx_le (w := w) (a := a) (b := b) (v := u) (d := d))
      exact ⟨u, w', g1, by omega⟩
theorem rd_BI {C Y : V2} {to : Nat} {d : Nat → Int} (hC : CB C) (h : BI C Y to d) : ∀ {i : Nat}, i ≤ 6 → BI C Y to (rdN C Y 16 d i)
  | 0, _ => h
  | i + 1, hi => by
    have ih := rd_BI hC h (i := i) (by omega)
    show BI C Y to (lnD C Y 16 i (rdN C Y 16 d i))
    by_cases q : onL C Y i
    · rw [ln_t q]
      exact rx_BI hC (rx_BI hC ih ⟨i, by omega, q, rfl, Or.inr ⟨rfl, rfl⟩⟩) ⟨i, by omega, q, rfl, Or.inl ⟨rfl, rfl⟩⟩
    · rw [ln_f q]; exact ih
theorem rs_BI {C Y : V2} {to : Nat} {d : Nat → Int} (hC : CB C) (h : BI C Y to d) : ∀ {r : Nat}, BI C Y to (rsN C Y 16 d r)
  | 0 => h
  | r + 1 => rd_BI hC (rs_BI hC h (r := r)) (Nat.le_refl 6)
theorem rs_le {C Y : V2} {k : Int} {d : Nat → Int} {r v : Nat} : rsN C Y k d (r + 1) v ≤ rsN C Y k d r v := rd_le (i := 0) (by omega)
/-- a round that changes nothing -/
def Stb (C Y : V2) (d : Nat → Int) : Prop := ∀ v, v < 8 → rdN C Y 16 d 6 v = d v
theorem sum_lt {f g : Nat → Int} : ∀ {n : Nat}, (∀ i, i < n → f i ≤ g i) → (∃ i, i < n ∧ f i < g i) → sumI n f < sumI n g
  | 0, _, ⟨i, hi, _⟩ => by omega
  | n + 1, h, ⟨i, hi, h2⟩ => by
    rw [sumI_s, sumI_s]
    have hn := h n (by omega)
    have hle : sumI n f ≤ sumI n g := by
      have : ∀ m, m ≤ n → sumI m f ≤ sumI m g := by
        intro m
        induction m with
        | zero => intro _; exact Int.le_refl _
        | succ m ih =>
          intro hm
          rw [sumI_s, sumI_s]
          have := ih (by omega)
          have := h m (by omega)
          omega
      exact this n (Nat.le_refl n)
    by_cases e : i = n
    · subst e; omega
    · have := sum_lt (n := n) (fun j hj => h j (by omega)) ⟨i, by omega, h2⟩
      omega
theorem stb_ex {C Y : V2} {to : Nat} (hC : CB C) : ∀ (n : Nat) (d : Nat → Int), BI C Y to d → sumI 8 d ≤ n → ∃ N, Stb C Y (rsN C Y 16 d N)
  | 0, d, h, hs => by
    refine ⟨0, fun v hv => ?_⟩
    have h1 := rd_le (C := C) (Y := Y) (k := 16) (d := d) (v := v) (i := 0) (j := 6) (by omega)
    have h2 := (rd_BI hC h (i := 6) (Nat.le_refl 6)).2.1 v hv
    have h3 : d v ≤ 0 := by
      have hz : sumI 8 (fun _ => (0 : Int)) = 0 := sumI_zero fun _ _ => rfl
      rcases Int.lt_or_le 0 (d v) with q | q
      · have := sum_lt (f := fun _ => (0 : Int)) (g := d) (n := 8) (fun i hi => (h.2.1 i hi).1) ⟨v, hv, q⟩
        omega
      · exact q
    show rdN C Y 16 d 6 v = d v
    have h4 : rdN C Y 16 d 0 v = d v := rfl
    omega
  | n + 1, d, h, hs => by
    by_cases q : ∃ v, v < 8 ∧ rdN C Y 16 d 6 v < d v
    · have h1 := sum_lt (f := rdN C Y 16 d 6) (g := d) (n := 8) (fun i hi => rd_le (i := 0) (by omega)) q
      obtain ⟨N, hN⟩ := stb_ex hC n (rdN C Y 16 d 6) (rd_BI hC h (Nat.le_refl 6)) (by omega)
      refine ⟨N + 1, ?_⟩
      have e : ∀ N, rsN C Y 16 d (N + 1) = rsN C Y 16 (rdN C Y 16 d 6) N := by
        intro N
        induction N with
        | zero => rfl
        | succ N ih =>
          show rdN C Y 16 (rsN C Y 16 d (N + 1)) 6 = rdN C Y 16 (rsN C Y 16 (rdN C Y 16 d 6) N) 6
          rw [ih]
      rw [e]
      exact hN
    · refine ⟨0, fun v hv => ?_⟩
      have h1 := rd_le (C := C) (Y := Y) (k := 16) (d := d) (v := v) (i := 0) (j := 6) (by omega)
      have h4 : rdN C Y 16 d 0 v = d v := rfl
      show rdN C Y 16 d 6 v = d v
      rcases Int.lt_or_le (rdN C Y 16 d 6 v) (d v) with w | w
      · exact absurd ⟨v, hv, w⟩ q
      · omega
theorem cntB_lt {p q : Nat → Bool} {b : Nat} (hb : q b = true) (hb2 : p b = false) : ∀ {n : Nat}, b < n → (∀ i, i < n → p i = true → q i = true) → cntB n p + 1 ≤ cntB n q
  | 0, h, _ => by omega
  | n + 1, h, h2 => by
    have e1 : cntB (n + 1) p = if p n = true then cntB n p + 1 else cntB n p := rfl
    have e2 : cntB (n + 1) q = if q n = true then cntB n q + 1 else cntB n q := rfl
    have hle : ∀ m, m ≤ n → cntB m p ≤ cntB m q := by
      intro m
      induction m with
      | zero => intro _; exact Int.le_refl _
      | succ m ih =>
        intro hm
        have f1 : cntB (m + 1) p = if p m = true then cntB m p + 1 else cntB m p := rfl
        have f2 : cntB (m + 1) q = if q m = true then cntB m q + 1 else cntB m q := rfl
        have := ih (by omega)
        have g := h2 m (by omega)
        rw [f1, f2]
        by_cases c : p m = true
        · rw [if_pos c, if_pos (g c)]; omega
        · rw [if_neg c]; split <;> omega
    have g := h2 n (by omega)
    rw [e1, e2]
    by_cases e : b = n
    · subst e
      have := hle b (Nat.le_refl b)
      rw [hb, hb2]
      simp
      omega
    · have ih := cntB_lt hb hb2 (n := n) (by omega) (fun i hi => h2 i (by omega))
      by_cases c : p n = true
      · rw [if_pos c, if_pos (g c)]; omega
      · rw [if_neg c]; split <;> omega
theorem cntB_le {p q : Nat → Bool} : ∀ {n : Nat}, (∀ i, i < n → p i = true → q i = true) → cntB n p ≤ cntB n q
  | 0, _ => Int.le_refl _
  | n + 1, h => by
    have ih := cntB_le (n := n) (fun i hi => h i (by omega))
    have g := h n (by omega)
    have f1 : cntB (n + 1) p = if p n = true then cntB n p + 1 else cntB n p := rfl
    have f2 : cntB (n + 1) q = if q n = true then cntB n q + 1 else cntB n q := rfl
    rw [f1, f2]
    by_cases c : p n = true
    · rw [if_pos c, if_pos (g c)]; omega
    · rw [if_neg c]; split <;> omega
theorem cntB_full {p : Nat → Bool} {n v : Nat} (h : (n : Int) ≤ cntB n p) (hv : v < n) : p v = true := by
  cases q : p v with
  | true => rfl
  | false =>
    have h1 := cntB_lt (p := p) (q := fun _ => true) (b := v) rfl q hv (fun _ _ _ => rfl)
    have h2 := cntB_bd (p := fun _ => true) (n := n)
    omega
theorem min_ex {D : Nat → Int} {P : Nat → Prop} (hD : ∀ v, v < 8 → 0 ≤ D v) : ∀ (n v : Nat), v < 8 → P v → D v ≤ n → ∃ u, u < 8 ∧ P u ∧ ∀ x, x < 8 → P x → D u ≤ D x
  | 0, v, hv, hp, hn => ⟨v, hv, hp, fun x hx _ => by have := hD x hx; omega⟩
  | n + 1, v, hv, hp, hn => by
    by_cases q : ∃ x, x < 8 ∧ P x ∧ D x < D v
    · obtain ⟨x, h1, h2, h3⟩ := q
      exact min_ex hD n x h1 h2 (by omega)
    · refine ⟨v, hv, hp, fun x hx hpx => ?_⟩
      rcases Int.lt_or_le (D x) (D v) with w | w
      · exact absurd ⟨x, hx, hpx, w⟩ q
      · exact w
/-- seven rounds are enough -/
theorem rs_fix {C Y : V2} {to : Nat} {d : Nat → Int} (hC : CB C) (ht : to < 8) (h : BI C Y to d) : ∀ v, v < 8 → rsN C Y 16 d 8 v = rsN C Y 16 d 7 v := by
  have hsum := sumI_bd (f := d) (a := 0) (b := 1000000) (n := 8) (fun i hi => h.2.1 i hi)
  obtain ⟨N, hN⟩ := stb_ex hC 8000000 d h (by omega)
  have hB := rs_BI hC h (r := N)
  have hE : ∀ u v w, Ed C Y 16 u v w → rsN C Y 16 d N v ≤ rsN C Y 16 d N u + w := fun u v w he => by
    obtain ⟨b1, b2, b3, b4⟩ := he.bd hC
    have := rd_edge (d := rsN C Y 16 d N) he b4
    rw [hN v b2] at this
    exact this
  have hlow0 : ∀ v, v < 8 → rsN C Y 16 d N v ≤ d v := fun v hv => by
    have : ∀ r, rsN C Y 16 d r v ≤ d v := fun r => by
      induction r with
      | zero => exact Int.le_refl _
      | succ r ih => exact Int.le_trans rs_le ih
    exact this N
  generalize rsN C Y 16 d N = D at hB hE hlow0
  have hlow : ∀ r, ∀ v, v < 8 → D v ≤ rsN C Y 16 d r v := fun r => by
    induction r with
    | zero => exact hlow0
    | succ r ih => exact rd_low hC hE ih (Nat.le_refl 6)
  have hset : ∀ k : Nat, k ≤ 7 → (k : Int) + 1 ≤ cntB 8 (fun v => decide (rsN C Y 16 d k v = D v)) := by
    intro k
    induction k with
    | zero =>
      intro _
      have := cntB_lt (p := fun _ => false) (q := fun v => decide (rsN C Y 16 d 0 v = D v)) (b := to) (decide_eq_true (by show d to = D to; rw [h.1, hB.1])) rfl (n := 8) ht (fun _ _ q => by cases q)
      have h2 := cntB_bd (p := fun _ => false) (n := 8)
      omega
    | succ k ih =>
      intro hk
      have ih := ih (by omega)
      have hkeep : ∀ v, v < 8 → rsN C Y 16 d k v = D v → rsN C Y 16 d (k + 1) v = D v := fun v hv e => by
        have h1 := hlow (k + 1) v hv
        have h2 := rs_le (C := C) (Y := Y) (k := 16) (d := d) (r := k) (v := v)
        omega
      by_cases q : ∃ v, v < 8 ∧ ¬ rsN C Y 16 d k v = D v
      · obtain ⟨v0, hv0, hq0⟩ := q
        obtain ⟨v, hv, hq, hmin⟩ := min_ex (D := D) (P := fun v => ¬ rsN C Y 16 d k v = D v) (fun v hv => (hB.2.1 v hv).1) 1000000 v0 hv0 hq0 (hB.2.1 v0 hv0).2
        have h1 := hlow k v hv
        have h2 := (rs_BI hC h (r := k)).2.1 v hv
        have hvt : v ≠ to := by
          rintro rfl
          exact hq ((rs_BI hC h (r := k)).1.trans hB.1.symm)
        obtain ⟨u, w, g1, g2⟩ := hB.2.2 v hv (by omega) hvt
        obtain ⟨b1, b2, b3, b4⟩ := g1.bd hC
        have hu : rsN C Y 16 d k u = D u := by
          rcases Classical.em (rsN C Y 16 d k u = D u) with c | c
          · exact c
          · have := hmin u b1 c
            omega
        have h3 : rsN C Y 16 d (k + 1) v ≤ rsN C Y 16 d k u + w := rd_edge g1 b4
        have h4 := hlow (k + 1) v hv
        have := cntB_lt (p := fun v => decide (rsN C Y 16 d k v = D v)) (q := fun v => decide (rsN C Y 16 d (k + 1) v = D v)) (b := v) (decide_eq_true (by omega)) (decide_eq_false hq) (n := 8) hv (fun i hi hp => decide_eq_true (hkeep i hi (of_decide_eq_true hp)))
        omega
      · have hall : ∀ v, v < 8 → rsN C Y 16 d (k + 1) v = D v := fun v hv => hkeep v hv (Classical.byContradiction fun c => q ⟨v, hv, c⟩)
        have h8 : (8 : Int) ≤ cntB 8 (fun v => decide (rsN C Y 16 d (k + 1) v = D v)) := by
          have := cntB_le (p := fun _ => true) (q := fun v => decide (rsN C Y 16 d (k + 1) v = D v)) (n := 8) (fun i hi _ => decide_eq_true (hall i hi))
          have e : cntB 8 (fun _ => true) = 8 := rfl
          omega
        omega
  intro v hv
  have h7 := hset 7 (by omega)
  have := of_decide_eq_true (cntB_full (p := fun v => decide (rsN C Y 16 d 7 v = D v)) (n := 8) (by omega) hv)
  have h1 := hlow 8 v hv
  have h2 : rsN C Y 16 d 8 v ≤ rsN C Y 16 d 7 v := rs_le
  omega
