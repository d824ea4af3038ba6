/-- a yard with one number set -/
def setF (Y : V2) (g j : Nat) (v : Int) : V2 := nY (fun f k => if f = g ∧ k = j then v else Y f k)
theorem setF_e {Y : V2} {g j f k : Nat} {v : Int} (h : yr f k) : setF Y g j v f k = if f = g ∧ k = j then v else Y f k := nY_t h
theorem setF_o {Y : V2} {g j f k : Nat} {v : Int} (h : yr f k) (h2 : ¬ (f = g ∧ k = j)) : setF Y g j v f k = Y f k := by rw [setF_e h, if_neg h2]
theorem setF_t {Y : V2} {g j : Nat} {v : Int} (h : yr g j) : setF Y g j v g j = v := by rw [setF_e h, if_pos ⟨rfl, rfl⟩]
theorem yv_st {s : S2} {g y j : Nat} {v : Int} : yv (st2 s g y j v) y = setF (yv s y) g j v := nY_ext fun f k hr => by
  show st2 s g y j v f y k = if f = g ∧ k = j then v else yv s y f k
  rw [st2_d, yv_t hr]
  by_cases e : f = g ∧ k = j
  · rw [if_pos ⟨e.1, rfl, e.2⟩, if_pos e]
  · rw [if_neg (by omega), if_neg e]
theorem set_YB {C Y : V2} {g j : Nat} {v : Int} (hY : YB C Y) (h : (g = 516 ∧ j < 10 ∧ 0 ≤ v ∧ v ≤ 20) ∨ (g = 514 ∧ j < 6 ∧ (v = 0 ∨ v = 1)) ∨ (g = 513 ∧ j < 6 ∧ v = -1)) : YB C (setF Y g j v) := by
  have h12 : setF Y g j v 512 0 = Y 512 0 := setF_o yr512 (by omega)
  refine ⟨fun k hk => ?_, fun k hk => ?_, fun k hk => ?_, fun k hk => ?_, by rw [h12]; exact hY.2.2.2.2.1, fun k hk => ?_⟩
  · rw [setF_o (yr515 hk) (by omega)]; exact hY.1 k hk
  · rw [setF_e (yr516 hk)]
    have := hY.2.1 k hk
    by_cases e : 516 = g ∧ k = j
    · rw [if_pos e]; omega
    · rw [if_neg e]; exact this
  · rw [setF_e (yr514 hk)]
    have := hY.2.2.1 k hk
    by_cases e : 514 = g ∧ k = j
    · rw [if_pos e]; omega
    · rw [if_neg e]; exact this
  · rw [setF_e (yr513 hk)]
    have := hY.2.2.2.1 k hk
    by_cases e : 513 = g ∧ k = j
    · rw [if_pos e]; omega
    · rw [if_neg e]; exact this
  · rw [setF_o (yr518 hk) (by omega), h12]; exact hY.2.2.2.2.2 k hk
theorem MS.put {C Y Z : V2} {code : List Int} {d v : Int} {t : S2} {g k : Nat} (h : MS C Y code d t) (hg : (g = 1537 ∧ k = 6) ∨ g = 1544 ∨ g = 1547) (hV : YR C Z (st2 t g 0 k v)) : MS C Z code d (st2 t g 0 k v) := by
  obtain ⟨h1, h2, h3, h4, h5⟩ := h
  have e1 : ∀ q, q ≠ 6 → st2 t g 0 k v 1537 0 q = t 1537 0 q := fun q hq => st2_ne (by omega)
  have eo : ∀ f, f ≠ 1537 → f ≠ 1544 → f ≠ 1547 → st2 t g 0 k v f 0 = t f 0 := fun f q1 q2 q3 => by
    funext k'
    exact st2_ne (by omega)
  refine ⟨h1.exu (fun q hq => e1 q (by omega)) (fun f q1 q2 q3 q4 => eo f (by omega) q2 q3), hV, ?_, ?_, h5⟩
  · have hF : Fr (fun f i => (Nat.beq f 1537 || Nat.beq f 1544 || Nat.beq f 1547) && Nat.beq i 0) t (st2 t g 0 k v) := by
      refine Fr.rf.st ?_
      rcases hg with ⟨rfl, -⟩ | rfl | rfl <;> rfl
    refine h3.fr hF (e1 10 (by omega)) (fun f q1 q2 => ?_)
    rw [← Bool.not_eq_true, Bool.and_eq_true, Bool.or_eq_true, Bool.or_eq_true, Nat.beq_eq, Nat.beq_eq, Nat.beq_eq]
    omega
  · rw [eo _ (by omega) (by omega) (by omega)]; exact h4
theorem cut_o {Y : V2} {g j : Nat} {v : Int} (h : g ≠ 514) : cutV (setF Y g j v) = cutV Y := by
  unfold cutV
  rw [setF_o (yr514 (by omega)) (by omega), setF_o (yr514 (by omega)) (by omega), setF_o (yr514 (by omega)) (by omega), setF_o (yr514 (by omega)) (by omega), setF_o (yr514 (by omega)) (by omega), setF_o (yr514 (by omega)) (by omega)]
theorem wash_MS {C Y : V2} {code : List Int} {d v : Int} {t : S2} {n : Nat} (h : MS C Y code d t) : MS C (setF Y 516 n v) code d (st2 t 1547 0 n v) := by
  refine h.put (Or.inr (Or.inr rfl)) ?_
  obtain ⟨a1, a2, a3, a4, a5⟩ := h.2.1
  refine ⟨?_, ?_, fun k hk hk2 => ?_, fun k hk hk2 => ?_, fun k hk hk2 => ?_⟩
  · rw [setF_o yr512 (by omega), st2_ne (by omega)]; exact a1
  · rw [cut_o (by omega), st2_ne (by omega)]; exact a2
  · rw [setF_o (yr513 hk) (by omega), st2_ne (by omega)]; exact a3 k hk hk2
  · obtain ⟨b1, b2⟩ := a4 k hk hk2
    rw [setF_o (yr515 hk) (by omega), st2_ne (f' := 1548) (by omega), setF_e (yr516 hk), st2_d]
    refine ⟨?_, b2⟩
    by_cases e : k = n
    · subst e
      rw [if_pos ⟨rfl, rfl, rfl⟩, if_pos ⟨rfl, rfl⟩]
    · rw [if_neg (by omega), if_neg (by omega)]; exact b1
  · rw [setF_o (yr517 hk) (by omega), setF_o (yr518 hk) (by omega), st2_ne (by omega), st2_ne (by omega)]; exact a5 k hk hk2
theorem own_MS {C Y : V2} {code : List Int} {d v : Int} {t : S2} {n : Nat} (h : MS C Y code d t) : MS C (setF Y 513 n v) code d (st2 t 1544 0 n v) := by
  refine h.put (Or.inr (Or.inl rfl)) ?_
  obtain ⟨a1, a2, a3, a4, a5⟩ := h.2.1
  refine ⟨?_, ?_, fun k hk hk2 => ?_, fun k hk hk2 => ?_, fun k hk hk2 => ?_⟩
  · rw [setF_o yr512 (by omega), st2_ne (by omega)]; exact a1
  · rw [cut_o (by omega), st2_ne (by omega)]; exact a2
  · rw [setF_e (yr513 hk), st2_d]
    by_cases e : k = n
    · subst e
      rw [if_pos ⟨rfl, rfl, rfl⟩, if_pos ⟨rfl, rfl⟩]
    · rw [if_neg (by omega), if_neg (by omega)]; exact a3 k hk hk2
  · rw [setF_o (yr516 hk) (by omega), setF_o (yr515 hk) (by omega), st2_ne (by omega), st2_ne (by omega)]; exact a4 k hk hk2
  · rw [setF_o (yr517 hk) (by omega), setF_o (yr518 hk) (by omega), st2_ne (by omega), st2_ne (by omega)]; exact a5 k hk hk2
theorem cut_MS {C Y : V2} {code : List Int} {d v x : Int} {t : S2} {n : Nat} (h : MS C Y code d t) (hx : x = cutV (setF Y 514 n v)) : MS C (setF Y 514 n v) code d (st2 t 1537 0 6 x) := by
  refine h.put (Or.inl ⟨rfl, rfl⟩) ?_
  obtain ⟨a1, a2, a3, a4, a5⟩ := h.2.1
  refine ⟨?_, by rw [st2_eq]; exact hx, fun k hk hk2 => ?_, fun k hk hk2 => ?_, fun k hk hk2 => ?_⟩
  · rw [setF_o yr512 (by omega), st2_ne (by omega)]; exact a1
  · rw [setF_o (yr513 hk) (by omega), st2_ne (by omega)]; exact a3 k hk hk2
  · rw [setF_o (yr516 hk) (by omega), setF_o (yr515 hk) (by omega), st2_ne (by omega), st2_ne (by omega)]; exact a4 k hk hk2
  · rw [setF_o (yr517 hk) (by omega), setF_o (yr518 hk) (by omega), st2_ne (by omega), st2_ne (by omega)]; exact a5 k hk hk2
theorem bit_off : ∀ (c : Fin 64) (l : Fin 6), jand (jshr (c.val : Int) (l.val : Int)) 1 = 1 → jxor (c.val : Int) (jshl 1 (l.val : Int)) = (c.val : Int) - 2 ^ l.val := by decide +kernel
theorem bit_on : ∀ (c : Fin 64) (l : Fin 6), jand (jshr (c.val : Int) (l.val : Int)) 1 = 0 → jor (c.val : Int) (jshl 1 (l.val : Int)) = (c.val : Int) + 2 ^ l.val := by decide +kernel
theorem cut_set {Y : V2} {l : Nat} {v : Int} (hl : l < 6) : cutV (setF Y 514 l v) = cutV Y + (v - Y 514 l) * 2 ^ l := by
  have e : ∀ k, k < 6 → setF Y 514 l v 514 k = if k = l then v else Y 514 k := fun k hk => by
    rw [setF_e (yr514 hk)]
    by_cases q : k = l
    · rw [if_pos ⟨rfl, q⟩, if_pos q]
    · rw [if_neg (by omega), if_neg q]
  unfold cutV
  rw [e 0 (by omega), e 1 (by omega), e 2 (by omega), e 3 (by omega), e 4 (by omega), e 5 (by omega)]
  have : l = 0 ∨ l = 1 ∨ l = 2 ∨ l = 3 ∨ l = 4 ∨ l = 5 := by omega
  rcases this with rfl | rfl | rfl | rfl | rfl | rfl <;> simp <;> omega
theorem cut_off {C Y : V2} {l : Nat} (hY : YB C Y) (hl : l < 6) (h : Y 514 l = 1) : jxor (cutV Y) (jshl 1 l) = cutV (setF Y 514 l 0) := by
  have hb := cut_bd hY.2.2.1
  obtain ⟨c, hc⟩ := Int.eq_ofNat_of_zero_le hb.1
  have hbit := cut_bit hY.2.2.1 hl
  rw [h, hc] at hbit
  have := bit_off ⟨c, by omega⟩ ⟨l, hl⟩ hbit
  rw [cut_set hl, h, hc]
  rw [show jxor (c : Int) (jshl 1 l) = (c : Int) - 2 ^ l from this]
  omega
theorem cut_on {C Y : V2} {l : Nat} (hY : YB C Y) (hl : l < 6) (h : Y 514 l = 0) : jor (cutV Y) (jshl 1 l) = cutV (setF Y 514 l 1) := by
  have hb := cut_bd hY.2.2.1
  obtain ⟨c, hc⟩ := Int.eq_ofNat_of_zero_le hb.1
  have hbit := cut_bit hY.2.2.1 hl
  rw [h, hc] at hbit
  have := bit_on ⟨c, by omega⟩ ⟨l, hl⟩ hbit
  rw [cut_set hl, h, hc]
  rw [show jor (c : Int) (jshl 1 l) = (c : Int) + 2 ^ l from this]
  omega
