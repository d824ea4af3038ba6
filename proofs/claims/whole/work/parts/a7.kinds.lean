/-! THE CLASS' WORDS -/
def wT (i : Nat) : Nat := [3, 5, 9, 10, 11, 12, 13, 14, 15, 16, 17, 18, 7, 8, 19, 21, 22, 20, 2, 4, 6].getD i 2
def wC : Nat → Nat × Nat
  | 0 => (0, 0)
  | t + 1 => if (m2_tb 0).getD t 0 = 32 then ((wC t).1 + 1, t + 1) else wC t
theorem wC_s {t : Nat} : wC (t + 1) = if (m2_tb 0).getD t 0 = 32 then ((wC t).1 + 1, t + 1) else wC t := rfl
theorem tb0_len : (m2_tb 0).length = 109 := by decide +kernel
theorem wC_k : ∀ t : Fin 109, (wC t.val).2 ≤ t.val ∧ (wC t.val).1 ≤ 20 ∧ ((m2_tb 0).getD t.val 0 = 32 → t.val - (wC t.val).2 = (m2_tb (wT (wC t.val).1)).length ∧ ∀ k : Fin 8, k.val < t.val - (wC t.val).2 → (m2_tb 0).getD ((wC t.val).2 + k.val) 0 = (m2_tb (wT (wC t.val).1)).getD k.val 0) := by decide +kernel
theorem wC_e : wC 109 = (21, 109) := by decide +kernel
theorem wT_k : ∀ i : Fin 21, wT i.val < 23 ∧ 2 ≤ wT i.val := by decide +kernel
theorem anyN_f {p : Nat → Bool} : ∀ {n : Nat}, (∀ i, i < n → p i = false) → anyN n p = false
  | 0, _ => rfl
  | n + 1, h => by
    rw [anyN_s, anyN_f fun i hi => h i (by omega), h n (by omega)]
    rfl
theorem m30 {s : S2} {n st p L : Nat} {bs : Nat → Nat} (h : HC s bs n) (hn : n ≤ 400) (h1 : st + L ≤ 109) (h2 : p + L ≤ n) : (f30 st p L s = some 1 ∧ ∀ k, k < L → bs (p + k) = (m2_tb 0).getD (st + k) 0) ∨ (f30 st p L s = some 0 ∧ ∃ k, k < L ∧ bs (p + k) ≠ (m2_tb 0).getD (st + k) 0) := by
  have hl := tb0_len
  unfold f30
  rw [scan_cP L (fun k => !decide (bs (p + k) = (m2_tb 0).getD (st + k) 0)) (.inl ()) (.inr ()) (by omega)]
  · by_cases q : ∀ k, k < L → bs (p + k) = (m2_tb 0).getD (st + k) 0
    · refine Or.inl ⟨?_, q⟩
      rw [if_neg ?_]
      · rfl
      · rw [Bool.not_eq_true]
        exact anyN_f fun k hk => by
          rw [decide_eq_true (q k hk)]
          rfl
    · obtain ⟨k, hk⟩ := Classical.not_forall.mp q
      obtain ⟨hk, hk2⟩ := Classical.not_imp.mp hk
      refine Or.inr ⟨?_, k, hk, hk2⟩
      rw [if_pos (anyN_ft hk (by rw [decide_eq_false hk2]; rfl))]
      rfl
  · intro i hi hp
    have hp : ¬ bs (p + i) = (m2_tb 0).getD (st + i) 0 := by
      have := (Bool.not_eq_true' _).mp hp
      exact of_decide_eq_false this
    show f30_a st p L i s = _
    unfold f30_a
    simp only [jn]
    rw [if_neg (by omega), m274 (by omega), cP_s, jadd_e (by omega) (by omega), jadd_e (by omega) (by omega), if_neg (by omega), if_neg (by omega), if_neg ne10, show ((st : Int) + (i : Int)) = ((st + i : Nat) : Int) by omega, m276 (by omega) (by omega), cP_s, ld_t (by omega) (by omega), show ((p : Int) + (i : Int)).toNat = p + i by omega, (h.2 _ (by omega)).2, if_neg (by omega)]
  · intro i hi hp
    have hp : bs (p + i) = (m2_tb 0).getD (st + i) 0 := by
      have := (Bool.not_eq_false' _).mp hp
      exact of_decide_eq_true this
    show f30_a st p L i s = _
    unfold f30_a
    simp only [jn]
    rw [if_neg (by omega), m274 (by omega), cP_s, jadd_e (by omega) (by omega), jadd_e (by omega) (by omega), if_neg (by omega), if_neg (by omega), if_neg ne10, show ((st : Int) + (i : Int)) = ((st + i : Nat) : Int) by omega, m276 (by omega) (by omega), cP_s, ld_t (by omega) (by omega), show ((p : Int) + (i : Int)).toNat = p + i by omega, (h.2 _ (by omega)).2, if_pos (by omega), bnd, jadd_e (by omega) (by omega)]
    rfl
  · show f30_a st p L L s = _
    unfold f30_a
    rw [if_pos (by omega)]
/-- a word's kind -/
def wk (n : Nat) (bs : Nat → Nat) (p : Nat) : Int := match fstN (fun i => wAt n bs p (m2_tb (wT i))) 21 with
  | some i => 256 + (i : Int)
  | none => 1
theorem fstN_n {p : Nat → Bool} : ∀ {n : Nat}, (∀ i, i < n → p i = false) → fstN p n = none
  | 0, _ => rfl
  | n + 1, h => by
    unfold fstN
    rw [fstN_n fun i hi => h i (by omega)]
    simp [h n (by omega)]
theorem fstN_f {p : Nat → Bool} {i : Nat} (h : ∀ j, j < i → p j = false) (hp : p i = true) : ∀ {n : Nat}, i < n → fstN p n = some i
  | 0, hi => absurd hi (by omega)
  | n + 1, hi => by
    unfold fstN
    by_cases e : i = n
    · subst e
      rw [fstN_n h]
      simp [hp]
    · rw [fstN_f h hp (n := n) (by omega)]
theorem m29 {s : S2} {n p : Nat} {bs : Nat → Nat} (h : HC s bs n) (hn : n ≤ 400) (hp : p ≤ n) : f29 p (run isLt n bs p) s = some (wk n bs p) := by
  have hbd := run_bd (q := isLt) (bs := bs) hp
  have hl := tb0_len
  have hin : ∀ k, k < run isLt n bs p → bt n bs (p + k) = (bs (p + k) : Int) := fun k hk => bt_t (by omega)
  generalize hL : run isLt n bs p = L at hbd hin
  have hw : ∀ i, i < 21 → ((wAt n bs p (m2_tb (wT i)) = true) ↔ (L = (m2_tb (wT i)).length ∧ ∀ k, k < L → bs (p + k) = (m2_tb (wT i)).getD k 0)) := fun i hi => by
    unfold wAt
    rw [decide_eq_true_iff, hL]
    constructor
    · rintro ⟨g1, g2⟩
      refine ⟨g1, fun k hk => ?_⟩
      have := g2 k (by omega)
      rw [hin k hk] at this
      omega
    · rintro ⟨g1, g2⟩
      refine ⟨g1, fun k hk => ?_⟩
      rw [hin k (by omega), g2 k (by omega)]
  unfold f29
  refine inv_cP (a := ((256 : Int), (0 : Int), (0 : Int))) (P := fun e => e = some (wk n bs p)) (fun (t : Nat) (z : Int × Int × Int) => z.1 = 256 + ((wC t).1 : Int) ∧ z.2.1 = (wC t).2 ∧ z.2.2 = t ∧ ∀ i, i < (wC t).1 → wAt n bs p (m2_tb (wT i)) = false) (fun (r : Int ⊕ Unit) => (∃ i : Nat, i < 21 ∧ r = .inl (256 + (i : Int)) ∧ (∀ j, j < i → wAt n bs p (m2_tb (wT j)) = false) ∧ wAt n bs p (m2_tb (wT i)) = true) ∨ (r = .inr () ∧ ∀ i, i < 21 → wAt n bs p (m2_tb (wT i)) = false)) 109 (by decide) ⟨rfl, rfl, rfl, fun i hi => absurd hi (by show ¬ i < 0; omega)⟩ ?_ ?_
  · rintro t ⟨x, y, z⟩ ht ⟨g1, g2, g3, g4⟩
    dsimp only at g1 g2 g3 g4 ⊢
    subst g1 g2 g3
    by_cases e : t = 109
    · subst e
      refine Or.inr ⟨.inr (), ?_, Or.inr ⟨rfl, fun i hi => g4 i (by rw [wC_e]; exact hi)⟩⟩
      show f29_a p L _ _ _ s = _
      unfold f29_a
      rw [m274 (by omega), cP_s, if_pos (by omega)]
    · obtain ⟨w1, w2, w3⟩ := wC_k ⟨t, by omega⟩
      dsimp only at w1 w2 w3
      have hch : f276 0 t = some ((((m2_tb 0).getD t 0 : Nat)) : Int) := m276 (by omega) (by omega)
      by_cases c : (m2_tb 0).getD t 0 = 32
      · obtain ⟨w4, w5⟩ := w3 c
        have hs : wC (t + 1) = ((wC t).1 + 1, t + 1) := by rw [wC_s, if_pos c]
        have w6 := hw (wC t).1 (by omega)
        have w7 := lenk ⟨wT (wC t).1, (wT_k ⟨(wC t).1, by omega⟩).1⟩
        have w8 := (w7.2 (wT_k ⟨(wC t).1, by omega⟩).2).2
        dsimp only at w8
        have st0 : f29_a p L (256 + ((wC t).1 : Int)) ((wC t).2 : Int) t s = if ¬ (t : Int) - ((wC t).2 : Int) = L then some (.inl (256 + (((wC (t + 1)).1 : Nat) : Int), (((wC (t + 1)).2 : Nat) : Int), ((t + 1 : Nat) : Int))) else cP (f30 (wC t).2 p L s) fun r13 => if r13 = 0 then some (.inl (256 + (((wC (t + 1)).1 : Nat) : Int), (((wC (t + 1)).2 : Nat) : Int), ((t + 1 : Nat) : Int))) else some (.inr (.inl (256 + ((wC t).1 : Int)))) := by
          unfold f29_a
          simp only [jn, bnd]
          rw [m274 (by omega), cP_s, if_neg (by omega), hch, cP_s, c, if_neg (by decide), jsub_e (by omega) (by omega), jadd_e (by omega) (by omega), jadd_e (by omega) (by omega), hs]
          rw [show 256 + ((wC t).1 : Int) + 1 = 256 + (((wC t).1 + 1 : Nat) : Int) by omega]
          rfl
        have miss : wAt n bs p (m2_tb (wT (wC t).1)) = false → ∀ i, i < (wC (t + 1)).1 → wAt n bs p (m2_tb (wT i)) = false := fun hm i hi => by
          rw [hs] at hi
          dsimp only at hi
          by_cases q : i = (wC t).1
          · rw [q]; exact hm
          · exact g4 i (by omega)
        by_cases q : t - (wC t).2 = L
        · rcases m30 (st := (wC t).2) (L := L) h hn (by omega) (by omega) with ⟨k1, k2⟩ | ⟨k1, k, k2, k3⟩
          · refine Or.inr ⟨.inl (256 + ((wC t).1 : Int)), ?_, Or.inl ⟨(wC t).1, by omega, rfl, g4, w6.mpr ⟨by omega, fun k hk => ?_⟩⟩⟩
            · show f29_a p L _ _ _ s = _
              rw [st0, if_neg (show ¬ ¬ (t : Int) - ((wC t).2 : Int) = L by omega), k1, cP_s, if_neg ne10]
            · rw [k2 k hk]
              exact w5 ⟨k, by omega⟩ (by dsimp only; omega)
          · refine Or.inl ⟨by omega, (256 + (((wC (t + 1)).1 : Nat) : Int), (((wC (t + 1)).2 : Nat) : Int), ((t + 1 : Nat) : Int)), ?_, rfl, rfl, rfl, miss (Bool.eq_false_iff.mpr fun w => ?_)⟩
            · show f29_a p L _ _ _ s = _
              rw [st0, if_neg (show ¬ ¬ (t : Int) - ((wC t).2 : Int) = L by omega), k1, cP_s, if_pos rfl]
            · have := (w6.mp w).2 k k2
              have e5 := w5 ⟨k, by omega⟩ (by dsimp only; omega)
              dsimp only at e5
              rw [e5] at k3
              exact k3 this
        · refine Or.inl ⟨by omega, (256 + (((wC (t + 1)).1 : Nat) : Int), (((wC (t + 1)).2 : Nat) : Int), ((t + 1 : Nat) : Int)), ?_, rfl, rfl, rfl, miss (Bool.eq_false_iff.mpr fun w => ?_)⟩
          · show f29_a p L _ _ _ s = _
            rw [st0, if_pos (show ¬ (t : Int) - ((wC t).2 : Int) = L by omega)]
          · have := (w6.mp w).1
            omega
      · have hs : wC (t + 1) = wC t := by rw [wC_s, if_neg c]
        refine Or.inl ⟨by omega, (256 + ((wC t).1 : Int), ((wC t).2 : Int), ((t + 1 : Nat) : Int)), ?_, by rw [hs], by rw [hs], rfl, by rw [hs]; exact g4⟩
        show f29_a p L _ _ _ s = _
        unfold f29_a
        rw [m274 (by omega), cP_s, if_neg (by omega), hch, cP_s, if_pos (by omega), bnd, jadd_e (by omega) (by omega)]
        rfl
  · rintro r (⟨i, g1, rfl, g3, g4⟩ | ⟨rfl, g2⟩)
    · unfold wk
      rw [fstN_f (p := fun i => wAt n bs p (m2_tb (wT i))) g3 g4 g1]
      rfl
    · unfold wk
      rw [fstN_n (p := fun i => wAt n bs p (m2_tb (wT i))) g2]
      rfl
