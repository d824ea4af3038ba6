/-! WORDS on both sides -/
theorem m274k : ∀ j : Fin 23, f274 j.val = some ((m2_tb j.val).length : Int) := by decide +kernel
theorem m274 {j : Nat} (h : j < 23) : f274 j = some ((m2_tb j).length : Int) := m274k ⟨j, h⟩
theorem m276k : ∀ j : Fin 23, ∀ x : Fin 140, x.val < (m2_tb j.val).length → f276 j.val (x.val : Int) = some ((((m2_tb j.val).getD x.val 0 : Nat)) : Int) := by decide +kernel
theorem lenk : ∀ j : Fin 23, (m2_tb j.val).length ≤ 133 ∧ (2 ≤ j.val → 0 < (m2_tb j.val).length ∧ (m2_tb j.val).length ≤ 7) := by decide +kernel
theorem m276 {j x : Nat} (h : j < 23) (hx : x < (m2_tb j).length) : f276 j x = some ((((m2_tb j).getD x 0 : Nat)) : Int) := by
  have := (lenk ⟨j, h⟩).1
  dsimp only at this
  exact m276k ⟨j, h⟩ ⟨x, by omega⟩ hx
theorem b2b_s : ∀ b : Fin 256, b.val < 128 → ji2b (b.val : Int) = (b.val : Int) := by decide +kernel
/-- the word w stands at p, and no letter behind it -/
def wAt (n : Nat) (bs : Nat → Nat) (p : Nat) (w : List Nat) : Bool := decide (run isLt n bs p = w.length ∧ ∀ k, k < w.length → bt n bs (p + k) = ((w.getD k 0 : Nat) : Int))
theorem isLt_t {x : Int} (h : isLt x = true) : 97 ≤ x ∧ x ≤ 122 := of_decide_eq_true h
theorem isLt_f {x : Int} (h : isLt x = false) : ¬ (97 ≤ x ∧ x ≤ 122) := of_decide_eq_false h
theorem m166a {s : S2} {n : Nat} {bs : Nat → Nat} {p : Nat} (h : HMt s bs n) (hb : ∀ k, k < n → bs k < 256) (hn : n ≤ 400) (hpn : p ≤ n) : itr (fun x3 => f166_a x3 s) am_fu (p : Int) = some ((p + run isLt n bs p : Nat) : Int) := by
  have hbd := run_bd (q := isLt) (bs := bs) hpn
  refine itr_seq (fun i => ((p + i : Nat) : Int)) (run isLt n bs p) _ ?_ ?_ am_fu (fu_lt (by omega))
  · intro i hi
    have hin := isLt_t (run_in hi)
    have hlt : p + i < n := bt_lt (bs := bs) (by omega)
    have e := b2b_s ⟨bs (p + i), hb _ hlt⟩ (by rw [bt_t hlt] at hin; dsimp only; omega)
    dsimp only at e
    rw [bt_t hlt] at hin
    show f166_a _ s = _
    unfold f166_a
    rw [h.1, bnd, if_neg (by omega), ld_t (by omega) (by omega), Int.toNat_natCast, h.2 _ hlt, e, if_neg (by omega), ld_t (by omega) (by omega), Int.toNat_natCast, h.2 _ hlt, e, if_neg (by omega), bnd, jadd_e (by omega) (by omega)]
    rfl
  · have hend := run_end (q := isLt) (n := n) (bs := bs) (p := p) rfl
    show f166_a _ s = _
    unfold f166_a
    rw [h.1, bnd]
    by_cases e : n ≤ p + run isLt n bs p
    · rw [if_pos (by omega)]
    · have hlt : p + run isLt n bs p < n := by omega
      rw [bt_t hlt] at hend
      have e2 := b2b_l ⟨bs (p + run isLt n bs p), hb _ hlt⟩
      dsimp only at e2
      rw [hend] at e2
      have e3 := isLt_f e2
      rw [if_neg (by omega), ld_t (by omega) (by omega), Int.toNat_natCast, h.2 _ hlt]
      by_cases q : ji2b ((bs (p + run isLt n bs p) : Nat) : Int) < 97
      · rw [if_pos q]
      · rw [if_neg q, ld_t (by omega) (by omega), Int.toNat_natCast, h.2 _ hlt, if_pos (by omega)]
theorem m166b {s : S2} {n j : Nat} {bs : Nat → Nat} {p : Nat} (h : HMt s bs n) (hb : ∀ k, k < n → bs k < 256) (hn : n ≤ 400) (hp : s 1570 0 0 = p) (hpn : p ≤ n) (hj : j < 23) (hj2 : 2 ≤ j) (hr : run isLt n bs p = (m2_tb j).length) : itr (fun (x14, x15) => f166_b j x14 x15 s) am_fu (1, 0) = some (if ∀ k, k < (m2_tb j).length → bt n bs (p + k) = (((m2_tb j).getD k 0 : Nat) : Int) then 1 else 0) := by
  have hbd := run_bd (q := isLt) (bs := bs) hpn
  obtain ⟨hl1, hl2⟩ := lenk ⟨j, hj⟩
  obtain ⟨hl3, hl4⟩ := hl2 hj2
  dsimp only at hl1 hl3 hl4
  obtain ⟨r, k1, k2⟩ := itr_inv (b := fun (x14, x15) => f166_b j x14 x15 s) (fun (i : Nat) (z : Int × Int) => z.2 = i ∧ ((z.1 = 1 ∧ ∀ k, k < i → bt n bs (p + k) = (((m2_tb j).getD k 0 : Nat) : Int)) ∨ (z.1 = 0 ∧ ∃ k, k < (m2_tb j).length ∧ bt n bs (p + k) ≠ (((m2_tb j).getD k 0 : Nat) : Int)))) (fun (r : Int) => (r = 1 ∧ ∀ k, k < (m2_tb j).length → bt n bs (p + k) = (((m2_tb j).getD k 0 : Nat) : Int)) ∨ (r = 0 ∧ ∃ k, k < (m2_tb j).length ∧ bt n bs (p + k) ≠ (((m2_tb j).getD k 0 : Nat) : Int))) (m2_tb j).length (by
    rintro i ⟨x, w⟩ hi ⟨g1, g2⟩
    dsimp only at g1 g2 ⊢
    subst g1
    by_cases e : i = (m2_tb j).length
    · refine Or.inr ⟨x, ?_, ?_⟩
      · show f166_b j x i s = _
        unfold f166_b
        rw [m274 hj, cP_s, if_pos (by omega)]
      · rw [e] at g2
        exact g2
    · rcases g2 with ⟨rfl, g2⟩ | ⟨rfl, g2⟩
      · refine Or.inl ⟨by omega, ?_⟩
        have hin := isLt_t (run_in (q := isLt) (n := n) (bs := bs) (p := p) (k := i) (by omega))
        have hlt : p + i < n := bt_lt (bs := bs) (by omega)
        rw [bt_t hlt] at hin
        have e3 := b2b_s ⟨bs (p + i), hb _ hlt⟩ (by dsimp only; omega)
        dsimp only at e3
        have st : f166_b j 1 i s = if ¬ ((bs (p + i) : Nat) : Int) = (((m2_tb j).getD i 0 : Nat) : Int) then some (.inl (0, ((i + 1 : Nat) : Int))) else some (.inl (1, ((i + 1 : Nat) : Int))) := by
          unfold f166_b
          simp only [bnd]
          rw [m274 hj, cP_s, if_neg (by omega), if_neg ne10, hp, jadd_e (by omega) (by omega), ld_t (by omega) (by omega), show ((p : Int) + (i : Int)).toNat = p + i by omega, h.2 _ hlt, e3, m276 hj (by omega), cP_s, jadd_e (by omega) (by omega)]
          rfl
        by_cases q : ((bs (p + i) : Nat) : Int) = (((m2_tb j).getD i 0 : Nat) : Int)
        · refine ⟨(1, ((i + 1 : Nat) : Int)), ?_, rfl, Or.inl ⟨rfl, fun k hk => ?_⟩⟩
          · show f166_b j 1 i s = _
            rw [st, if_neg (fun w => w q)]
          · by_cases e4 : k = i
            · subst e4
              rw [bt_t hlt]
              exact q
            · exact g2 k (by omega)
        · refine ⟨(0, ((i + 1 : Nat) : Int)), ?_, rfl, Or.inr ⟨rfl, i, by omega, by rw [bt_t hlt]; exact q⟩⟩
          show f166_b j 1 i s = _
          rw [st, if_pos q]
      · refine Or.inr ⟨0, ?_, Or.inr ⟨rfl, g2⟩⟩
        show f166_b j 0 i s = _
        unfold f166_b
        rw [m274 hj, cP_s, if_neg (by omega), if_pos rfl]) am_fu (fu_lt (by omega)) (1, 0) ⟨rfl, Or.inl ⟨rfl, fun k hk => absurd hk (by omega)⟩⟩
  rw [k1]
  rcases k2 with ⟨rfl, g⟩ | ⟨rfl, k, g1, g2⟩
  · rw [if_pos g]
  · rw [if_neg (fun w => g2 (w k g1))]
theorem m166 {s : S2} {n j : Nat} {bs : Nat → Nat} {p : Nat} (h : HMt s bs n) (hb : ∀ k, k < n → bs k < 256) (hn : n ≤ 400) (hp : s 1570 0 0 = p) (hpn : p ≤ n) (hj : j < 23) (hj2 : 2 ≤ j) : f166 j s = some (if wAt n bs p (m2_tb j) = true then 1 else 0) := by
  have hbd := run_bd (q := isLt) (bs := bs) hpn
  obtain ⟨hl1, hl2⟩ := lenk ⟨j, hj⟩
  obtain ⟨hl3, hl4⟩ := hl2 hj2
  dsimp only at hl1 hl3 hl4
  unfold f166
  simp only [bnd, jn]
  rw [hp, m166a h hb hn hpn, cP_s, m274 hj, cP_s, jsub_e (by omega) (by omega)]
  unfold wAt
  by_cases c : run isLt n bs p = (m2_tb j).length
  · rw [if_neg (show ¬ ¬ ((p + run isLt n bs p : Nat) : Int) - p = ((m2_tb j).length : Int) by omega), m166b h hb hn hp hpn hj hj2 c, cP_s]
    by_cases g : ∀ k, k < (m2_tb j).length → bt n bs (p + k) = (((m2_tb j).getD k 0 : Nat) : Int)
    · rw [if_pos g, gd_t (Or.inr rfl), if_pos (decide_eq_true ⟨c, g⟩)]
    · rw [if_neg g, gd_t (Or.inl rfl), if_neg (by rw [decide_eq_false (fun w => g w.2)]; decide)]
  · rw [if_pos (show ¬ ((p + run isLt n bs p : Nat) : Int) - p = ((m2_tb j).length : Int) by omega)]
    rw [itr_now (b := fun (x14, x15) => f166_b j x14 x15 s) (a := ((0 : Int), (0 : Int))) (r := (0 : Int)) (by
      show f166_b j 0 0 s = _
      unfold f166_b
      rw [m274 hj, cP_s, if_neg (by omega), if_pos rfl]), cP_s, gd_t (Or.inl rfl), if_neg (by rw [decide_eq_false (fun w => c w.1)]; decide)]
