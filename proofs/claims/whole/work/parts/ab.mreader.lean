/-! THE MODEL'S READER over the bytes -/
def MRd (s : S2) (n : Nat) (bs : Nat → Nat) (p : Nat) : Prop := HMt s bs n ∧ (∀ k, k < n → bs k < 256) ∧ n ≤ 400 ∧ s 1570 0 0 = p ∧ p ≤ n
theorem MRd.go {s : S2} {n p q : Nat} {bs : Nat → Nat} (h : MRd s n bs p) (hq : q ≤ n) : MRd (atP s q) n bs q := by
  obtain ⟨h1, h2, h3, h4, h5⟩ := h
  exact ⟨h1.at (by omega) (by omega), h2, h3, st2_eq, hq⟩
theorem MRd.bl {s : S2} {n p : Nat} {bs : Nat → Nat} (h : MRd s n bs p) : f163 s = some (atP s (sk n bs p)) ∧ MRd (atP s (sk n bs p)) n bs (sk n bs p) := by
  have hb := sk_bd (bs := bs) h.2.2.2.2
  exact ⟨m163 h.1 h.2.1 h.2.2.1 h.2.2.2.1 h.2.2.2.2, h.go hb.2⟩
theorem MRd.st {s : S2} {n p f k : Nat} {v : Int} {bs : Nat → Nat} (h : MRd s n bs p) (hf : f ≠ 1569 ∧ f ≠ 1579 ∧ f ≠ 1570) : MRd (st2 s f 0 k v) n bs p := by
  obtain ⟨h1, h2, h3, h4, h5⟩ := h
  exact ⟨h1.at hf.1 hf.2.1, h2, h3, by rw [st2_ne (by omega)]; exact h4, h5⟩
theorem MRd.fl {s : S2} {n p q : Nat} {k : Int} {bs : Nat → Nat} (h : MRd s n bs p) : MRd (flS s k q) n bs p := by
  unfold flS
  split
  · exact h
  · exact h.st (by omega)
theorem atP_o {s : S2} {p f i k : Nat} (h : f ≠ 1570) : atP s p f i k = s f i k := st2_ne (by omega)
theorem fl_e {s : S2} {k : Int} {p : Nat} (h : s 1571 0 0 = 0) : flS s k p 1571 0 0 = 1 + 8 * p + k := by
  unfold flS
  rw [if_neg (fun w => w h), st2_eq]
theorem fl_o {s : S2} {k : Int} {p f i q : Nat} (h : f ≠ 1571) : flS s k p f i q = s f i q := by
  unfold flS
  split
  · rfl
  · exact st2_ne (by omega)
theorem tL_d {n q : Nat} {bs : Nat → Nat} (h : isD (bt n bs q) = true) : tL n bs q = run isD n bs q := if_pos h
theorem tV_d {n q : Nat} {bs : Nat → Nat} (h : isD (bt n bs q) = true) : tV n bs q = nV n bs q := if_pos h
theorem nV_bd {n q : Nat} {bs : Nat → Nat} : -1 ≤ nV n bs q ∧ nV n bs q ≤ 99999 := by
  unfold nV
  split
  · rename_i h
    have := dv_5 (n := n) (bs := bs) (p := q) (k := run isD n bs q) (by omega) h
    omega
  · omega
/-- what a reader may leave at a fault -/
def MF1 (s s' : S2) (e : Int) (n : Nat) (bs : Nat → Nat) : Prop := ∃ p, MRd s' n bs p ∧ s' 1571 0 0 = e ∧ ∀ f i, f ≠ 1570 → f ≠ 1571 → s' f i = s f i
theorem m170 {s : S2} {n p : Nat} {bs : Nat → Nat} {lo hi : Int} (h : MRd s n bs p) (e : s 1571 0 0 = 0) (hlo : 0 ≤ lo ∧ lo ≤ 1000) (hhi : -1000 ≤ hi ∧ hi ≤ 1000) : if numB n bs lo hi (sk n bs p) = true then f170 lo hi s = some (tV n bs (sk n bs p), atP s (sk n bs p + tL n bs (sk n bs p))) else ∃ x s', f170 lo hi s = some (x, s') ∧ i32 x ∧ MF1 s s' (1 + 8 * (sk n bs p : Int) + numE n bs (sk n bs p)) n bs := by
  obtain ⟨k1, k2⟩ := h.bl
  have hq := sk_bd (bs := bs) h.2.2.2.2
  generalize sk n bs p = q at k1 k2 hq ⊢
  have e1 : atP s q 1571 0 0 = 0 := by rw [atP_o (by omega)]; exact e
  have e0 : atP s q 1570 0 0 = q := st2_eq
  obtain ⟨g1, g2, g3, g4, g5⟩ := id k2
  have hv := nV_bd (n := n) (bs := bs) (q := q)
  have key : ∀ (x : Int) (z : S2), f171 99999 (atP s q) = some (x, z) → f170 lo hi s = if ¬ z 1571 0 0 = 0 then some (x, z) else cP (f173 (ji2l x) (ji2l lo) (ji2l hi)) fun r7 => if ¬ r7 = 0 then some (x, z) else cP (f167 1 q z) fun s8 => some (x, s8) := fun x z hz => by
    unfold f170
    simp only [bnd, jn]
    rw [k1, cP_s, e1, if_neg (show ¬ ¬ (0 : Int) = 0 by decide), hz, cR_s, e0]
  have hm := m171 g1 g2 g3 g4 g5
  unfold numB numE
  by_cases d : isD (bt n bs q) = true
  · rw [if_pos d] at hm
    have hr := run_bd (q := isD) (bs := bs) g5
    by_cases c : run isD n bs q ≤ 5
    · rw [if_pos c, atP_at] at hm
      have k := key _ _ hm
      have e2 : atP s (q + run isD n bs q) 1571 0 0 = 0 := by rw [atP_o (by omega)]; exact e
      rw [if_neg (show ¬ ¬ atP s (q + run isD n bs q) 1571 0 0 = 0 from fun w => w e2), ji2l_e (by omega) (by omega), ji2l_e (by omega) (by omega), ji2l_e (by omega) (by omega)] at k
      rw [tV_d d, tL_d d]
      by_cases w : lo ≤ nV n bs q ∧ nV n bs q ≤ hi
      · rw [if_pos (decide_eq_true ⟨d, w⟩), k, m173t w, cP_s, if_pos ne10]
      · rw [if_neg (by rw [decide_eq_false (fun y => w y.2)]; decide)]
        rw [m173f w, cP_s, if_neg (by decide), m167 (by omega) (by omega), cP_s] at k
        refine ⟨_, _, k, by unfold i32; omega, q + run isD n bs q, (h.go hr).fl, ?_, fun f i w1 w2 => ?_⟩
        · rw [fl_e e2, if_pos d]
        · funext x
          rw [fl_o w2, atP_o w1]
    · rw [if_neg c, atP_at] at hm
      have k := key _ _ hm
      have e2 : atP s (q + run isD n bs q) 1571 0 0 = 0 := by rw [atP_o (by omega)]; exact e
      have hv5 := dv_5 (n := n) (bs := bs) (p := q) (k := 5) (by omega) (by omega)
      have hn1 : nV n bs q = -1 := if_neg c
      rw [if_pos (show ¬ flS (atP s (q + run isD n bs q)) 1 q 1571 0 0 = 0 by rw [fl_e e2]; omega)] at k
      rw [tV_d d, hn1, if_neg (by rw [decide_eq_false (fun y => by omega)]; decide)]
      refine ⟨_, _, k, by unfold i32; omega, q + run isD n bs q, (h.go hr).fl, ?_, fun f i w1 w2 => ?_⟩
      · rw [fl_e e2, if_pos d]
      · funext x
        rw [fl_o w2, atP_o w1]
  · rw [if_neg d] at hm
    have k := key _ _ hm
    rw [if_pos (show ¬ flS (atP s q) 0 q 1571 0 0 = 0 by rw [fl_e e1]; omega)] at k
    rw [if_neg (by rw [decide_eq_false (fun y => d y.1)]; decide)]
    refine ⟨_, _, k, by unfold i32; omega, q, k2.fl, ?_, fun f i w1 w2 => ?_⟩
    · rw [fl_e e1, if_neg d]
    · funext x
      rw [fl_o w2, atP_o w1]
theorem m170e {s : S2} {n p : Nat} {bs : Nat → Nat} {lo hi : Int} (h : MRd s n bs p) (e : ¬ s 1571 0 0 = 0) : f170 lo hi s = some (0, atP s (sk n bs p)) := by
  obtain ⟨k1, k2⟩ := h.bl
  have e1 : ¬ atP s (sk n bs p) 1571 0 0 = 0 := by rw [atP_o (by omega)]; exact e
  unfold f170
  simp only [bnd, jn]
  rw [k1, cP_s, if_pos e1, if_pos e1]
