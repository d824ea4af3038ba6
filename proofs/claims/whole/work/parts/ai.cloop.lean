/-! THE CLAUSES of a court, one after another, in the class -/
/-- the x-th clause at q: the fault, or the end of the clause -/
def clX (n : Nat) (bs : Nat → Nat) (x q : Nat) (C B : V2) : Int ⊕ (Nat × V2 × V2) := if opK (tK n bs q) = true then (if x = 40 ∨ ¬ hsP (tK n bs q) C = true then .inl (1 + 8 * (q : Int) + 4) else clR n bs (tK n bs q) (nq n bs q) C B) else .inl (1 + 8 * (q : Int) + 0)
theorem CAt.kind {s : S2} {n m q : Nat} {bs : Nat → Nat} (h : CAt s n bs m q) : f32 s = some (tK n bs q) := by
  obtain ⟨⟨c, h1, h2⟩, h3, h4, h5⟩ := h
  rw [m32z h1 h3, h2]
theorem CEr.kind {s : S2} {n m : Nat} {e : Int} {bs : Nat → Nat} (h : CEr s n bs m e) : f32 s = some 0 := by
  obtain ⟨⟨c, h1⟩, h3, h4, h5⟩ := h
  exact m32e h1 (by omega)
theorem CAt.step {s : S2} {n m q : Nat} {bs : Nat → Nat} (h : CAt s n bs m q) : ∃ s', f36 s = some s' ∧ CAt s' n bs m (nq n bs q) ∧ Fr p13 s s' := by
  obtain ⟨⟨c, h1, h2⟩, h3, h4, h5⟩ := h
  have hn := tq_n h1
  rw [h2] at hn
  exact ⟨_, m36 h1, ⟨⟨_, h1.go, hn⟩, by rw [st2_ne (by omega)]; exact h3, h4, h5⟩, Fr.rf.st rfl⟩
theorem CAt.refuse {s : S2} {n m q : Nat} {k : Int} {bs : Nat → Nat} (h : CAt s n bs m q) (hk : 0 ≤ k ∧ k ≤ 7) : ∃ s', f34 k s = some s' ∧ CEr s' n bs m (1 + 8 * (q : Int) + k) ∧ Fr p13 s s' := by
  obtain ⟨⟨c, h1, h2⟩, h3, h4, h5⟩ := h
  refine ⟨_, m34 h1 h5 hk, ⟨⟨c, h1.rfS⟩, ?_, by omega, h5⟩, rfS_fr.mo fun f i w => b135_f2 (by have := p13_f.mp w; omega)⟩
  unfold rfS
  rw [if_neg (fun w => w h3), st2_eq, h2]
theorem CEr.expect {s : S2} {n m : Nat} {e : Int} {bs : Nat → Nat} (h : CEr s n bs m e) : f55 59 s = some s := by
  obtain ⟨⟨c, h1⟩, h3, h4, h5⟩ := id h
  unfold f55
  rw [h.kind, cP_s, if_pos (by decide), m34 h1 h5 (by omega), cP_s]
  unfold rfS
  rw [if_pos (by omega)]
theorem CAt.expect {s : S2} {n m q : Nat} {bs : Nat → Nat} (h : CAt s n bs m q) : ∃ s', f55 59 s = some s' ∧ Fr p13 s s' ∧ if tK n bs q = 59 then CAt s' n bs m (nq n bs q) else CEr s' n bs m (1 + 8 * (q : Int) + 0) := by
  unfold f55
  rw [h.kind, cP_s]
  by_cases c : tK n bs q = 59
  · obtain ⟨s', k1, k2, k3⟩ := h.step
    rw [if_neg (fun w => w c), k1, cP_s]
    exact ⟨s', rfl, k3, by rw [if_pos c]; exact k2⟩
  · obtain ⟨s', k1, k2, k3⟩ := h.refuse (k := 0) (by omega)
    rw [if_pos c, k1, cP_s]
    exact ⟨s', rfl, k3, by rw [if_neg c]; exact k2⟩
/-- from the state before a clause to the state behind it -/
theorem m19c {s : S2} {n m q x : Nat} {bs : Nat → Nat} {R : Type} (h : CAt s n bs m q) (hC : CB (cw s 5)) {j78 : S2 → Option R} : ∃ s', (jn j78 fun j78 => if ¬ (if opK (tK n bs q) = true then (1 : Int) else 0) = 0 then (jn (fun (_ : Unit) => cP (f34 4 s) fun s13 => j78 s13) fun j60 => if (x : Int) = 40 then (j60 ()) else cP (f35 (tK n bs q) s) fun r14 => if ¬ r14 = 0 then (cP (f36 s) fun s15 => cP (f37 (tK n bs q) s15) fun s16 => j78 s16) else j60 ()) else cP (f34 0 s) fun s17 => j78 s17) = j78 s' ∧ CRes s s' n bs m (clX n bs x q (cw s 5) (yv s 161)) := by
  have ht : cw s 5 384 0 = 0 ∨ cw s 5 384 0 = 1 := hC.2.2.2.2.2.2.2.1
  unfold clX
  simp only [jn]
  by_cases o : opK (tK n bs q) = true
  · rw [if_pos o, if_pos o, if_pos ne10]
    by_cases x4 : x = 40
    · obtain ⟨s', k1, k2, k3⟩ := h.refuse (k := 4) (by omega)
      rw [if_pos (show (x : Int) = 40 by omega), if_pos (Or.inl x4), k1, cP_s]
      exact ⟨s', rfl, k3.p13, k2, by rw [cw13 k3]; exact hC.cs⟩
    · rw [if_neg (show ¬ (x : Int) = 40 by omega), m35 ht, cP_s]
      by_cases p : hsP (tK n bs q) (cw s 5) = true
      · obtain ⟨s1, k1, k2, k3⟩ := h.step
        have hc1 : cw s1 5 = cw s 5 := cw13 k3
        obtain ⟨s2, l1, l2⟩ := m37 (K := tK n bs q) k2 (by rw [hc1]; exact hC) (by rw [hc1]; exact p)
        rw [hc1, yv13 k3] at l2
        rw [if_pos p, if_pos ne10, if_neg (show ¬ (x = 40 ∨ ¬ hsP (tK n bs q) (cw s 5) = true) from fun w => w.elim x4 (fun y => y p)), k1, cP_s, l1, cP_s]
        exact ⟨s2, rfl, k3.p13.tr l2.1, l2.2⟩
      · obtain ⟨s', k1, k2, k3⟩ := h.refuse (k := 4) (by omega)
        rw [if_neg p, if_neg (by decide), if_pos (Or.inr p), k1, cP_s]
        exact ⟨s', rfl, k3.p13, k2, by rw [cw13 k3]; exact hC.cs⟩
  · obtain ⟨s', k1, k2, k3⟩ := h.refuse (k := 0) (by omega)
    rw [if_neg o, if_neg o, if_neg (by decide), k1, cP_s]
    exact ⟨s', rfl, k3.p13, k2, by rw [cw13 k3]; exact hC.cs⟩
