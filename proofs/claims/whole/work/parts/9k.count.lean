/-! COUNT on both sides -/
def cutN (Y : V2) : Nat → Int
  | 0 => 0
  | i + 1 => jor (cutN Y i) (jshl (Y 514 i) i)
theorem cutN_6 : ∀ b0 b1 b2 b3 b4 b5 : Fin 2, jor (jor (jor (jor (jor (jor 0 (jshl (b0.val : Int) 0)) (jshl (b1.val : Int) 1)) (jshl (b2.val : Int) 2)) (jshl (b3.val : Int) 3)) (jshl (b4.val : Int) 4)) (jshl (b5.val : Int) 5) = (b0.val : Int) + 2 * b1.val + 4 * b2.val + 8 * b3.val + 16 * b4.val + 32 * b5.val := by decide +kernel
theorem fin2 {x : Int} (h : x = 0 ∨ x = 1) : ∃ b : Fin 2, (b.val : Int) = x := by
  rcases h with rfl | rfl
  · exact ⟨0, rfl⟩
  · exact ⟨1, rfl⟩
theorem cutN_V {Y : V2} (h : ∀ l, l < 6 → Y 514 l = 0 ∨ Y 514 l = 1) : cutN Y 6 = cutV Y := by
  obtain ⟨b0, h0⟩ := fin2 (h 0 (by omega)); obtain ⟨b1, h1⟩ := fin2 (h 1 (by omega)); obtain ⟨b2, h2⟩ := fin2 (h 2 (by omega)); obtain ⟨b3, h3⟩ := fin2 (h 3 (by omega)); obtain ⟨b4, h4⟩ := fin2 (h 4 (by omega)); obtain ⟨b5, h5⟩ := fin2 (h 5 (by omega))
  show jor (jor (jor (jor (jor (jor 0 (jshl (Y 514 0) 0)) (jshl (Y 514 1) 1)) (jshl (Y 514 2) 2)) (jshl (Y 514 3) 3)) (jshl (Y 514 4) 4)) (jshl (Y 514 5) 5) = cutV Y
  unfold cutV
  rw [← h0, ← h1, ← h2, ← h3, ← h4, ← h5]
  exact cutN_6 b0 b1 b2 b3 b4 b5
theorem m151 {y : Nat} {s : S2} (h : ∀ l, l < 6 → yv s y 514 l = 0 ∨ yv s y 514 l = 1) : f151 y s = some (cutV (yv s y)) := by
  unfold f151
  refine seq_cP (fun i => (cutN (yv s y) i, (i : Int))) 6 (cutN (yv s y) 6) rfl (by omega) ?_ ?_ (by rw [cutN_V h])
  · intro i hi
    show f151_a y _ _ s = _
    unfold f151_a
    have e : s 514 y i = yv s y 514 i := (yv514 hi).symm
    rw [if_neg (by omega), ld_t (by omega) (by omega), Int.toNat_natCast, bnd, bnd, jadd_e (by omega) (by omega), e]
    rfl
  · rfl
theorem call_count {s : S2} {a : Int} (h : Inv s) : ∃ r, f150 a s = some r ∧ f268 a s = some r := by
  obtain ⟨R, K, hB, hW, hR⟩ := h.rel
  have hTP : TP s := by obtain ⟨_, _, _, q, _⟩ := h; exact q
  have hd : s 1589 0 0 = 0 := by obtain ⟨_, _, _, _, _, _, _, q⟩ := h; exact q
  have hM := hR.2.2.2.2.2.2.2
  have hC := hR.2.2.1
  have hY := hR.2.2.2.1
  have hcc := hC.1
  obtain ⟨n, hn, n1, n2, -⟩ := hTP
  obtain ⟨-, -, hU, hL, hF⟩ := hW
  obtain ⟨m, p, u1, u2, u3, u4, u5, -⟩ := hU
  obtain ⟨g, l1, l2, l3, -⟩ := hL
  obtain ⟨q1, q2, q3, q4, q5, q6⟩ := hF
  rw [uw1 (by omega)] at u3 u5 l2 q1 q2 q3 q4 q5 q6
  rw [live_t (by unfold jr; omega)] at u4 l3 q1 q4
  obtain ⟨c0, c1, c2, c3, c4, c5⟩ := hM.1.1
  have z1 : ∀ f, 385 ≤ f → f ≤ 389 → s f 0 0 = cw s 0 f 0 := fun f g1 g2 => (cw0 (by omega) (by omega)).symm
  have y1 : s 512 0 0 = yv s 0 512 0 := yv512.symm
  by_cases hin : 0 ≤ a ∧ a ≤ 14
  · rcases (show a = 0 ∨ a = 1 ∨ a = 2 ∨ a = 3 ∨ a = 4 ∨ a = 5 ∨ a = 6 ∨ a = 7 ∨ a = 8 ∨ a = 9 ∨ a = 10 ∨ a = 11 ∨ a = 12 ∨ a = 13 ∨ a = 14 by omega) with rfl | rfl | rfl | rfl | rfl | rfl | rfl | rfl | rfl | rfl | rfl | rfl | rfl | rfl | rfl
    · exact ⟨s 385 0 0, rfl, show some (s 1537 0 0) = _ by rw [c0, z1 _ (by omega) (by omega)]⟩
    · exact ⟨s 386 0 0, rfl, show some (s 1537 0 1) = _ by rw [c1, z1 _ (by omega) (by omega)]⟩
    · exact ⟨s 387 0 0, rfl, show some (s 1537 0 2) = _ by rw [c2, z1 _ (by omega) (by omega)]⟩
    · exact ⟨s 388 0 0, rfl, show some (s 1537 0 3) = _ by rw [c3, z1 _ (by omega) (by omega)]⟩
    · exact ⟨s 389 0 0, rfl, show some (s 1537 0 4) = _ by rw [c4, z1 _ (by omega) (by omega)]⟩
    · exact ⟨s 898 0 0, rfl, show some (s 1573 0 0) = _ by rw [hB.1, hB.2.1]⟩
    · exact ⟨s 1033 0 0, rfl, show some (s 1537 0 10) = _ by rw [q1]⟩
    · exact ⟨s 512 0 0, rfl, show some (s 1537 0 7) = _ by rw [hM.2.1.1, y1]⟩
    · refine ⟨setB 10 (fun n => !decide (yv s 0 515 n = -1)), ?_, ?_⟩
      · show cP (f124 0 s) (fun r => some r) = _
        rw [m124, cP_s]
      · show cP (f269 s) (fun r => some r) = _
        rw [m269 hC hY hM.1 hM.2.1, cP_s]
    · refine ⟨cutV (yv s 0), ?_, ?_⟩
      · show cP (f151 0 s) (fun r => some r) = _
        rw [m151 hY.2.2.1, cP_s]
      · show some (s 1537 0 6) = _
        rw [hM.2.1.2.1]
    · refine ⟨if rainB (cw s 0) (yv s 0 512 0) = true then 1 else 0, ?_, ?_⟩
      · show cP (f79 0 (s 512 0 0) s) (fun r => if r = 0 then some 0 else some 1) = _
        rw [m79, cP_s, y1]
        cases rainB (cw s 0) (yv s 0 512 0) <;> rfl
      · show cP (f204 (s 1537 0 7) s) (fun r => if r = 0 then some 0 else some 1) = _
        rw [hM.2.1.1, m204 hC hM.1 (by have := hY.2.2.2.2.1; omega) (by omega), cP_s, hd]
        cases rainB (cw s 0) (yv s 0 512 0) <;> rfl
    · exact ⟨s 1032 0 0, rfl, show some (s 1537 0 8) = _ by rw [l2, l3]⟩
    · exact ⟨s 1028 0 0, rfl, show some (s 1593 0 0) = _ by rw [u3, u4]⟩
    · exact ⟨s 1034 0 0, rfl, show some (s 1537 0 9) = _ by rw [q4]⟩
    · exact ⟨s 129 0 0, rfl, show some (s 1569 0 0) = _ by rw [n1, n2]⟩
  · refine ⟨-1, ?_, ?_⟩
    · unfold f150
      iterate 15 rw [if_neg (by omega)]
    · unfold f268
      iterate 15 rw [if_neg (by omega)]
