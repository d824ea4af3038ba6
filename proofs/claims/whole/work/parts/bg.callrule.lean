/-! RULE answers alike; the law behind both makings -/
theorem IW.mono {R R' : Nat} {s : S2} {w : Nat} {J : V2} (h : IW R s w J) (hR : R ≤ R') : IW R' s w J := by
  obtain ⟨h1, h2, h3, h4, h5⟩ := h
  obtain ⟨g1, g2, g3, g4⟩ := h5
  exact ⟨h1, h2, h3, h4, g1, g2, by omega, g4⟩
theorem IM.mono {R R' : Nat} {s : S2} (h : IM R s) (hR : R ≤ R') : IM R' s := by
  obtain ⟨m, a1, a2, a3, a4⟩ := h
  refine ⟨m, a1, a2, fun k hk => ?_, a4⟩
  rcases a3 k hk with q | ⟨w, q1, q2, q3, q4, q5⟩
  · exact Or.inl q
  · exact Or.inr ⟨w, q1, q2, q3, q4, q5.mono hR⟩
theorem call_rule {s : S2} (h : Inv s) : ∃ r s1 s2, f59 s = some (r, s1) ∧ f181 s1 = some (r, s2) ∧ Inv s2 := by
  obtain ⟨R, K, b1, b2, b3, b4, b5, b6⟩ := id h
  obtain ⟨n, bs, hn, hc, hm⟩ := b2.hs
  obtain ⟨k1, k2, k3, k4, k5⟩ := id b1
  by_cases hR : R = 6
  · refine ⟨-1, s, s, ?_, ?_, h⟩
    · have h60 : f60 s = some 1 := by
        unfold f60
        rw [bnd, k1, if_neg (by omega)]
      unfold f59
      rw [h60, cP_s, if_neg ne10]
    · unfold f181
      rw [bnd, k2, if_neg (show ¬ ¬ (R : Int) = 6 by omega)]
  · have hR6 : R < 6 := by omega
    obtain ⟨r, s1, c1, c2, c3, c4⟩ := m59 hc hn k1 hR6
    have hm1 : HMt s1 bs n := hm.fr c2 (pRt_f.mpr (by omega)) (pRt_f.mpr (by omega))
    obtain ⟨r', s2, d1, d2, d3, d4, d5, d6, d7⟩ := m181 hm1 (fun k hk => (hc.2 k hk).1) hn (by rw [c2 _ _ (pRt_f.mpr (by omega))]; exact b5.1) (by rw [c2 _ _ (pRt_f.mpr (by omega))]; exact k2) hR6
    have fc : ∀ f, f ≠ 129 → f ≠ 898 → f ≠ 768 → f ≠ 769 → ¬ (130 ≤ f ∧ f ≤ 135) → f ≠ 641 → ∀ i, s1 f i = s f i := fun f g1 g2 g3 g4 g5 g6 i => c2 _ _ (pRt_f.mpr (by omega))
    have fm : ∀ f, ¬ (1569 ≤ f ∧ f ≤ 1577) → ¬ (1580 ≤ f ∧ f ≤ 1586) → ∀ i, s2 f i = s1 f i := fun f g1 g2 i => d2 _ _ (pRr_f.mpr (by omega))
    have hTP : TP s2 := ⟨0, by omega, by rw [fm _ (by omega) (by omega)]; exact c3, d3, fun k hk => absurd hk (by omega)⟩
    have w1 : ∀ w, WE s s1 w := fun w => c2.we (fun f g1 g2 => pRt_f.mpr (by omega)) (fun f j g1 g2 g3 => pRt_f.mpr (by omega)) (fun f g1 g2 => pRt_f.mpr (by omega))
    have w2 : ∀ w, WE s1 s2 w := fun w => d2.we (fun f g1 g2 => pRr_f.mpr (by omega)) (fun f j g1 g2 g3 => pRr_f.mpr (by omega)) (fun f g1 g2 => pRr_f.mpr (by omega))
    have hw : ∀ w, WE s s2 w := fun w => ⟨(w2 w).1.trans (w1 w).1, fun j hj => ((w2 w).2.1 j hj).trans ((w1 w).2.1 j hj), (w2 w).2.2.trans (w1 w).2.2⟩
    have el : live s2 = live s := live_e fun f k hr => by
      unfold jr at hr
      rw [fm _ (by omega) (by omega), fc _ (by omega) (by omega) (by omega) (by omega) (by omega) (by omega)]
    have hIW : IW R s2 0 (live s2) := by
      rw [el]
      exact b3.we (hw 0)
    have e0 : ∀ f, f = 5 ∨ f = 1606 ∨ f = 1607 ∨ f = 9999 → s2 f 0 = s f 0 := fun f hf => by
      rw [fm _ (by omega) (by omega), fc _ (by omega) (by omega) (by omega) (by omega) (by omega) (by omega)]
    have hIM : IM R s2 := b4.fr (e0 _ (by omega)) (e0 _ (by omega)) (e0 _ (by omega)) (fun i hi => by rw [e0 _ (by omega)]) (fun w g1 g2 => hw w)
    have hDX : DX s2 := ⟨by rw [fm _ (by omega) (by omega), fc _ (by omega) (by omega) (by omega) (by omega) (by omega) (by omega)]; exact b5.1, by rw [(hw 5).1]; exact b5.2⟩
    have h89 : s2 1589 0 0 = 0 := by
      rw [fm _ (by omega) (by omega), fc _ (by omega) (by omega) (by omega) (by omega) (by omega) (by omega)]; exact b6
    have hmod : ∀ f, 1580 ≤ f → f ≤ 1585 → s1 f 0 = s f 0 := fun f g1 g2 => fc _ (by omega) (by omega) (by omega) (by omega) (by omega) (by omega) 0
    -- the rules that there were
    have old : ∀ r, r < R → hasL s2 r (K r) ∧ wfc (K r) [] ∧ MLaw s2 r (K r) := fun r hr => by
      obtain ⟨x1, x2, x3⟩ := k4 r hr
      refine ⟨x1.fr ?_ ?_, x2, (x3.keep (t' := s2) hr (fun k hk => ?_) (fun k hk => ?_) (fun k hk => ?_))⟩
      · rw [fm _ (by omega) (by omega), c2 _ _ (pRt_f.mpr (by omega))]
      · rw [fm _ (by omega) (by omega), c2 _ _ (pRt_f.mpr (by omega))]
      · rw [(d4 k hk).1, (d4 k hk).2, hmod _ (by omega) (by omega), hmod _ (by omega) (by omega)]
        exact ⟨rfl, rfl⟩
      · rw [(d5 k hk).1, (d5 k hk).2.1, (d5 k hk).2.2, hmod _ (by omega) (by omega), hmod _ (by omega) (by omega), hmod _ (by omega) (by omega)]
        exact ⟨rfl, rfl, rfl⟩
      · rw [d6 k hk, hmod _ (by omega) (by omega)]
    have plain : hasL s2 6 [-260, -59] := k5.fr (by rw [fm _ (by omega) (by omega), c2 _ _ (pRt_f.mpr (by omega))]) (by rw [fm _ (by omega) (by omega), c2 _ _ (pRt_f.mpr (by omega))])
    rcases c4 with ⟨A, x1, x2, x3, x4⟩ | ⟨e, x1, x2, x3, x4⟩
    · rcases d7 with ⟨A', y1, y2, y3, y4, y5⟩ | ⟨e', y1, -⟩
      · rw [x2] at y1
        cases y1
        refine ⟨r, s1, s2, c1, by rw [d1, y2, x1], R + 1, fun r => if r = R then encL A else K r, ⟨by rw [fm _ (by omega) (by omega), x4], y5, by omega, fun r hr => ?_, plain⟩, hTP, hIW.mono (by omega), hIM.mono (by omega), hDX, h89⟩
        dsimp only
        by_cases y : r = R
        · rw [if_pos y, y]
          exact ⟨x3.fr (fm _ (by omega) (by omega) R) (fm _ (by omega) (by omega) R), y4, y3⟩
        · rw [if_neg y]
          exact old r (by omega)
      · rw [x2] at y1; cases y1
    · rcases d7 with ⟨A', y1, -⟩ | ⟨e', y1, y2, y3, y4⟩
      · rw [x2] at y1; cases y1
      · rw [x2] at y1
        cases y1
        refine ⟨r, s1, s2, c1, by rw [d1, y3, x3], R, K, ⟨?_, y4, by omega, old, plain⟩, hTP, hIW, hIM, hDX, h89⟩
        rw [fm _ (by omega) (by omega), x4 _ _ (by rw [Bool.or_eq_false_iff]; exact ⟨one_f (by omega), pRq_f.mpr (by omega)⟩)]
        exact k1
theorem law_alike {X : X2} {s : S2} (h : Inv s) (hx : ∀ k, k < X.1 → i32 (X.2 k)) (hX : X.1 ≤ 3072) : ∃ s', f287 X s = some (1, s') := m287 h hx hX (fun _ h => call_court h) (fun _ h => call_rule h)
