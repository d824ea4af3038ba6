theorem cw0f {s : S2} {C : V2} (h : cw s 0 = C) : s 387 0 0 = C 387 0 ∧ s 388 0 0 = C 388 0 ∧ s 389 0 0 = C 389 0 := by
  subst h
  exact ⟨(cw0 (by omega) (by omega)).symm, (cw0 (by omega) (by omega)).symm, (cw0 (by omega) (by omega)).symm⟩
/-- n hours on, the class -/
theorem Rel.run {s : S2} {C Y : V2} {code : List Int} {n : Nat} (h : Rel s C Y code) (hn : n ≤ 1000) : ∃ s2 s3, f75 s = some s2 ∧ f107 n s2 = some s3 ∧ yv s3 160 = passN C code n Y ∧ Hr s3 0 (lawI s (s 1033 0 0)) C code ∧ Fr pAk s s3 ∧ Fr pCl s s3 := by
  obtain ⟨s2, a1, a2, a3, a4⟩ := h.start
  have hh := h.2.2.2.1.2.2.2.2.1
  have h9 := h.2.2.2.2.1
  obtain ⟨s3, b1, b2, b3⟩ := m107 (n := n) a2 a3 h.2.2.2.1 hn (by omega)
  exact ⟨s2, s3, a1, b1, b2, a2.pP b3, (a4.mo fun f i q => pS_k q).tr (b3.mo fun f i q => pP_k q), (a4.mo fun f i q => pS_cl q).tr (b3.mo fun f i q => pP_cl q)⟩
theorem Ask.cl {s s' : S2} (h : Fr pAk s s') (h2 : Fr pCl s s') : Ask s s' := by
  have e : ∀ f, 1535 < f → f < 3000 → s' f 0 = s f 0 := fun f g1 g2 => h2 f 0 (pCl_f.mpr ⟨g1, g2⟩)
  refine ⟨h, ⟨?_, ?_, ?_, ?_, ?_, ?_⟩, by rw [e 1589 (by omega) (by omega)], fun k _ => by rw [e 1606 (by omega) (by omega)]⟩
  all_goals intro k _
  · rw [e 1537 (by omega) (by omega)]
  · rw [e 1538 (by omega) (by omega)]
  · rw [e 1539 (by omega) (by omega)]
  · rw [e 1544 (by omega) (by omega)]
  · rw [e 1547 (by omega) (by omega)]
  · rw [e 1548 (by omega) (by omega)]
theorem Ask.rf {s : S2} : Ask s s := ⟨Fr.rf, ⟨fun _ _ => rfl, fun _ _ => rfl, fun _ _ => rfl, fun _ _ => rfl, fun _ _ => rfl, fun _ _ => rfl⟩, rfl, fun _ _ => rfl⟩
theorem Ask.tr {s s' s'' : S2} (h : Ask s s') (h' : Ask s' s'') : Ask s s'' := by
  obtain ⟨a1, ⟨b1, b2, b3, b4, b5, b6⟩, a3, a4⟩ := h
  obtain ⟨c1, ⟨d1, d2, d3, d4, d5, d6⟩, c3, c4⟩ := h'
  exact ⟨a1.tr c1, ⟨fun k hk => (d1 k hk).trans (b1 k hk), fun k hk => (d2 k hk).trans (b2 k hk), fun k hk => (d3 k hk).trans (b3 k hk), fun k hk => (d4 k hk).trans (b4 k hk), fun k hk => (d5 k hk).trans (b5 k hk), fun k hk => (d6 k hk).trans (b6 k hk)⟩, c3.trans a3, fun k hk => (c4 k hk).trans (a4 k hk)⟩
/-- n hours on, the model: kept, gone, and what is behind it when laid back -/
theorem mrun {t : S2} {C Y : V2} {code : List Int} {n : Nat} (hC : CB C) (hY : YB C Y) (h : MS C Y code 0 t) (hn : n ≤ 1000) (hh : Y 512 0 + n ≤ 5000) : ∃ t1 t2 t3, f233 t = some t1 ∧ f236 n t1 = some t2 ∧ MS C (passN C code n Y) code 0 t2 ∧ f237 t2 = some t3 ∧ Ask t t3 := by
  obtain ⟨t1, a1, a2, a3, a4⟩ := m233 (t := t)
  have h1 : MS C Y code 0 t1 := h.fr a3 (fun f g1 g2 g3 g4 => pI_f.mpr (by omega))
  obtain ⟨t2, b1, b2, b3, b4⟩ := m236 hC hY h1 hn hh
  obtain ⟨t3, c1, c2, c3⟩ := m237 (a2.fr b3 (pG_f.mpr (by omega)))
  refine ⟨t1, t2, t3, a1, b1, b2, c1, ((a3.mo fun f i q => pI_k q).tr (b3.mo fun f i q => pG_k q)).tr (c3.mo fun f i q => pJ_k q), c2, ?_, fun k hk => ?_⟩
  · rw [c3 1589 0 (pJ_f.mpr (by omega)), b3 1589 0 (pG_f.mpr (by omega)), a3 1589 0 (pI_f.mpr (by omega))]
  · rw [c3 1606 0 (pJ_f.mpr (by omega)), b3 1606 0 (pG_f.mpr (by omega)), a4 k hk]
def aheadP (C : V2) (a c : Int) : Prop := (c = 0 ∧ 0 ≤ a ∧ a < C 388 0) ∨ (c = 1 ∧ 0 ≤ a ∧ a < C 389 0) ∨ (c = 2 ∧ 0 ≤ a ∧ a < C 387 0)
theorem m106_no {s : S2} {C Y : V2} {code : List Int} {a b c : Int} (h : Rel s C Y code) (hno : ¬ aheadP C a c) : f106 a b c s = some (-2, s) := by
  obtain ⟨e1, e2, e3⟩ := cw0f h.1
  have hcc := h.2.2.1.1
  unfold aheadP at hno
  unfold f106
  simp only [jn, if_true]
  by_cases c0 : c = 0
  · subst c0
    rw [if_neg (by decide), m50f (by omega), cP_s, if_neg (by decide), if_pos (by decide), if_pos (by decide)]
  · rw [if_pos c0]
    by_cases c1 : c = 1
    · subst c1
      rw [if_neg (by decide), m49f (by omega), cP_s, if_neg (by decide), if_pos (by decide)]
    · rw [if_pos c1]
      by_cases c2 : c = 2
      · subst c2
        rw [if_neg (by decide), m51f (by omega), cP_s, if_pos rfl]
      · rw [if_pos c2]
theorem m106_yes {s : S2} {C Y : V2} {code : List Int} {a b c : Int} (h : Rel s C Y code) (hy : aheadP C a c) : f106 a b c s = if b < 0 then (some ((-2), s)) else if b ≤ 100 then (cP (f75 s) fun s2 => cP (f107 b s2) fun s3 => if ¬ c = 0 then (if ¬ c = 1 then (ld s3 518 160 4 a fun v4 => some (v4, s3)) else ld s3 516 160 10 a fun v5 => some (v5, s3)) else ld s3 513 160 6 a fun v6 => some (v6, s3)) else some ((-2), s) := by
  obtain ⟨e1, e2, e3⟩ := cw0f h.1
  have hcc := h.2.2.1.1
  unfold f106
  simp only [jn]
  rcases hy with ⟨rfl, h1, h2⟩ | ⟨rfl, h1, h2⟩ | ⟨rfl, h1, h2⟩
  · rw [if_neg (show ¬ ¬ (0 : Int) = 0 by decide), m50t (by omega), cP_s, if_pos ne10, if_neg ne10]
  · rw [if_pos (show ¬ (1 : Int) = 0 by decide), if_neg (show ¬ ¬ (1 : Int) = 1 by decide), m49t (by omega), cP_s, if_pos ne10, if_neg ne10]
  · rw [if_pos (show ¬ (2 : Int) = 0 by decide), if_pos (show ¬ (2 : Int) = 1 by decide), if_neg (show ¬ ¬ (2 : Int) = 2 by decide), m51t (by omega), cP_s, if_neg ne10, if_neg ne10]
