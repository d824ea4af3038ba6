def pW (f i : Nat) : Bool := Nat.beq f 516 && Nat.beq i 160
theorem pW_f {f i : Nat} : pW f i = false ↔ ¬ (f = 516 ∧ i = 160) := by
  unfold pW
  rw [← Bool.not_eq_true, Bool.and_eq_true, Nat.beq_eq, Nat.beq_eq]
theorem m94c {s : S2} {c : Nat} {C Y : V2} {rain : Int} (hc : s 1153 0 0 = c) (hcw : cw s c = C) (hC : CB C) (hY : YB C Y) (h5 : ∀ k, k < 10 → s 515 160 k = Y 515 k) (h6 : ∀ k, k < 10 → s 516 160 k = Y 516 k) (hr : s 1155 0 0 = rain) : ∃ s', itr (fun (x28, s29) => f94_c x28 s29) am_fu (0, s) = some s' ∧ Fr pW s s' ∧ ∀ k, k < 10 → s' 516 160 k = wetS C rain (Y 515 k) (Y 516 k) := by
  refine itr_inv (fun (i : Nat) (z : Int × S2) => z.1 = i ∧ Fr pW s z.2 ∧ ∀ k, k < 10 → z.2 516 160 k = if k < i then wetS C rain (Y 515 k) (Y 516 k) else Y 516 k) (fun (z : S2) => Fr pW s z ∧ ∀ k, k < 10 → z 516 160 k = wetS C rain (Y 515 k) (Y 516 k)) 10 ?_ am_fu (fu_lt (by decide)) (0, s) ⟨rfl, Fr.rf, fun k hk => by rw [if_neg (by omega)]; exact h6 k hk⟩
  rintro i ⟨x, z⟩ hi ⟨g1, hF, g2⟩
  dsimp only at g1 hF g2 ⊢
  subst g1
  by_cases e : i = 10
  · subst e
    refine Or.inr ⟨z, rfl, hF, fun k hk => ?_⟩
    rw [g2 k hk, if_pos hk]
  · refine Or.inl ⟨by omega, ?_⟩
    have q1 : z 515 160 i = Y 515 i := by rw [hF 515 160 (pW_f.mpr (by omega))]; exact h5 i (by omega)
    have q2 : z 516 160 i = Y 516 i := by rw [g2 i (by omega), if_neg (by omega)]
    have q3 : z 1153 0 0 = c := by rw [hF 1153 0 (pW_f.mpr (by omega))]; exact hc
    have q4 : cw z c = C := by rw [hF.cw fun f h1 h2 => pW_f.mpr (by omega)]; exact hcw
    have q5 : z 1155 0 0 = rain := by rw [hF 1155 0 (pW_f.mpr (by omega))]; exact hr
    have hw := hY.2.1 i (by omega)
    have ej : jadd (i : Int) 1 = ((i + 1 : Nat) : Int) := by rw [jadd_e (by omega) (by omega)]; rfl
    have e95 := m95 q3 q4 hC hw
    by_cases h : Y 515 i = -1
    · refine ⟨(((i + 1 : Nat) : Int), z), ?_, rfl, hF, fun k hk => ?_⟩
      · show f94_c i z = _
        unfold f94_c
        rw [if_neg (by omega), ld_t (by omega) (by omega), Int.toNat_natCast, q1, if_pos h, bnd, ej]
      · dsimp only
        rw [g2 k hk]
        by_cases hk2 : k = i
        · subst hk2
          rw [if_neg (by omega), if_pos (by omega)]
          unfold wetS
          rw [if_pos h]
        · by_cases hk3 : k < i
          · rw [if_pos hk3, if_pos (by omega)]
          · rw [if_neg hk3, if_neg (by omega)]
    · refine ⟨(((i + 1 : Nat) : Int), st2 z 516 160 i (wetS C rain (Y 515 i) (Y 516 i))), ?_, rfl, hF.st rfl, fun k hk => ?_⟩
      · show f94_c i z = _
        unfold f94_c
        rw [if_neg (by omega), ld_t (by omega) (by omega), Int.toNat_natCast, q1, if_neg h, ld_t (by omega) (by omega), Int.toNat_natCast, q2, e95, cP_s, sto_t (by omega) (by omega), Int.toNat_natCast, bnd, ej, q5]
        unfold wetS
        rw [if_neg h]
      · simp only [st2_d]
        by_cases hk2 : k = i
        · subst hk2
          simp
        · rw [if_neg (by omega), g2 k hk]
          by_cases hk3 : k < i
          · rw [if_pos hk3, if_pos (by omega)]
          · rw [if_neg hk3, if_neg (by omega)]
theorem m94 {d : Int} {r c : Nat} {s : S2} {code : List Int} (hc : s 1153 0 0 = c) (hr : s 1154 0 0 = r) (hL : hasL s r code) (hw : wfc code []) (hC : CB (cw s c)) (hY : YB (cw s c) (yv s 160)) : ∃ s', f94 d s = some (passG (cw s c) (yv s 160) (rainI (cw s c) (yv s 160) d) code, s') ∧ yv s' 160 = passY (cw s c) (yv s 160) (rainI (cw s c) (yv s 160) d) code ∧ Fr (pP r) s s' := by
  obtain ⟨s1, k1, k2, k3, k4⟩ := m78 (d := d) hc hC hY
  have hrain : s1 1155 0 0 = rainI (cw s c) (yv s 160) d := by
    rw [k2]; unfold rainI; rw [yv512]
  have hR : Rd s1 c (cw s c) (yv s 160) (rainI (cw s c) (yv s 160) d) := by
    refine ⟨?_, ?_, ?_, k3, hrain⟩
    · rw [k4 1153 0 (pM_f.mpr (by omega))]; exact hc
    · exact k4.cw fun f h1 h2 => pM_f.mpr (by omega)
    · exact k4.yv fun f h1 h2 => pM_f.mpr (by omega)
  generalize rainI (cw s c) (yv s 160) d = rain at hrain hR ⊢
  generalize hCe : cw s c = C at hR hC hY ⊢
  generalize hYe : yv s 160 = Y at hR hY ⊢
  have hr1 : s1 1154 0 0 = r := by rw [k4 1154 0 (pM_f.mpr (by omega))]; exact hr
  have hL1 : hasL s1 r code := hL.fr (k4 769 r (pM_f.mpr (by omega))) (k4 768 r (pM_f.mpr (by omega)))
  obtain ⟨s2, a1, a2, a3⟩ := m94a hr1 hL1 hw hR hC hY
  have c2 : s2 1153 0 0 = c := by rw [a2 1153 0 (pA_f.mpr (by omega))]; exact hR.1
  have w2 : cw s2 c = C := by rw [a2.cw fun f h1 h2 => pA_f.mpr (by omega)]; exact hR.2.1
  have y2 : yv s2 160 = Y := by rw [a2.yv fun f h1 h2 => pA_f.mpr (by omega)]; exact hR.2.2.1
  obtain ⟨⟨g, s3⟩, b1, b2, b3, b4, b5⟩ := m94b c2 w2 y2 hC hY a3 (fun k hk => own_bd hC)
  dsimp only at b2 b3 b4 b5
  have c3 : s3 1153 0 0 = c := by rw [b3 1153 0 (pB_f.mpr (by omega))]; exact c2
  have w3 : cw s3 c = C := by rw [b3.cw fun f h1 h2 => pB_f.mpr (by omega)]; exact w2
  have r3 : s3 1155 0 0 = rain := by rw [b3 1155 0 (pB_f.mpr (by omega)), a2 1155 0 (pA_f.mpr (by omega))]; exact hrain
  have o3 : ∀ k, k < 10 → s3 515 160 k = Y 515 k := fun k hk => by rw [b3 515 160 (pB_f.mpr (by omega)), ← y2, yv515 hk]
  have t3 : ∀ k, k < 10 → s3 516 160 k = Y 516 k := fun k hk => by rw [b3 516 160 (pB_f.mpr (by omega)), ← y2, yv516 hk]
  obtain ⟨s4, d1, d2, d3⟩ := m94c c3 w3 hC hY o3 t3 r3
  have h4 : s4 512 160 0 = Y 512 0 := by rw [d2 512 160 (pW_f.mpr (by omega)), b3 512 160 (pB_f.mpr (by omega)), ← y2, yv512]
  have hh := hY.2.2.2.2.1
  refine ⟨st2 s4 512 160 0 (Y 512 0 + 1), ?_, ?_, ?_⟩
  · unfold f94
    rw [k1, cP_s, a1, cP_s, b1, cP_s]
    show cP (itr (fun (x28, s29) => f94_c x28 s29) am_fu (0, s3)) _ = _
    rw [d1, cP_s, bnd, h4, bnd, jadd_e (by omega) (by omega), b2]
    rfl
  · refine nY_ext fun f k hk => ?_
    show st2 s4 512 160 0 (Y 512 0 + 1) f 160 k = _
    rcases hk with ⟨rfl, rfl⟩ | ⟨rfl, h⟩ | ⟨rfl, h⟩ | ⟨rfl, h⟩ | ⟨rfl, h⟩ | ⟨rfl, h⟩ | ⟨rfl, h⟩
    · rw [st2_eq]; rfl
    · rw [st2_ne (by omega), d2 513 160 (pW_f.mpr (by omega)), b4 k h]; rfl
    · rw [st2_ne (by omega), d2 514 160 (pW_f.mpr (by omega)), b3 514 160 (pB_f.mpr (by omega)), ← yv514 (s := s2) (y := 160) h, y2]; rfl
    · rw [st2_ne (by omega), d2 515 160 (pW_f.mpr (by omega)), b3 515 160 (pB_f.mpr (by omega)), ← yv515 (s := s2) (y := 160) h, y2]; rfl
    · rw [st2_ne (by omega), d3 k h]; rfl
    · rw [st2_ne (by omega), d2 517 160 (pW_f.mpr (by omega)), b3 517 160 (pB_f.mpr (by omega)), ← yv517 (s := s2) (y := 160) h, y2]; rfl
    · rw [st2_ne (by omega), d2 518 160 (pW_f.mpr (by omega)), b5 k h]; rfl
  · refine Fr.st ?_ (by simp [pP, pY])
    refine ((k4.mo fun f i h => (pP_f.mp h).1).tr (a2.mo fun f i h => (pP_f.mp h).2.1)).tr ((b3.mo fun f i h => ?_).tr (d2.mo fun f i h => ?_))
    · have := pY_f.mp (pP_f.mp h).2.2
      exact pB_f.mpr (by omega)
    · have := pY_f.mp (pP_f.mp h).2.2
      exact pW_f.mpr (by omega)
theorem yr512 : yr 512 0 := Or.inl ⟨rfl, rfl⟩
theorem yr513 {k : Nat} (h : k < 6) : yr 513 k := Or.inr (Or.inl ⟨rfl, h⟩)
theorem yr514 {k : Nat} (h : k < 6) : yr 514 k := Or.inr (Or.inr (Or.inl ⟨rfl, h⟩))
theorem yr515 {k : Nat} (h : k < 10) : yr 515 k := Or.inr (Or.inr (Or.inr (Or.inl ⟨rfl, h⟩)))
theorem yr516 {k : Nat} (h : k < 10) : yr 516 k := Or.inr (Or.inr (Or.inr (Or.inr (Or.inl ⟨rfl, h⟩))))
theorem yr517 {k : Nat} (h : k < 4) : yr 517 k := Or.inr (Or.inr (Or.inr (Or.inr (Or.inr (Or.inl ⟨rfl, h⟩)))))
theorem yr518 {k : Nat} (h : k < 4) : yr 518 k := Or.inr (Or.inr (Or.inr (Or.inr (Or.inr (Or.inr ⟨rfl, h⟩)))))
theorem passY_YB {C Y : V2} {rain : Int} {code : List Int} (hC : CB C) (hY : YB C Y) (hh : Y 512 0 < 5000) : YB C (passY C Y rain code) := by
  have b := hC.2.2.2.2.2.2.2.2
  refine ⟨fun n hn => ?_, fun n hn => ?_, fun l hl => ?_, fun l hl => ?_, ?_, fun f hf => ?_⟩
  · have : passY C Y rain code 515 n = Y 515 n := (nY_t (yr515 hn)).trans rfl
    rw [this]; exact hY.1 n hn
  · have : passY C Y rain code 516 n = wetS C rain (Y 515 n) (Y 516 n) := (nY_t (yr516 hn)).trans rfl
    have h := hY.2.1 n hn
    rw [this]
    unfold wetS
    grind
  · have : passY C Y rain code 514 l = Y 514 l := (nY_t (yr514 hl)).trans rfl
    rw [this]; exact hY.2.2.1 l hl
  · have : passY C Y rain code 513 l = own C Y rain code l := (nY_t (yr513 hl)).trans rfl
    rw [this]
    have := own_bd (C := C) (Y := Y) (rain := rain) (code := code) (l := l) hC
    omega
  · have : passY C Y rain code 512 0 = Y 512 0 + 1 := (nY_t yr512).trans rfl
    have h := hY.2.2.2.2.1
    rw [this]; omega
  · have e1 : passY C Y rain code 518 f = Y 518 f + sumI 6 (fun l => if own C Y rain code l = f then C 393 l else 0) := (nY_t (yr518 hf)).trans rfl
    have e2 : passY C Y rain code 512 0 = Y 512 0 + 1 := (nY_t yr512).trans rfl
    have h := hY.2.2.2.2.2 f hf
    have h3 := sumI_bd (f := fun l => if own C Y rain code l = f then C 393 l else 0) (a := 0) (b := 9) (n := 6) (fun j hj => by
      have h4 := hC.2.2.2.1 j hj
      have h5 := own_bd (C := C) (Y := Y) (rain := rain) (code := code) (l := j) hC
      have h6 := hC.2.2.2.2.1 j hj
      by_cases e : own C Y rain code j = f
      · simp only [e, if_true]; omega
      · simp only [e, if_false]; omega)
    rw [e1, e2]; omega
