/-! A WORLD IS MADE: the one step of the second program is a constructor's run of the first -/
theorem am_fw_mem {ρ μ : Type} {P : Nat → Nat → Option (am_I × Nat)} {NL : Nat → Nat} {mem : Nat → Nat → List (AV ρ) → μ → Option (Option (AV ρ) × μ)} {n d k pc nx x y : Nat} {im : Int} {tb : List (Int × Nat)} {L : am_L ρ} {S : List (AV ρ)} {m m' : μ} {rv : Option (AV ρ)} (hP : P k pc = some ((24, x, y, im, tb), nx)) (hy : y ≤ S.length) (hs : am_small (S.drop y) = true) (hm : mem x im.toNat (S.take y).reverse m = some (rv, m')) : am_run P NL mem (n + 1) (d + 1) k pc L S m = am_run P NL mem n (d + 1) k nx L (rv.toList ++ S.drop y) m' := by
  conv => lhs; unfold am_run
  rw [hP]
  simp only
  rw [if_pos ⟨hy, hs⟩, hm]
theorem am_fw_call {ρ μ : Type} {P : Nat → Nat → Option (am_I × Nat)} {NL : Nat → Nat} {mem : Nat → Nat → List (AV ρ) → μ → Option (Option (AV ρ) × μ)} {n d k pc nx x y : Nat} {im : Int} {tb : List (Int × Nat)} {L : am_L ρ} {S : List (AV ρ)} {m m' : μ} {rv : Option (AV ρ)} (hP : P k pc = some ((21, x, y, im, tb), nx)) (hc : y ≤ S.length ∧ am_small (S.drop y) = true ∧ ((S.take y).map am_cat).sum ≤ NL x ∧ (im = 1 ∨ (mem 17 x ((S.take y).reverse.take 1) m).isSome = true)) (hr : am_run P NL mem n d x 0 (am_loc (NL x) (S.take y).reverse) [] m = some (rv, m')) : am_run P NL mem (n + 1) (d + 1) k pc L S m = am_run P NL mem n (d + 1) k nx L (rv.toList ++ S.drop y) m' := by
  conv => lhs; unfold am_run
  rw [hP]
  simp only
  rw [if_pos hc, hr]
theorem P152 {pc : Nat} : am_P 152 pc = am_lk pc am_c152 := rfl
theorem p3_i {ρ : Type} {x y nx : Nat} {im : Int} {tb : List (Int × Nat)} {L L' : am_L ρ} {S S' : List (AV ρ)} {pc' : Nat} (h : am_p 3 x y im tb nx L S = some (pc', L', S')) : ∃ v, pc' = nx ∧ L' = L ∧ S' = v :: S := by
  unfold am_p at h
  simp only at h
  split at h
  · rename_i v hv
    split at h
    · cases h
      exact ⟨v, rfl, rfl, rfl⟩
    · cases h
  · cases h
theorem p4_i {ρ : Type} {x y nx : Nat} {im : Int} {tb : List (Int × Nat)} {L L' : am_L ρ} {v : AV ρ} {S S' : List (AV ρ)} {pc' : Nat} (h : am_p 4 x y im tb nx L (v :: S) = some (pc', L', S')) : pc' = nx ∧ S' = S := by
  unfold am_p at h
  simp only at h
  split at h
  · split at h
    · cases h
      exact ⟨rfl, rfl⟩
    · cases h
  · cases h
theorem get_i {idx : Nat} {as : List (AV R1)} {w w' : W1} {rv : Option (AV R1)} (h : m1_get idx as w = some (rv, w')) : ∃ v, rv = some v := by
  unfold m1_get at h
  split at h
  · split at h
    · split at h
      · split at h
        · cases h
          exact ⟨_, rfl⟩
        · cases h
      · cases h
    · cases h
  · cases h
theorem cat_1 {ρ : Type} {v : AV ρ} : 1 ≤ am_cat v := by
  unfold am_cat
  split <;> omega
/-- what the run does next shows that there is room for one more -/
theorem room_29 {sl : Nat} {sx : Nat → Int} : ∀ {n d : Nat} {L : am_L R1} {v : AV R1} {S : List (AV R1)} {w : W1} {o : Option (AV R1) × W1} {r : R1}, am_run am_P am_nl (m1 am_ft am_T sl sx) n d 152 29 L (v :: S) w = some o → am_small (vR r :: S) = true := by
  intro n d L v S w o r h
  obtain ⟨rv, w'⟩ := o
  rcases n with _ | n
  · cases h
  obtain ⟨pc1, L1, S1, p1, h1⟩ := am_run_p (op := 4) (x := 2) (y := 2) (im := 0) (tb := []) (nx := 30) (by rw [P152]; rfl) (by omega) h
  obtain ⟨rfl, rfl⟩ := p4_i p1
  rcases n with _ | n
  · cases h1
  obtain ⟨pc2, L2, S2, p2, h2⟩ := am_run_p (op := 3) (x := 0) (y := 2) (im := 0) (tb := []) (nx := 31) (by rw [P152]; rfl) (by omega) h1
  obtain ⟨v0, rfl, rfl, rfl⟩ := p3_i p2
  rcases n with _ | n
  · cases h2
  obtain ⟨-, -, -, rv1, w1, m3, h3⟩ := am_run_mem (x := 0) (y := 1) (im := 5) (tb := []) (nx := 34) (by rw [P152]; rfl) h2
  obtain ⟨v1, rfl⟩ := get_i (show m1_get 5 [v0] w = some (rv1, w1) from m3)
  have h4 : am_run am_P am_nl (m1 am_ft am_T sl sx) n d 152 34 L2 (v1 :: S1) w1 = some (rv, w') := h3
  rcases n with _ | n
  · cases h4
  obtain ⟨pc4, L4, S4, p4, h5⟩ := am_run_p (op := 3) (x := 1) (y := 0) (im := 0) (tb := []) (nx := 35) (by rw [P152]; rfl) (by omega) h4
  obtain ⟨v2, rfl, rfl, rfl⟩ := p3_i p4
  rcases n with _ | n
  · cases h5
  obtain ⟨pc5, L5, S5, p5, h6⟩ := am_run_p (op := 3) (x := 2) (y := 2) (im := 0) (tb := []) (nx := 36) (by rw [P152]; rfl) (by omega) h5
  obtain ⟨v3, rfl, rfl, rfl⟩ := p3_i p5
  rcases n with _ | n
  · cases h6
  obtain ⟨-, -, -, rv2, w2, -, h7⟩ := am_run_mem (x := 3) (y := 3) (im := 4) (tb := []) (nx := 37) (by rw [P152]; rfl) h6
  have h8 : am_run am_P am_nl (m1 am_ft am_T sl sx) n d 152 37 L5 (rv2.toList ++ S1) w2 = some (rv, w') := h7
  rcases n with _ | n
  · cases h8
  obtain ⟨pc7, L7, S7, p7, h9⟩ := am_run_p (op := 3) (x := 2) (y := 2) (im := 0) (tb := []) (nx := 38) (by rw [P152]; rfl) (by omega) h8
  obtain ⟨v4, rfl, rfl, rfl⟩ := p3_i p7
  rcases n with _ | n
  · cases h9
  obtain ⟨pc8, L8, S8, p8, h10⟩ := am_run_p (op := 3) (x := 0) (y := 2) (im := 0) (tb := []) (nx := 39) (by rw [P152]; rfl) (by omega) h9
  obtain ⟨v5, rfl, rfl, rfl⟩ := p3_i p8
  rcases n with _ | n
  · cases h10
  obtain ⟨-, -, hs, -⟩ := am_run_mem (x := 0) (y := 1) (im := 4) (tb := []) (nx := 42) (by rw [P152]; rfl) h10
  have hs : am_small (v4 :: (rv2.toList ++ S1)) = true := hs
  unfold am_small at hs ⊢
  have hs := of_decide_eq_true hs
  refine decide_eq_true ?_
  rw [List.map_cons, List.sum_cons, List.map_append, List.sum_append] at hs
  rw [List.map_cons, List.sum_cons]
  have := cat_1 (v := v4)
  have e : am_cat (vR r : AV R1) = 1 := rfl
  omega
theorem lay_8 {c : Nat} (h : c < 4) : am_lay[am_NN c]? = some (8, c + 1) := by
  have k : (atL am_lay (am_NN 0) 8 1 && (atL am_lay (am_NN 1) 8 2 && (atL am_lay (am_NN 2) 8 3 && atL am_lay (am_NN 3) 8 4))) = true := by decide +kernel
  rw [Bool.and_eq_true, Bool.and_eq_true, Bool.and_eq_true] at k
  have g : ∀ {a c i : Nat}, atL am_lay a c i = true → am_lay[a]? = some (c, i) := fun {a c i} h => by
    unfold atL at h
    split at h
    · rename_i x e
      rw [Bool.and_eq_true] at h
      rw [e, ← Nat.eq_of_beq_eq_true h.1, ← Nat.eq_of_beq_eq_true h.2]
    · cases h
  obtain ⟨h0, h1, h2, h3⟩ := k
  match c, h with
  | 0, _ => exact g h0
  | 1, _ => exact g h1
  | 2, _ => exact g h2
  | 3, _ => exact g h3
  | c + 4, h => omega
theorem nl_10 : 1 ≤ am_nl 10 ∧ am_o 10 = 8 := by decide +kernel
theorem hX_2 {X : X2} (c : Nat) (a a' : S2) (b : W1) (rv : Option (AV R2)) (hI : SM c a b) (h : m2 X 30 8 [] a = some (rv, a')) : ∃ c' rw b', c ≤ c' ∧ SM c' a' b' ∧ oV (VM c') rv rw ∧ ∀ (n d : Nat) (L : am_L R1) (S : List (AV R1)) (o : Option (AV R1) × W1), am_small S = true → am_run am_P am_nl (m1 am_ft am_T X.1 X.2) n (d + 1 + 10) 152 29 L (rw.toList ++ S) b' = some o → ∃ n', am_run am_P am_nl (m1 am_ft am_T X.1 X.2) n' (d + 1 + 10) 152 22 L S b = some o := by
  have h : (if 0 ≤ a 9999 0 0 ∧ a 9999 0 0 < 4 then some (some (oR 8 (a 9999 0 0 + 1).toNat), nw2 a) else none) = some (rv, a') := h
  split at h
  · rename_i hc
    cases h
    have h9 := hI.2.1
    rw [h9] at hc ⊢
    have hc4 : c < 4 := by omega
    have hl := hI.2.2.1
    obtain ⟨n1, T, g1, g2⟩ := made run_W (L := X.1) (sx := X.2) (w0 := b)
    rw [hl] at g2
    refine ⟨c + 1, some (vR (.inl (am_NN c))), b ++ T.map (shC (am_NN c)), Nat.le_succ c, SM_new hI hc4 g1, Or.inl ⟨rfl, by show 8 < 13; omega, am_NN c, by unfold am_NN; omega, ?_, rfl⟩, fun n d L S o hs hrun => ?_⟩
    · rw [lay_8 hc4]
      congr 2
    · have hrun : am_run am_P am_nl (m1 am_ft am_T X.1 X.2) n (d + 10 + 1) 152 29 L (vR (.inl (am_NN c)) :: S) (b ++ T.map (shC (am_NN c))) = some o := by
        rw [show d + 10 + 1 = d + 1 + 10 by omega]
        exact hrun
      have hs1 : am_small (vR (.inl (am_NN c)) :: S) = true := room_29 hrun
      have hw : (b ++ [.inl (8, (am_ft 8).map am_def)] : W1)[am_NN c]? = some (.inl (8, (am_ft 8).map am_def)) := by
        rw [List.getElem?_append_right (by omega), hl, Nat.sub_self]
        rfl
      have g3 : am_run am_P am_nl (m1 am_ft am_T X.1 X.2) (max n n1) (d + 10) 10 0 (am_loc (am_nl 10) [vR (.inl (am_NN c))]) [] (b ++ [.inl (8, (am_ft 8).map am_def)]) = some (none, b ++ T.map (shC (am_NN c))) := am_run_mono n1 (max n n1) 9 (d + 10) _ _ _ _ _ _ (by omega) (by omega) g2
      have hm0 : m1 am_ft am_T X.1 X.2 5 (8 : Int).toNat ((S.take 0).reverse) b = some (some (vR (.inl (am_NN c))), b ++ [.inl (8, (am_ft 8).map am_def)]) := by
        show m1_new am_ft 8 [] b = _
        unfold m1_new
        simp only
        rw [if_pos (by omega), hl]
      generalize hb1 : (b ++ [.inl (8, (am_ft 8).map am_def)] : W1) = b1 at hw g3 hm0
      have h17 : m1 am_ft am_T X.1 X.2 17 10 [vR (.inl (am_NN c))] b1 = some (none, b1) := by
        show (match b1[am_NN c]? with
          | some (.inl (c, _)) => if c = am_o 10 then some (none, b1) else none
          | _ => none) = _
        rw [hw]
        exact if_pos nl_10.2.symm
      have hcall : 1 ≤ (vR (.inl (am_NN c)) :: vR (.inl (am_NN c)) :: S).length ∧ am_small ((vR (.inl (am_NN c)) :: vR (.inl (am_NN c)) :: S).drop 1) = true ∧ (((vR (.inl (am_NN c)) :: vR (.inl (am_NN c)) :: S).take 1).map am_cat).sum ≤ am_nl 10 ∧ ((2 : Int) = 1 ∨ (m1 am_ft am_T X.1 X.2 17 10 (((vR (.inl (am_NN c)) :: vR (.inl (am_NN c)) :: S).take 1).reverse.take 1) b1).isSome = true) := ⟨Nat.le_add_left 1 _, hs1, nl_10.1, Or.inr (by
        show (m1 am_ft am_T X.1 X.2 17 10 [vR (.inl (am_NN c))] b1).isSome = true
        rw [h17]
        rfl)⟩
      have e1 := am_fw_mem (P := am_P) (NL := am_nl) (n := max n n1 + 2) (d := d + 10) (L := L) (x := 5) (y := 0) (im := 8) (tb := []) (nx := 25) (show am_P 152 22 = _ by rw [P152]; rfl) (Nat.zero_le _) hs hm0
      have e2 := am_run_pg (P := am_P) (NL := am_nl) (mem := m1 am_ft am_T X.1 X.2) (n := max n n1 + 1) (d := d + 10 + 1) (op := 12) (x := 0) (y := 0) (im := 0) (tb := []) (nx := 26) (pc' := 26) (L := L) (L' := L) (S := vR (.inl (am_NN c)) :: S) (S' := vR (.inl (am_NN c)) :: vR (.inl (am_NN c)) :: S) (m := b1) (show am_P 152 25 = _ by rw [P152]; rfl) ⟨by omega, by omega, by omega, by omega⟩ rfl
      have e3 := am_fw_call (P := am_P) (NL := am_nl) (n := max n n1) (d := d + 10) (L := L) (S := vR (.inl (am_NN c)) :: vR (.inl (am_NN c)) :: S) (m := b1) (x := 10) (y := 1) (im := 2) (tb := []) (nx := 29) (show am_P 152 26 = _ by rw [P152]; rfl) hcall g3
      refine ⟨max n n1 + 3, ?_⟩
      rw [show d + 1 + 10 = d + 10 + 1 by omega]
      refine e1.trans (e2.trans (e3.trans ?_))
      exact am_run_mono n (max n n1) _ _ _ _ _ _ _ _ (by omega) (Nat.le_refl _) hrun
  · cases h
