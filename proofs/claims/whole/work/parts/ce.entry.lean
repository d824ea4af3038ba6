/-! THE LAW'S ENTRY and the whole run of the first machine -/
theorem lay_01 : am_lay[0]? = some (0, 0) ∧ am_lay[291]? = some (12, 0) := by
  have k : (atL am_lay 0 0 0 && atL am_lay 291 12 0) = true := by decide +kernel
  rw [Bool.and_eq_true] at k
  have g : ∀ {a c i : Nat}, atL am_lay a c i = true → am_lay[a]? = some (c, i) := fun {a c i} h => by
    unfold atL at h
    split at h
    · rename_i x e
      rw [Bool.and_eq_true] at h
      rw [e, ← Nat.eq_of_beq_eq_true h.1, ← Nat.eq_of_beq_eq_true h.2]
    · cases h
  exact ⟨g k.1, g k.2⟩
theorem P287 {pc : Nat} : am_P 287 pc = am_lk pc am_c287 := rfl
theorem nl_00 : 1 ≤ am_nl 0 ∧ am_o 0 = 0 ∧ 1 ≤ am_nl 155 ∧ am_o 155 = 12 := by decide +kernel
/-- an object made and its constructor run: three steps of any method -/
theorem make_3 {sl : Nat} {sx : Nat → Int} {k c q pc1 pc2 pc3 pc4 n1 n d : Nat} {L : am_L R1} {w w2 : W1} {o : Option (AV R1) × W1} (h1 : am_P k pc1 = some ((24, 5, 0, (c : Int), []), pc2)) (h2 : am_P k pc2 = some ((12, 0, 0, 0, []), pc3)) (h3 : am_P k pc3 = some ((21, q, 1, 2, []), pc4)) (hc : c < 13) (hn : 1 ≤ am_nl q) (ho : am_o q = c) (hr : am_run am_P am_nl (m1 am_ft am_T sl sx) n1 9 q 0 (am_loc (am_nl q) [vR (.inl w.length)]) [] (w ++ [.inl (c, (am_ft c).map am_def)]) = some (none, w2)) (hd : 9 ≤ d) (h : am_run am_P am_nl (m1 am_ft am_T sl sx) n (d + 1) k pc4 L [vR (.inl w.length)] w2 = some o) : am_run am_P am_nl (m1 am_ft am_T sl sx) (max n n1 + 3) (d + 1) k pc1 L [] w = some o := by
  have hm0 : m1 am_ft am_T sl sx 5 ((c : Int).toNat) ((([] : List (AV R1)).take 0).reverse) w = some (some (vR (.inl w.length)), w ++ [.inl (c, (am_ft c).map am_def)]) := by
    show m1_new am_ft c [] w = _
    unfold m1_new
    simp only
    rw [if_pos hc]
  have hw : (w ++ [.inl (c, (am_ft c).map am_def)] : W1)[w.length]? = some (.inl (c, (am_ft c).map am_def)) := by
    rw [List.getElem?_append_right (Nat.le_refl _), Nat.sub_self]
    rfl
  generalize (w ++ [.inl (c, (am_ft c).map am_def)] : W1) = b1 at hw hr hm0
  have g3 : am_run am_P am_nl (m1 am_ft am_T sl sx) (max n n1) d q 0 (am_loc (am_nl q) [vR (.inl w.length)]) [] b1 = some (none, w2) := am_run_mono n1 (max n n1) 9 d _ _ _ _ _ _ (by omega) hd hr
  generalize hN : w.length = N at *
  have h17 : m1 am_ft am_T sl sx 17 q [vR (.inl N)] b1 = some (none, b1) := by
    show (match b1[N]? with
      | some (.inl (c, _)) => if c = am_o q then some (none, b1) else none
      | _ => none) = _
    rw [hw]
    exact if_pos ho.symm
  have hcall : 1 ≤ ([vR (.inl N), vR (.inl N)] : List (AV R1)).length ∧ am_small (([vR (.inl N), vR (.inl N)] : List (AV R1)).drop 1) = true ∧ ((([vR (.inl N), vR (.inl N)] : List (AV R1)).take 1).map am_cat).sum ≤ am_nl q ∧ ((2 : Int) = 1 ∨ (m1 am_ft am_T sl sx 17 q ((([vR (.inl N), vR (.inl N)] : List (AV R1)).take 1).reverse.take 1) b1).isSome = true) := ⟨Nat.le_add_left 1 _, rfl, hn, Or.inr (by
    show (m1 am_ft am_T sl sx 17 q [vR (.inl N)] b1).isSome = true
    rw [h17]
    rfl)⟩
  have e1 := am_fw_mem (P := am_P) (NL := am_nl) (n := max n n1 + 2) (d := d) (L := L) (x := 5) (y := 0) h1 (Nat.zero_le _) rfl hm0
  have e2 := am_run_pg (P := am_P) (NL := am_nl) (mem := m1 am_ft am_T sl sx) (n := max n n1 + 1) (d := d + 1) (op := 12) (pc' := pc3) (L := L) (L' := L) (S := [vR (.inl N)]) (S' := [vR (.inl N), vR (.inl N)]) (m := b1) h2 ⟨by omega, by omega, by omega, by omega⟩ rfl
  have e3 := am_fw_call (P := am_P) (NL := am_nl) (n := max n n1) (d := d) (L := L) (S := [vR (.inl N), vR (.inl N)]) (m := b1) h3 hcall g3
  refine e1.trans (e2.trans (e3.trans ?_))
  exact am_run_mono n (max n n1) _ _ _ _ _ _ _ _ (by omega) (Nat.le_refl _) h
theorem whole_run {L : Nat} {xs : Nat → Int32} (hL : L ≤ 3072) : ∃ (n d : Nat) (w' : W1), am_run am_P am_nl (m1 am_ft am_T L (fun j => (xs j).toInt)) n d am_NM 0 (am_loc 4 [vR (.inr 0)]) [] [] = some (some (vI 1), w') ∧ d ≤ 840 ∧ w'.length ≤ 600000 ∧ am_sl am_ft w' ≤ 7302250 := by
  generalize hsx : (fun j => (xs j).toInt) = sx
  obtain ⟨s', hf⟩ := law_alike (X := (L, sx)) inv_0 (fun k _ => by
    rw [← hsx]
    exact ⟨(xs k).le_toInt, (xs k).toInt_lt⟩) hL
  obtain ⟨n0, hgo⟩ := g287 (L, sx) (by show L ≤ 100000; omega) s0 (some (vI 1), s') (1, s') hf rfl
  obtain ⟨n1, a1, r1, g1⟩ := made run_L (L := L) (sx := sx) (w0 := [])
  have hl1 : (a1.map (shC 0)).length = 291 := by rw [List.length_map, ← r1.len]; exact tdL_len
  obtain ⟨n2, a2, r2, g2⟩ := made run_M (L := L) (sx := sx) (w0 := a1.map (shC 0))
  rw [hl1] at g2
  have hSM := SM_0 r1 r2
  have hNN : am_NN 0 = 347 := rfl
  obtain ⟨n3, c', rw', w', -, k1, k2, k3⟩ := am_run_sim (V := VM) (I := SM) (D := 10) (fun c c' r q h hv => hv.mono h) hP_2 (fun kind idx h => mS_all (X := (L, sx)) kind idx h) (hX_2 (X := (L, sx))) h30_P n0 202 287 16 [some (aR 6000 0), some (oR 0 0), some (oR 12 0), none] [] [some (vR (.inr 0)), some (vR (.inl 0)), some (vR (.inl 291)), none] [] 0 s0 s' _ (some (vI 1)) hSM ⟨Or.inr (Or.inr (Or.inr (Or.inr (Or.inl ⟨rfl, rfl, rfl, rfl⟩)))), Or.inl ⟨rfl, by show 0 < 13; omega, 0, by omega, lay_01.1, rfl⟩, Or.inl ⟨rfl, by show 12 < 13; omega, 291, by omega, lay_01.2, rfl⟩, trivial, trivial⟩ (show lR _ [] [] from trivial) hgo
  match rw', k3 with
  | some v, k3 =>
    have hv := aV.int k3
    subst hv
    have k1 : am_run am_P am_nl (m1 am_ft am_T L sx) n3 (211 + 1) 287 16 [some (vR (.inr 0)), some (vR (.inl 0)), some (vR (.inl 291)), none] [] (a1.map (shC 0) ++ a2.map (shC 291)) = some (some (vI 1), w') := k1
    have e15 := am_run_pg (P := am_P) (NL := am_nl) (mem := m1 am_ft am_T L sx) (n := n3) (d := 211 + 1) (k := 287) (pc := 15) (op := 4) (x := 2) (y := 2) (im := 0) (tb := []) (nx := 16) (pc' := 16) (L := [some (vR (.inr 0)), some (vR (.inl 0)), none, none]) (L' := [some (vR (.inr 0)), some (vR (.inl 0)), some (vR (.inl 291)), none]) (S := [vR (.inl 291)]) (S' := []) (m := a1.map (shC 0) ++ a2.map (shC 291)) (by rw [P287]; rfl) ⟨by omega, by omega, by omega, by omega⟩ rfl
    rw [← e15] at k1
    have m2 := make_3 (k := 287) (pc1 := 8) (pc2 := 11) (pc3 := 12) (pc4 := 15) (c := 12) (q := 155) (d := 211) (w := a1.map (shC 0)) (by rw [P287]; rfl) (by rw [P287]; rfl) (by rw [P287]; rfl) (by omega) nl_00.2.2.1 nl_00.2.2.2 (by rw [hl1]; exact g2) (by omega) (by rw [hl1]; exact k1)
    have e7 := am_run_pg (P := am_P) (NL := am_nl) (mem := m1 am_ft am_T L sx) (n := max (n3 + 1) n2 + 3) (d := 211 + 1) (k := 287) (pc := 7) (op := 4) (x := 1) (y := 2) (im := 0) (tb := []) (nx := 8) (pc' := 8) (L := [some (vR (.inr 0)), none, none, none]) (L' := [some (vR (.inr 0)), some (vR (.inl 0)), none, none]) (S := [vR (.inl 0)]) (S' := []) (m := a1.map (shC 0)) (by rw [P287]; rfl) ⟨by omega, by omega, by omega, by omega⟩ rfl
    rw [← e7] at m2
    have m1' := make_3 (k := 287) (pc1 := 0) (pc2 := 3) (pc3 := 4) (pc4 := 7) (c := 0) (q := 0) (d := 211) (w := []) (by rw [P287]; rfl) (by rw [P287]; rfl) (by rw [P287]; rfl) (by omega) nl_00.1 nl_00.2.1 g1 (by omega) m2
    obtain ⟨z1, z2⟩ := k2.sz
    exact ⟨_, 211 + 1, w', m1', by omega, z1, z2⟩
