/-! A QUICK MACHINE for the makers: the same steps, asked in an order that computes fast -/
def fP (k pc : Nat) : Option (am_I × Nat) := bif Nat.beq k 5 then am_lk pc am_c5 else bif Nat.beq k 4 then am_lk pc am_c4 else bif Nat.beq k 155 then am_lk pc am_c155 else am_P k pc
theorem fP_i {k pc : Nat} : fP k pc = am_P k pc := by
  unfold fP
  cases e1 : Nat.beq k 5 with
  | true => rw [Nat.eq_of_beq_eq_true e1]; rfl
  | false =>
    cases e2 : Nat.beq k 4 with
    | true => rw [Nat.eq_of_beq_eq_true e2]; rfl
    | false =>
      cases e3 : Nat.beq k 155 with
      | true => rw [Nat.eq_of_beq_eq_true e3]; rfl
      | false => rfl
def fp (op x y : Nat) (im : Int) (tb : List (Int × Nat)) (nx : Nat) (L : am_L R1) (S : List (AV R1)) : Option (Nat × am_L R1 × List (AV R1)) :=
  bif Nat.beq op 3 then (match L[x]? with
    | some (some v) => bif am_ty y v then some (nx, L, v :: S) else none
    | _ => none)
  else bif Nat.beq op 0 then some (nx, L, vI im :: S)
  else bif Nat.beq op 5 then (match L[x]? with
    | some (some (.inl v)) => some (nx, L.set x (some (vI (jadd v im))), S)
    | _ => none)
  else bif Nat.beq op 18 then some (y, L, S)
  else bif Nat.ble 20 op then none
  else am_p op x y im tb nx L S
theorem fp_i {op x y : Nat} {im : Int} {tb : List (Int × Nat)} {nx : Nat} {L : am_L R1} {S : List (AV R1)} {r : Nat × am_L R1 × List (AV R1)} (h : fp op x y im tb nx L S = some r) : am_p op x y im tb nx L S = some r ∧ op < 20 := by
  unfold fp at h
  cases e1 : Nat.beq op 3 with
  | true =>
    rw [e1] at h
    simp only [cond_true] at h
    obtain rfl := Nat.eq_of_beq_eq_true e1
    refine ⟨?_, by omega⟩
    unfold am_p
    simp only
    split at h
    · rename_i v hv
      cases e2 : am_ty y v with
      | true =>
        rw [e2] at h
        cases h
        simp only [hv, e2, if_true]
      | false => rw [e2] at h; cases h
    · cases h
  | false =>
    rw [e1] at h
    simp only [cond_false] at h
    cases e2 : Nat.beq op 0 with
    | true =>
      rw [e2] at h
      cases h
      obtain rfl := Nat.eq_of_beq_eq_true e2
      exact ⟨rfl, by omega⟩
    | false =>
      rw [e2] at h
      simp only [cond_false] at h
      cases e3 : Nat.beq op 5 with
      | true =>
        rw [e3] at h
        simp only [cond_true] at h
        obtain rfl := Nat.eq_of_beq_eq_true e3
        refine ⟨?_, by omega⟩
        unfold am_p
        simp only
        split at h
        · rename_i v hv
          cases h
          simp only [hv]
        · cases h
      | false =>
        rw [e3] at h
        simp only [cond_false] at h
        cases e4 : Nat.beq op 18 with
        | true =>
          rw [e4] at h
          cases h
          obtain rfl := Nat.eq_of_beq_eq_true e4
          exact ⟨rfl, by omega⟩
        | false =>
          rw [e4] at h
          simp only [cond_false] at h
          cases e5 : Nat.ble 20 op with
          | true => rw [e5] at h; cases h
          | false =>
            rw [e5] at h
            exact ⟨h, Nat.lt_of_not_le fun w => by rw [Nat.ble_eq_true_of_le w] at e5; cases e5⟩
/-- the cells behind one another, the last one first, with their number -/
abbrev WV : Type := Nat × List C1
abbrev MV : Type := Option (Option (AV R1) × WV)
def gR (s : WV) (a : Nat) : Option C1 := bif Nat.blt a s.1 then s.2[s.1 - 1 - a]? else none
def pR (s : WV) (a : Nat) (c : C1) : WV := bif Nat.blt a s.1 then (s.1, s.2.set (s.1 - 1 - a) c) else s
theorem gR_i {s : WV} (h : s.1 = s.2.length) {a : Nat} : gR s a = s.2.reverse[a]? := by
  unfold gR
  cases e : Nat.blt a s.1 with
  | true =>
    have h1 : a + 1 ≤ s.1 := Nat.le_of_ble_eq_true e
    rw [List.getElem?_reverse (by omega), h]
    rfl
  | false =>
    have h1 : ¬ a < s.1 := fun w => by rw [show Nat.blt a s.1 = true from Nat.ble_eq_true_of_le w] at e; cases e
    show none = _
    rw [List.getElem?_eq_none (by rw [List.length_reverse]; omega)]
theorem pR_i {s : WV} (h : s.1 = s.2.length) {a : Nat} {c : C1} : (pR s a c).2.reverse = s.2.reverse.set a c ∧ (pR s a c).1 = (pR s a c).2.length := by
  unfold pR
  cases e : Nat.blt a s.1 with
  | true =>
    have h1 : a + 1 ≤ s.1 := Nat.le_of_ble_eq_true e
    refine ⟨?_, by
      show s.1 = (s.2.set (s.1 - 1 - a) c).length
      rw [List.length_set]; exact h⟩
    show (s.2.set (s.1 - 1 - a) c).reverse = _
    refine List.ext_getElem? fun i => ?_
    by_cases hi : i < s.2.length
    · rw [List.getElem?_reverse (by rw [List.length_set]; exact hi), List.length_set]
      by_cases hij : i = a
      · subst hij
        rw [List.getElem?_set_self (by rw [List.length_reverse]; exact hi), ← h, List.getElem?_set_self (by omega)]
      · rw [List.getElem?_set_ne (fun w => hij w.symm), List.getElem?_set_ne (by omega), List.getElem?_reverse hi]
    · rw [List.getElem?_eq_none (by rw [List.length_reverse, List.length_set]; omega), List.getElem?_eq_none (by rw [List.length_set, List.length_reverse]; omega)]
  | false =>
    have h1 : ¬ a < s.1 := fun w => by rw [show Nat.blt a s.1 = true from Nat.ble_eq_true_of_le w] at e; cases e
    refine ⟨?_, h⟩
    show s.2.reverse = _
    rw [List.set_eq_of_length_le (by rw [List.length_reverse]; omega)]
def mR_get (idx : Nat) (as : List (AV R1)) (s : WV) : MV := match as with
  | [.inr (.inr (some (.inl a)))] => match gR s a with
    | some (.inl (c, fs)) => if idx / 128 = c then match fs[idx % 128]? with
      | some v => some (some v, s)
      | none => none
      else none
    | _ => none
  | _ => none
def mR_put (idx : Nat) (as : List (AV R1)) (s : WV) : MV := match as with
  | [.inr (.inr (some (.inl a))), v] => match gR s a with
    | some (.inl (c, fs)) => if idx / 128 = c ∧ idx % 128 < fs.length then match (am_ft c)[idx % 128]? with
      | some t => if am_fit t v = true then some (none, pR s a (.inl (c, fs.set (idx % 128) v))) else none
      | none => none
      else none
    | _ => none
  | _ => none
def mR_ast (idx : Nat) (as : List (AV R1)) (s : WV) : MV := match as with
  | [.inr (.inr (some (.inl a))), .inl i, .inl x] => match gR s a with
    | some (.inr (.inl (t, n, f))) => if am_tm t idx = true ∧ am_in i n = true ∧ t = 0 then some (none, pR s a (.inr (.inl (0, n, am_u f i.toNat x)))) else none
    | _ => none
  | [.inr (.inr (some (.inl a))), .inl i, .inr (.inr (some (.inl b)))] => match gR s a with
    | some (.inr (.inr (t, n, g))) => match gR s b with
      | some (.inl (c, _)) => if idx = 4 ∧ t = 100 + c ∧ am_in i n = true then some (none, pR s a (.inr (.inr (t, n, am_uq g i.toNat (some b))))) else none
      | _ => none
    | _ => none
  | _ => none
def mR_len (as : List (AV R1)) (s : WV) : MV := match as with
  | [.inr (.inr (some (.inl a)))] => match gR s a with
    | some (.inr (.inl (_, n, _))) => if n ≤ 100000 then some (some (vI n), s) else none
    | some (.inr (.inr (_, n, _))) => if n ≤ 100000 then some (some (vI n), s) else none
    | _ => none
  | _ => none
def nR (s : WV) (c : C1) : MV := some (some (vR (.inl s.1)), (s.1 + 1, c :: s.2))
def mR_new (idx : Nat) (as : List (AV R1)) (s : WV) : MV := match as with
  | [] => if idx < 13 then nR s (.inl (idx, (am_ft idx).map am_def)) else none
  | _ => none
def mR_newa (idx : Nat) (as : List (AV R1)) (s : WV) : MV := match as with
  | [.inl n] => if 0 ≤ n ∧ n ≤ 100000 ∧ idx ≤ 3 then nR s (.inr (.inl (idx, n.toNat, fun _ => 0))) else none
  | _ => none
def mR_newq (idx : Nat) (as : List (AV R1)) (s : WV) : MV := match as with
  | [.inl n] => if 0 ≤ n ∧ n ≤ 100000 ∧ (idx = 4 ∨ idx = 6 ∨ idx = 8) then nR s (.inr (.inr (100 + idx, n.toNat, fun _ => none))) else none
  | _ => none
def mR_mna (as : List (AV R1)) (s : WV) : MV := match as with
  | [.inl n, .inl k] => if 0 ≤ n ∧ n ≤ 100 ∧ 0 ≤ k ∧ k ≤ 100 then some (some (vR (.inl s.1)), (s.1 + 1 + n.toNat, List.replicate n.toNat (.inr (.inl (0, k.toNat, fun _ => 0))) ++ .inr (.inr (99, n.toNat, fun j => if j < n.toNat then some (s.1 + 1 + j) else none)) :: s.2)) else none
  | _ => none
def mR (kind idx : Nat) (as : List (AV R1)) (s : WV) : MV :=
  bif Nat.beq kind 0 then mR_get idx as s
  else bif Nat.beq kind 3 then mR_ast idx as s
  else bif Nat.beq kind 1 then mR_put idx as s
  else bif Nat.beq kind 6 then mR_newa idx as s
  else match kind with
    | 4 => mR_len as s
    | 5 => mR_new idx as s
    | 7 => mR_newq idx as s
    | 8 => mR_mna as s
    | 14 => match as with
      | [.inr (.inr (some (.inl _)))] => some (none, s)
      | _ => none
    | 17 => match as with
      | [.inr (.inr (some (.inl a)))] => match gR s a with
        | some (.inl (c, _)) => if c = am_o idx then some (none, s) else none
        | _ => none
      | _ => none
    | _ => none
theorem nR_i {s s' : WV} {c : C1} {rv : Option (AV R1)} (hs : s.1 = s.2.length) (h : nR s c = some (rv, s')) : rv = some (vR (.inl s.2.reverse.length)) ∧ s'.2.reverse = s.2.reverse ++ [c] ∧ s'.1 = s'.2.length := by
  cases h
  rw [List.length_reverse, ← hs]
  exact ⟨rfl, List.reverse_cons, by rw [List.length_cons, hs]⟩
theorem mR_i {kind idx : Nat} {as : List (AV R1)} {s s' : WV} {rv : Option (AV R1)} (hs : s.1 = s.2.length) (h : mR kind idx as s = some (rv, s')) : m1c kind idx as s.2.reverse = some (rv, s'.2.reverse) ∧ s'.1 = s'.2.length := by
  unfold mR at h
  cases e1 : Nat.beq kind 0 with
  | true =>
    rw [e1] at h
    simp only [cond_true] at h
    obtain rfl := Nat.eq_of_beq_eq_true e1
    show m1_get idx as _ = _ ∧ _
    unfold mR_get at h
    split at h
    · rename_i a
      split at h
      · rename_i c fs e
        rw [gR_i hs] at e
        split at h
        · rename_i hc
          split at h
          · rename_i v hv
            cases h
            refine ⟨?_, hs⟩
            unfold m1_get
            simp only [e, if_pos hc, hv]
          · cases h
        · cases h
      · cases h
    · cases h
  | false =>
  rw [e1] at h
  simp only [cond_false] at h
  cases e2 : Nat.beq kind 3 with
  | true =>
    rw [e2] at h
    simp only [cond_true] at h
    obtain rfl := Nat.eq_of_beq_eq_true e2
    show m1_ast idx as _ = _ ∧ _
    unfold mR_ast at h
    split at h
    · rename_i a i x
      split at h
      · rename_i t n f e
        rw [gR_i hs] at e
        split at h
        · rename_i hc
          cases h
          obtain ⟨hc1, hc2, rfl⟩ := hc
          obtain ⟨p1, p2⟩ := pR_i hs (a := a) (c := .inr (.inl (0, n, am_u f i.toNat x)))
          refine ⟨?_, p2⟩
          rw [p1]
          unfold m1_ast
          simp only [e]
          rw [if_pos ⟨hc1, hc2⟩]
        · cases h
      · cases h
    · rename_i a i b
      split at h
      · rename_i t n g e
        rw [gR_i hs] at e
        split at h
        · rename_i c fs e'
          rw [gR_i hs] at e'
          split at h
          · rename_i hc
            cases h
            obtain ⟨p1, p2⟩ := pR_i hs (a := a) (c := .inr (.inr (t, n, am_uq g i.toNat (some b))))
            refine ⟨?_, p2⟩
            rw [p1]
            unfold m1_ast
            simp only [e, e', if_pos hc]
          · cases h
        · cases h
      · cases h
    · cases h
  | false =>
  rw [e2] at h
  simp only [cond_false] at h
  cases e3 : Nat.beq kind 1 with
  | true =>
    rw [e3] at h
    simp only [cond_true] at h
    obtain rfl := Nat.eq_of_beq_eq_true e3
    show m1_put am_ft idx as _ = _ ∧ _
    unfold mR_put at h
    split at h
    · rename_i a v
      split at h
      · rename_i c fs e
        rw [gR_i hs] at e
        split at h
        · rename_i hc
          split at h
          · rename_i t ht
            split at h
            · rename_i hf
              cases h
              obtain ⟨p1, p2⟩ := pR_i hs (a := a) (c := .inl (c, fs.set (idx % 128) v))
              refine ⟨?_, p2⟩
              rw [p1]
              unfold m1_put
              simp only [e, if_pos hc, ht, if_pos hf]
            · cases h
          · cases h
        · cases h
      · cases h
    · cases h
  | false =>
  rw [e3] at h
  simp only [cond_false] at h
  cases e4 : Nat.beq kind 6 with
  | true =>
    rw [e4] at h
    simp only [cond_true] at h
    obtain rfl := Nat.eq_of_beq_eq_true e4
    show m1_newa idx as _ = _ ∧ _
    unfold mR_newa at h
    split at h
    · rename_i n
      split at h
      · rename_i hc
        obtain ⟨rfl, p1, p2⟩ := nR_i hs h
        refine ⟨?_, p2⟩
        rw [p1]
        unfold m1_newa
        simp only
        rw [if_pos hc]
      · cases h
    · cases h
  | false =>
  rw [e4] at h
  simp only [cond_false] at h
  split at h
  · show m1c 4 idx as _ = _ ∧ _
    unfold mR_len at h
    split at h
    · rename_i a
      show m1_len [] 0 [.inr (.inr (some (.inl a)))] _ = _ ∧ _
      split at h
      · rename_i t n f e
        rw [gR_i hs] at e
        split at h
        · rename_i hn
          cases h
          refine ⟨?_, hs⟩
          unfold m1_len
          simp only [e, if_pos hn]
        · cases h
      · rename_i t n g e
        rw [gR_i hs] at e
        split at h
        · rename_i hn
          cases h
          refine ⟨?_, hs⟩
          unfold m1_len
          simp only [e, if_pos hn]
        · cases h
      · cases h
    · cases h
  · show m1_new am_ft idx as _ = _ ∧ _
    unfold mR_new at h
    split at h
    · split at h
      · rename_i hc
        obtain ⟨rfl, p1, p2⟩ := nR_i hs h
        refine ⟨?_, p2⟩
        rw [p1]
        unfold m1_new
        simp only
        rw [if_pos hc]
      · cases h
    · cases h
  · show m1_newq idx as _ = _ ∧ _
    unfold mR_newq at h
    split at h
    · rename_i n
      split at h
      · rename_i hc
        obtain ⟨rfl, p1, p2⟩ := nR_i hs h
        refine ⟨?_, p2⟩
        rw [p1]
        unfold m1_newq
        simp only
        rw [if_pos hc]
      · cases h
    · cases h
  · show m1_mna as _ = _ ∧ _
    unfold mR_mna at h
    split at h
    · rename_i n k
      split at h
      · rename_i hc
        cases h
        refine ⟨?_, ?_⟩
        · unfold m1_mna
          simp only
          rw [if_pos hc, List.length_reverse, ← hs, List.reverse_append, List.reverse_cons, List.reverse_replicate, List.append_assoc]
          rfl
        · show s.1 + 1 + n.toNat = (List.replicate n.toNat _ ++ _ :: s.2).length
          rw [List.length_append, List.length_replicate, List.length_cons, hs]
          omega
      · cases h
    · cases h
  · split at h
    · cases h
      exact ⟨rfl, hs⟩
    · cases h
  · split at h
    · rename_i a
      split at h
      · rename_i c fs e
        rw [gR_i hs] at e
        split at h
        · rename_i hc
          cases h
          refine ⟨?_, hs⟩
          show (match s.2.reverse[a]? with
            | some (.inl (c, _)) => if c = am_o idx then some (none, s.2.reverse) else none
            | _ => none) = _
          rw [e]
          exact if_pos hc
        · cases h
      · cases h
    · cases h
  · cases h
def fr : Nat → Nat → Nat → Nat → am_L R1 → List (AV R1) → WV → MV
  | 0, _, _, _, _, _, _ => none
  | n + 1, d, k, pc, L, S, w =>
    match fP k pc with
    | none => none
    | some ((op, x, y, im, tb), nx) =>
      bif Nat.beq op 24 then (bif Nat.ble 1 d && (Nat.ble y S.length && am_small (S.drop y)) then (match mR x im.toNat (S.take y).reverse w with
        | none => none
        | some (rv, w') => fr n d k nx L (rv.toList ++ S.drop y) w') else none)
      else bif Nat.beq op 21 then (match d with
        | 0 => none
        | d' + 1 => if y ≤ S.length ∧ am_small (S.drop y) = true ∧ ((S.take y).map am_cat).sum ≤ am_nl x ∧ (im = 1 ∨ (mR 17 x ((S.take y).reverse.take 1) w).isSome = true) then (match fr n d' x 0 (am_loc (am_nl x) (S.take y).reverse) [] w with
          | none => none
          | some (rv, w') => fr n (d' + 1) k nx L (rv.toList ++ S.drop y) w') else none)
      else bif Nat.beq op 23 then (match S with
        | [] => some (none, w)
        | _ => none)
      else match fp op x y im tb nx L S with
        | none => none
        | some (pc', L', S') => fr n d k pc' L' S' w
theorem fr_i : ∀ (n d k pc : Nat) (L : am_L R1) (S : List (AV R1)) (w : WV) (r : Option (AV R1) × WV), fr n d k pc L S w = some r → am_run am_P am_nl mR n d k pc L S w = some r
  | 0, _, _, _, _, _, _, _, h => by cases h
  | n + 1, d, k, pc, L, S, w, r, h => by
    have IH := fun (d k pc : Nat) (L : am_L R1) (S : List (AV R1)) (w : WV) (r : Option (AV R1) × WV) => fr_i n d k pc L S w r
    unfold fr at h
    rw [fP_i] at h
    split at h
    · cases h
    · rename_i op x y im tb nx hk
      cases e1 : Nat.beq op 24 with
      | true =>
        rw [e1] at h
        simp only [cond_true] at h
        obtain rfl := Nat.eq_of_beq_eq_true e1
        cases e2 : (Nat.ble 1 d && (Nat.ble y S.length && am_small (S.drop y))) with
        | false => rw [e2] at h; cases h
        | true =>
          rw [e2] at h
          simp only [cond_true] at h
          rw [Bool.and_eq_true, Bool.and_eq_true] at e2
          have hd := Nat.le_of_ble_eq_true e2.1
          obtain ⟨d', rfl⟩ : ∃ d', d = d' + 1 := ⟨d - 1, by omega⟩
          split at h
          · cases h
          · rename_i rv w' hm
            unfold am_run
            rw [hk]
            simp only
            rw [if_pos ⟨Nat.le_of_ble_eq_true e2.2.1, e2.2.2⟩, hm]
            exact IH _ _ _ _ _ _ _ h
      | false =>
        rw [e1] at h
        simp only [cond_false] at h
        cases e2 : Nat.beq op 21 with
        | true =>
          rw [e2] at h
          simp only [cond_true] at h
          obtain rfl := Nat.eq_of_beq_eq_true e2
          split at h
          · cases h
          · rename_i d'
            split at h
            · rename_i hc
              split at h
              · cases h
              · rename_i rv w' hr
                have hr := IH _ _ _ _ _ _ _ hr
                unfold am_run
                rw [hk]
                simp only
                rw [if_pos hc, hr]
                exact IH _ _ _ _ _ _ _ h
            · cases h
        | false =>
          rw [e2] at h
          simp only [cond_false] at h
          cases e3 : Nat.beq op 23 with
          | true =>
            rw [e3] at h
            simp only [cond_true] at h
            obtain rfl := Nat.eq_of_beq_eq_true e3
            unfold am_run
            rw [hk]
            match S, h with
            | [], h => exact h
            | _ :: _, h => cases h
          | false =>
            rw [e3] at h
            simp only [cond_false] at h
            split at h
            · cases h
            · rename_i pc' L' S' hp
              obtain ⟨h1, h2⟩ := fp_i hp
              rw [am_run_pg hk ⟨by omega, by omega, by omega, by omega⟩ h1]
              exact IH _ _ _ _ _ _ _ h
