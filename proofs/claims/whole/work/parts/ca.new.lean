/-! A NEW WORLD and THE START lie as the layout says -/
def isNew (m : Nat) (x : Nat × Nat) : Bool := (bif Nat.blt x.1 2000 then (Nat.beq x.1 3 || (Nat.beq x.1 4 || Nat.beq x.1 8)) && Nat.beq (am_ow (128 * x.1) x.2) (m + 1) else (Nat.beq ((x.1 - 2000) / 128) 3 || (Nat.beq ((x.1 - 2000) / 128) 4 || Nat.beq ((x.1 - 2000) / 128) 8)) && Nat.beq (am_ow (x.1 - 2000) x.2) (m + 1))
def svN : S2 := fun f _ _ => bif Nat.beq f 513 || (Nat.beq f 515 || Nat.beq f 1033) then -1 else 0
def nF (m f i : Nat) : Prop := (f / 128 = 3 ∨ f / 128 = 4 ∨ f / 128 = 8) ∧ am_ow f i = m + 1
theorem b3_i {a b c d : Nat} : (Nat.beq a b || (Nat.beq a c || Nat.beq a d)) = true ↔ a = b ∨ a = c ∨ a = d := by
  rw [Bool.or_eq_true, Bool.or_eq_true]
  refine or_congr ⟨Nat.eq_of_beq_eq_true, fun h => by rw [h]; exact Nat.beq_refl _⟩ (or_congr ⟨Nat.eq_of_beq_eq_true, fun h => by rw [h]; exact Nat.beq_refl _⟩ ⟨Nat.eq_of_beq_eq_true, fun h => by rw [h]; exact Nat.beq_refl _⟩)
theorem isNew_o {m : Nat} {x : Nat × Nat} (hx : x.1 < 2000) {j : Nat} (hj : j < 128) : isNew m x = true ↔ nF m (128 * x.1 + j) x.2 := by
  unfold isNew nF
  rw [show Nat.blt x.1 2000 = true from Nat.ble_eq_true_of_le hx]
  simp only [cond_true]
  rw [Bool.and_eq_true, b3_i, show (128 * x.1 + j) / 128 = x.1 by omega]
  refine and_congr Iff.rfl ?_
  have e : am_ow (128 * x.1 + j) x.2 = am_ow (128 * x.1) x.2 := by
    unfold am_ow
    rw [show (128 * x.1 + j) / 128 = x.1 by omega, show (128 * x.1) / 128 = x.1 by omega]
  rw [e]
  exact ⟨Nat.eq_of_beq_eq_true, fun h => by rw [h]; exact Nat.beq_refl _⟩
theorem isNew_r {m : Nat} {x : Nat × Nat} (hx : 2000 ≤ x.1) : isNew m x = true ↔ nF m (x.1 - 2000) x.2 := by
  unfold isNew nF
  have hb : Nat.blt x.1 2000 = false := by
    cases e : Nat.blt x.1 2000 with
    | true =>
      have : x.1 + 1 ≤ 2000 := Nat.le_of_ble_eq_true e
      omega
    | false => rfl
  rw [hb]
  simp only [cond_false]
  rw [Bool.and_eq_true, b3_i]
  exact and_congr Iff.rfl ⟨Nat.eq_of_beq_eq_true, fun h => by rw [h]; exact Nat.beq_refl _⟩
theorem nw2_y {m f i k : Nat} {s : S2} (h9 : s 9999 0 0 = m) (h : nF m f i) : nw2 s f i k = svN f i k := by
  obtain ⟨h1, h2⟩ := h
  unfold nw2 svN
  rw [if_neg (show ¬ f = 9999 by omega), if_pos (show 3 ≤ f / 128 ∧ f / 128 ≤ 8 ∧ ¬ (f / 128 = 5) ∧ ¬ (f / 128 = 6) ∧ ¬ (f / 128 = 7) ∧ (am_ow f i : Int) = s 9999 0 0 + 1 by rw [h9, h2]; omega)]
  by_cases y : f = 513 ∨ f = 515 ∨ f = 1033
  · rw [if_pos y, b3_i.mpr y]
    rfl
  · rw [if_neg y]
    cases e : (Nat.beq f 513 || (Nat.beq f 515 || Nat.beq f 1033)) with
    | true => exact absurd (b3_i.mp e) y
    | false => rfl
theorem nw2_n {m f i k : Nat} {s : S2} (h9 : s 9999 0 0 = m) (hf : f ≠ 9999) (h : ¬ nF m f i) : nw2 s f i k = s f i k := by
  unfold nw2
  rw [if_neg hf, if_neg]
  rintro ⟨a1, a2, a3, a4, a5, a6⟩
  refine h ⟨by omega, ?_⟩
  rw [h9] at a6
  omega
def ckN (m : Nat) : Bool := zall (fun x d => isNew m x && ckX svN ((am_lay.drop (am_NN m)).take 169) x d) ((am_lay.drop (am_NN m)).take 169) tdW && (am_lay.take (am_NN m)).all fun x => !(isNew m x)
theorem ckN_t : (ckN 0 && (ckN 1 && (ckN 2 && ckN 3))) = true := by decide +kernel
theorem ckN_m {m : Nat} (h : m < 4) : ckN m = true := by
  have := ckN_t
  rw [Bool.and_eq_true, Bool.and_eq_true, Bool.and_eq_true] at this
  obtain ⟨h0, h1, h2, h3⟩ := this
  match m, h with
  | 0, _ => exact h0
  | 1, _ => exact h1
  | 2, _ => exact h2
  | 3, _ => exact h3
  | m + 4, h => omega
theorem fk_n9' {f : Nat} (h : (am_fk f).1 ≠ 9) : f ≠ 9999 := fun e => by
  subst e
  rcases m2_o h with k | k <;> omega
theorem SM_new {m : Nat} {s : S2} {w : W1} {a : List C1} (h : SM m s w) (hm : m < 4) (ha : lR TDr tdW a) : SM (m + 1) (nw2 s) (w ++ a.map (shC (am_NN m))) := by
  obtain ⟨h1, h9, h3, h4⟩ := h
  have hc := ckN_m hm
  unfold ckN at hc
  rw [Bool.and_eq_true] at hc
  have hz := zall_i hc.1
  have hlen : a.length = 169 := by rw [← ha.len]; rfl
  have hNN : am_NN (m + 1) = am_NN m + 169 := by unfold am_NN; omega
  refine ⟨by omega, ?_, by rw [List.length_append, List.length_map, h3, hlen, hNN], fun i x hi hx => ?_⟩
  · unfold nw2
    rw [if_pos rfl, h9]
    omega
  · by_cases hi' : i < am_NN m
    · obtain ⟨ce, k1, k2⟩ := h4 i x hi' hx
      refine ⟨ce, by rw [List.getElem?_append_left (by omega)]; exact k1, ?_⟩
      have hno : ¬ isNew m x = true := fun w => by
        have := List.all_eq_true.mp hc.2 x (List.mem_of_getElem? (i := i) (by rw [List.getElem?_take_of_lt hi']; exact hx))
        rw [w] at this
        cases this
      refine (k2.mono (Nat.le_succ m)).same (fun j hx2 hj hk => ?_) (fun hx2 hk k => ?_)
      · exact nw2_n h9 (fk_n9' (by omega)) fun w => hno ((isNew_o hx2 hj).mpr w)
      · exact nw2_n h9 (fk_n9 hk) fun w => hno ((isNew_r hx2).mpr w)
    · obtain ⟨t, rfl⟩ : ∃ t, i = am_NN m + t := ⟨i - am_NN m, by omega⟩
      have ht : t < 169 := by omega
      have hx' : ((am_lay.drop (am_NN m)).take 169)[t]? = some x := by
        rw [List.getElem?_take_of_lt ht, List.getElem?_drop]
        exact hx
      obtain ⟨d, k1, k2⟩ := hz.get hx'
      obtain ⟨ce, k3, k4⟩ := ha.get k1
      rw [Bool.and_eq_true] at k2
      refine ⟨shC (am_NN m) ce, by rw [List.getElem?_append_right (by omega), show am_NN m + t - w.length = t by omega, List.getElem?_map, k3]; rfl, ?_⟩
      exact ckX_i (sv := svN) (K := 169) (by omega) k2.2 k4 (fun hx2 j hj => nw2_y h9 ((isNew_o hx2 hj).mp k2.1)) (fun hx2 k => nw2_y h9 ((isNew_r hx2).mp k2.1))
/-- the start: what the constructors leave -/
def s0 : S2 := fun f i k => bif Nat.beq f 513 || (Nat.beq f 515 || Nat.beq f 1033) then -1 else bif Nat.beq f 768 && Nat.beq i 6 then (bif Nat.beq k 0 then -260 else bif Nat.beq k 1 then -59 else 0) else bif Nat.beq f 769 && Nat.beq i 6 then 2 else bif Nat.beq f 1537 && Nat.beq k 10 then -1 else bif Nat.beq f 1578 then 13 else bif Nat.beq f 1153 then 6 else bif Nat.beq f 1154 then 8 else 0
theorem ck0_t : zall (fun x d => ckX s0 ((am_lay.drop 0).take 291) x d) ((am_lay.drop 0).take 291) tdL = true := by decide +kernel
theorem ck1_t : zall (fun x d => ckX s0 ((am_lay.drop 291).take 56) x d) ((am_lay.drop 291).take 56) tdM = true := by decide +kernel
theorem tdL_len : tdL.length = 291 := by decide +kernel
theorem SM_0 {a a' : List C1} (ha : lR TDr tdL a) (ha' : lR TDr tdM a') : SM 0 s0 (a.map (shC 0) ++ a'.map (shC 291)) := by
  have hlen : a.length = 291 := by rw [← ha.len]; exact tdL_len
  have hlen' : a'.length = 56 := by rw [← ha'.len]; rfl
  have hNN : am_NN 0 = 347 := rfl
  refine ⟨by omega, rfl, by rw [List.length_append, List.length_map, List.length_map, hlen, hlen']; rfl, fun i x hi hx => ?_⟩
  by_cases hi' : i < 291
  · have hx' : ((am_lay.drop 0).take 291)[i]? = some x := by
      rw [List.getElem?_take_of_lt hi', List.getElem?_drop, Nat.zero_add]
      exact hx
    obtain ⟨d, k1, k2⟩ := (zall_i ck0_t).get hx'
    obtain ⟨ce, k3, k4⟩ := ha.get k1
    refine ⟨shC 0 ce, by rw [List.getElem?_append_left (by rw [List.length_map]; omega), List.getElem?_map, k3]; rfl, ?_⟩
    exact ckX_i (sv := s0) (K := 291) (by omega) k2 k4 (fun _ _ _ => rfl) (fun _ _ => rfl)
  · obtain ⟨t, rfl⟩ : ∃ t, i = 291 + t := ⟨i - 291, by omega⟩
    have ht : t < 56 := by omega
    have hx' : ((am_lay.drop 291).take 56)[t]? = some x := by
      rw [List.getElem?_take_of_lt ht, List.getElem?_drop]
      exact hx
    obtain ⟨d, k1, k2⟩ := (zall_i ck1_t).get hx'
    obtain ⟨ce, k3, k4⟩ := ha'.get k1
    refine ⟨shC 291 ce, by rw [List.getElem?_append_right (by rw [List.length_map]; omega), List.length_map, hlen, show 291 + t - 291 = t by omega, List.getElem?_map, k3]; rfl, ?_⟩
    exact ckX_i (sv := s0) (K := 56) (by omega) k2 k4 (fun _ _ _ => rfl) (fun _ _ => rfl)
