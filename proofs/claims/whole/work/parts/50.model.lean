/-! THE MODEL'S CELLS, held against a court C and a yard Y -/
def CR (C : V2) (t : S2) : Prop := (t 1537 0 0 = C 385 0 ∧ t 1537 0 1 = C 386 0 ∧ t 1537 0 2 = C 387 0 ∧ t 1537 0 3 = C 388 0 ∧ t 1537 0 4 = C 389 0 ∧ t 1537 0 5 = C 390 0) ∧
  (∀ l : Nat, l < 6 → (l : Int) < C 388 0 → t 1540 0 l = C 391 l ∧ t 1541 0 l = C 392 l ∧ t 1542 0 l = C 393 l ∧ t 1543 0 l = C 394 l) ∧
  (∀ n : Nat, n < 10 → (n : Int) < C 389 0 → t 1545 0 n = C 395 n ∧ t 1546 0 n = C 396 n ∧ t 1555 0 n = C 397 n) ∧
  (∀ r : Nat, r < 3 → (r : Int) < C 390 0 → t 1549 0 r = C 398 r ∧ t 1550 0 r = C 399 r)
def cutV (Y : V2) : Int := Y 514 0 + 2 * Y 514 1 + 4 * Y 514 2 + 8 * Y 514 3 + 16 * Y 514 4 + 32 * Y 514 5
def YR (C Y : V2) (t : S2) : Prop := t 1537 0 7 = Y 512 0 ∧ t 1537 0 6 = cutV Y ∧
  (∀ l : Nat, l < 6 → (l : Int) < C 388 0 → t 1544 0 l = Y 513 l) ∧
  (∀ n : Nat, n < 10 → (n : Int) < C 389 0 → t 1547 0 n = Y 516 n ∧ t 1548 0 n = Y 515 n) ∧
  (∀ f : Nat, f < 4 → (f : Int) < C 387 0 → t 1538 0 f = Y 517 f ∧ t 1539 0 f = Y 518 f)
theorem m173 {a b c : Int} : f173 a b c = some (if b ≤ a ∧ a ≤ c then 1 else 0) := by
  unfold f173
  simp only [jcmp_lt, jcmp_gt]
  grind
theorem m173t {a b c : Int} (h : b ≤ a ∧ a ≤ c) : f173 a b c = some 1 := by rw [m173, if_pos h]
theorem m173f {a b c : Int} (h : ¬ (b ≤ a ∧ a ≤ c)) : f173 a b c = some 0 := by rw [m173, if_neg h]
def i32 (x : Int) : Prop := -2147483648 ≤ x ∧ x < 2147483648
theorem m204 {C : V2} {t : S2} {h : Int} (hC : CB C) (hR : CR C t) (hh : 0 ≤ h ∧ h ≤ 6000) (hd : t 1589 0 0 = 0 ∨ t 1589 0 0 = 1) : f204 h t = some (if ¬ t 1589 0 0 = 0 ∨ rainB C h = true then 1 else 0) := by
  unfold f204
  have hcc := hC.1
  obtain ⟨⟨-, -, -, -, -, e5⟩, -, -, e6⟩ := hR
  have hcut : rainB C h = anyN (C 390 0).toNat (fun r => decide ((r : Int) < C 390 0 ∧ C 398 r ≤ h ∧ h ≤ C 399 r)) := anyN_cut (by omega) (fun i h1 h2 => decide_eq_false (by omega))
  rw [hcut, scan_cP (C 390 0).toNat (fun r => decide ((r : Int) < C 390 0 ∧ C 398 r ≤ h ∧ h ≤ C 399 r)) (.inl ()) (.inr ()) (by omega)]
  · cases anyN (C 390 0).toNat _ with
    | true => simp [se]
    | false =>
      rcases hd with hd | hd <;> simp [se, bnd, hd, gd]
  · intro i hi hp
    have hp := of_decide_eq_true hp
    obtain ⟨a1, a2⟩ := e6 i (by omega) hp.1
    have b1 := hC.2.2.2.2.2.1 i (by omega)
    unfold f204_a
    rw [ld_t (by omega) (by omega)]
    show (if t 1537 0 5 ≤ _ then _ else _) = _
    rw [e5, if_neg (by omega), ld_t (by omega) (by omega), ld_t (by omega) (by omega), Int.toNat_natCast, a1, a2, ji2l_e (by omega) (by omega), ji2l_e (by omega) (by omega), ji2l_e (by omega) (by omega), m173t (by omega), cP_s, if_neg ne10]
  · intro i hi hp
    have hp := of_decide_eq_false hp
    obtain ⟨a1, a2⟩ := e6 i (by omega) (by omega)
    have b1 := hC.2.2.2.2.2.1 i (by omega)
    unfold f204_a
    rw [ld_t (by omega) (by omega)]
    show (if t 1537 0 5 ≤ _ then _ else _) = _
    rw [e5, if_neg (by omega), ld_t (by omega) (by omega), ld_t (by omega) (by omega), Int.toNat_natCast, a1, a2, ji2l_e (by omega) (by omega), ji2l_e (by omega) (by omega), ji2l_e (by omega) (by omega), m173f (by omega), cP_s, if_pos rfl, bnd, jadd_e (by omega) (by omega)]
    rfl
  · unfold f204_a
    rw [ld_t (by omega) (by omega)]
    show (if t 1537 0 5 ≤ _ then _ else _) = _
    rw [e5, if_pos (by omega)]
theorem hasC : ∀ (c : Fin 64) (l : Fin 6), jand (jshr (c.val : Int) (l.val : Int)) 1 = ((c.val / 2 ^ l.val % 2 : Nat) : Int) := by decide +kernel
theorem cut_bd {Y : V2} (h : ∀ l, l < 6 → Y 514 l = 0 ∨ Y 514 l = 1) : 0 ≤ cutV Y ∧ cutV Y < 64 := by
  have h0 := h 0 (by omega); have h1 := h 1 (by omega); have h2 := h 2 (by omega); have h3 := h 3 (by omega); have h4 := h 4 (by omega); have h5 := h 5 (by omega)
  unfold cutV; omega
theorem cut_bit {Y : V2} (h : ∀ l, l < 6 → Y 514 l = 0 ∨ Y 514 l = 1) {l : Nat} (hl : l < 6) : jand (jshr (cutV Y) l) 1 = Y 514 l := by
  have hb := cut_bd h
  obtain ⟨c, hc⟩ := Int.eq_ofNat_of_zero_le hb.1
  have := hasC ⟨c, by omega⟩ ⟨l, hl⟩
  rw [hc]
  rw [show ((⟨c, by omega⟩ : Fin 64).val : Int) = (c : Int) from rfl, show ((⟨l, hl⟩ : Fin 6).val : Int) = (l : Int) from rfl] at this
  rw [this]
  have h0 := h 0 (by omega); have h1 := h 1 (by omega); have h2 := h 2 (by omega); have h3 := h 3 (by omega); have h4 := h 4 (by omega); have h5 := h 5 (by omega)
  unfold cutV at hc
  have : l = 0 ∨ l = 1 ∨ l = 2 ∨ l = 3 ∨ l = 4 ∨ l = 5 := by omega
  rcases this with rfl | rfl | rfl | rfl | rfl | rfl <;> simp only [Nat.reducePow] <;> omega
theorem m201 {C Y : V2} {t : S2} {l : Nat} (hY : YB C Y) (hR : YR C Y t) (hl : l < 6) : f201 l t = some (Y 514 l) := by
  unfold f201 f202
  rw [ld_t (by omega) (by omega)]
  show cP (if ¬ jand (jshr (t 1537 0 6) l) 1 = 1 then _ else _) _ = _
  rw [hR.2.1, cut_bit hY.2.2.1 hl]
  rcases hY.2.2.1 l hl with h | h <;> rw [h] <;> rfl
