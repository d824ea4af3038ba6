/-- the signs of a law as they lie in its row -/
def hasL (s : S2) (r : Nat) (code : List Int) : Prop := s 769 r 0 = code.length ∧ code.length ≤ 400 ∧ ∀ k, k < code.length → s 768 r k = code.getD k 0 ∧ -1000 ≤ code.getD k 0 ∧ code.getD k 0 < 100000
theorem hasL.fr {s s' : S2} {r : Nat} {code : List Int} (h : hasL s r code) (h1 : s' 769 r = s 769 r) (h2 : s' 768 r = s 768 r) : hasL s' r code := by
  unfold hasL
  rw [h1, h2]
  exact h
theorem drop_cons {l : List Int} {i : Nat} (h : i < l.length) : l.drop i = l.getD i 0 :: l.drop (i + 1) := by
  rw [List.drop_eq_getElem_cons h]
  congr 1
  simp [List.getD, h]
/-- where a law's row is as far as sign i: its stack st, of the kinds t -/
def LI (r : Nat) (s z : S2) (v : Int → Int) (code : List Int) (T : Int) (i : Nat) : Prop := Fr (pQ r) s z ∧ ∃ (st : List Int) (t : List Bool), stkA (z 770 r) st ∧ z 771 r 0 = st.length ∧ tyOK st t ∧ t.length ≤ 60 ∧ wfc (code.drop i) t ∧ runL v (code.drop i) st = T
theorem stkA_set {a b : Nat → Int} {st : List Int} {x : Int} (h : stkA a st) (hb : ∀ j, j < st.length → b j = a j) (hx : b st.length = x) : stkA b (x :: st) := ⟨hx, h.congr fun j hj => (hb j hj).symm⟩
theorem m82_num {r i : Nat} {y f l : Int} {s z : S2} {v : Int → Int} {code : List Int} {T op : Int} (hz : z 769 r 0 = code.length) (hc : code.length ≤ 400) (hi : i < code.length) (ho : z 768 r i = op) (hd : code.drop i = op :: code.drop (i + 1)) (h0 : 0 ≤ op) (h1 : op < 100000) (hI : LI r s z v code T i) : ∃ z', f82_a r f l i z = some (.inl (((i + 1 : Nat) : Int), z')) ∧ LI r s z' v code T (i + 1) := by
  obtain ⟨hF, st, t, k1, k2, k3, k4, k5, k6⟩ := hI
  have kl := k3.len
  have hp := m83 (r := r) (x := op) (s := z) (n := st.length) k2 (by omega)
  refine ⟨_, ?_, (hF.st (f := 770) (i := r) (k := st.length) (v := op) (by simp [pQ])).st (f := 771) (i := r) (k := 0) (v := ((st.length + 1 : Nat) : Int)) (by simp [pQ]), op :: st, false :: t, ?_, ?_, ?_, ?_, ?_, ?_⟩
  · unfold f82_a
    have : ji2l op = op := ji2l_e (by omega) (by omega)
    simp (disch := omega) only [hz, ho, this, hp, and_self, and_true, true_and, not_true_eq_false, not_false_eq_true, reduceIte, bnd, jn, se, cP_s, cR_s, if_pos, if_neg, gd_t, ld_t, ldr_t, sto_t, jadd_e, jsub_e, Int.toNat_natCast]
    rfl
  · refine stkA_set k1 (fun j hj => ?_) ?_ <;> simp only [st2_d] <;> simp <;> omega
  · simp [st2_d]
  · exact ⟨fun q => Bool.noConfusion q, k3⟩
  · rw [hd] at k5
    unfold wfc at k5
    rw [if_neg (by omega), if_neg (by omega)] at k5
    obtain ⟨t', e, e2, -⟩ := k5
    unfold ty1 at e
    rw [if_pos (by omega)] at e
    cases e
    exact e2
  · rw [hd] at k5
    unfold wfc at k5
    rw [if_neg (by omega), if_neg (by omega)] at k5
    obtain ⟨t', e, e2, e3⟩ := k5
    unfold ty1 at e
    rw [if_pos (by omega)] at e
    cases e
    exact e3
  · rw [hd] at k6
    unfold runL at k6
    rw [if_neg (by omega), if_neg (by omega)] at k6
    unfold opS at k6
    rw [if_pos h0] at k6
    exact k6
theorem m82_word {r i : Nat} {f l : Nat} {s z : S2} {c : Nat} {C Y : V2} {rain : Int} {code : List Int} {T op : Int} (hz : z 769 r 0 = code.length) (hc : code.length ≤ 400) (hi : i < code.length) (ho : z 768 r i = op) (hd : code.drop i = op :: code.drop (i + 1)) (h0 : -268 ≤ op) (h1 : op ≤ -256) (hR : Rd z c C Y rain) (hC : CB C) (hY : YB C Y) (hf : f < 4) (hl : l < 6) (hI : LI r s z (vls C Y rain f l) code T i) : ∃ z', f82_a r f l i z = some (.inl (((i + 1 : Nat) : Int), z')) ∧ LI r s z' (vls C Y rain f l) code T (i + 1) := by
  obtain ⟨hF, st, t, k1, k2, k3, k4, k5, k6⟩ := hI
  have kl := k3.len
  have en : jneg op = -op := jneg_e (by omega) (by omega)
  have hp := m83 (r := r) (x := vls C Y rain f l (-op)) (s := z) (n := st.length) k2 (by omega)
  have hv := m84 (w := -op) hR hC hY hf hl
  refine ⟨_, ?_, (hF.st (f := 770) (i := r) (k := st.length) (v := vls C Y rain f l (-op)) (by simp [pQ])).st (f := 771) (i := r) (k := 0) (v := ((st.length + 1 : Nat) : Int)) (by simp [pQ]), vls C Y rain f l (-op) :: st, false :: t, ?_, ?_, ?_, ?_, ?_, ?_⟩
  · unfold f82_a
    simp (disch := omega) only [hz, ho, en, hp, hv, and_self, and_true, true_and, not_true_eq_false, not_false_eq_true, reduceIte, bnd, jn, se, cP_s, cR_s, if_pos, if_neg, gd_t, ld_t, ldr_t, sto_t, jadd_e, jsub_e, Int.toNat_natCast]
    rfl
  · refine stkA_set k1 (fun j hj => ?_) ?_ <;> simp only [st2_d] <;> simp <;> omega
  · simp [st2_d]
  · exact ⟨fun q => Bool.noConfusion q, k3⟩
  · rw [hd] at k5
    unfold wfc at k5
    rw [if_neg (by omega), if_neg (by omega)] at k5
    obtain ⟨t', e, e2, -⟩ := k5
    unfold ty1 at e
    rw [if_pos (by omega)] at e
    cases e
    exact e2
  · rw [hd] at k5
    unfold wfc at k5
    rw [if_neg (by omega), if_neg (by omega)] at k5
    obtain ⟨t', e, e2, e3⟩ := k5
    unfold ty1 at e
    rw [if_pos (by omega)] at e
    cases e
    exact e3
  · rw [hd] at k6
    unfold runL at k6
    rw [if_neg (by omega), if_neg (by omega)] at k6
    unfold opS at k6
    rw [if_neg (by omega), if_pos (by omega)] at k6
    exact k6
theorem m82_not {r i : Nat} {f l : Int} {s z : S2} {v : Int → Int} {code : List Int} {T op : Int} (hz : z 769 r 0 = code.length) (hc : code.length ≤ 400) (hi : i < code.length) (ho : z 768 r i = op) (hd : code.drop i = op :: code.drop (i + 1)) (h0 : op = -273) (hI : LI r s z v code T i) : ∃ z', f82_a r f l i z = some (.inl (((i + 1 : Nat) : Int), z')) ∧ LI r s z' v code T (i + 1) := by
  obtain ⟨hF, st, t, k1, k2, k3, k4, k5, k6⟩ := hI
  have kl := k3.len
  subst h0
  rw [hd] at k5 k6
  unfold wfc at k5
  rw [if_neg (by omega), if_neg (by omega)] at k5
  obtain ⟨t', e, e2, e3⟩ := k5
  unfold ty1 at e
  rw [if_neg (by omega), if_pos rfl] at e
  unfold runL at k6
  rw [if_neg (by omega), if_neg (by omega)] at k6
  unfold opS at k6
  rw [if_neg (by omega), if_neg (by omega), if_pos rfl] at k6
  split at e
  · cases e
    match st, k1, k2, k3, k6, kl with
    | x :: st, k1, k2, k3, k6, kl =>
      have hp := m85 (r := r) (s := z) (n := st.length) k2 (by simp at kl; simp at k4; omega)
      refine ⟨_, ?_, hF.st (f := 770) (i := r) (k := st.length) (v := if z 770 r st.length = 0 then 1 else 0) (by simp [pQ]), (if x = 0 then 1 else 0) :: st, _, ?_, ?_, ?_, k4, e3, k6⟩
      · unfold f82_a
        simp (disch := omega) only [hz, ho, hp, and_self, and_true, true_and, not_true_eq_false, not_false_eq_true, reduceIte, bnd, jn, se, cP_s, cR_s, if_pos, if_neg, gd_t, ld_t, ldr_t, sto_t, jadd_e, jsub_e, Int.toNat_natCast]
        rfl
      · refine stkA_set k1.2 (fun j hj => ?_) ?_
        · simp only [st2_d]; simp; omega
        · simp only [st2_d, k1.1]; simp
      · rw [st2_ne (by omega)]; exact k2
      · exact ⟨fun _ => by by_cases hx : x = 0 <;> simp [hx], k3.2⟩
  · cases e
theorem m82_bin {r i : Nat} {f l : Int} {s z : S2} {v : Int → Int} {code : List Int} {T op : Int} (hz : z 769 r 0 = code.length) (hc : code.length ≤ 400) (hi : i < code.length) (ho : z 768 r i = op) (hd : code.drop i = op :: code.drop (i + 1)) (h0 : op < 0) (h1 : ¬ (-268 ≤ op ∧ op ≤ -256)) (h2 : op ≠ -273) (h3 : op ≠ -59) (h4 : op ≠ -270) (h5 : -1000 ≤ op) (hI : LI r s z v code T i) : ∃ z', f82_a r f l i z = some (.inl (((i + 1 : Nat) : Int), z')) ∧ LI r s z' v code T (i + 1) := by
  obtain ⟨hF, st, t, k1, k2, k3, k4, k5, k6⟩ := hI
  have kl := k3.len
  have en : jneg op = -op := jneg_e (by omega) (by omega)
  rw [hd] at k5 k6
  unfold wfc at k5
  rw [if_neg (by omega), if_neg (by omega)] at k5
  obtain ⟨t', e, e2, e3⟩ := k5
  have hty := tyOK_step (v := v) k3 e
  unfold runL at k6
  rw [if_neg (by omega), if_neg (by omega)] at k6
  unfold opS at k6 hty
  rw [if_neg (by omega), if_neg (by omega), if_neg (by omega)] at k6 hty
  have h2l : 2 ≤ t.length := by
    unfold ty1 at e
    rw [if_neg (by omega), if_neg (by omega)] at e
    split at e
    · split at e
      · simp
      · cases e
    · split at e
      · split at e
        · simp
        · cases e
      · split at e
        · split at e
          · simp
          · cases e
        · cases e
  obtain ⟨b, a, q, rfl⟩ : ∃ b a q, st = b :: a :: q := by
    match st, kl with
    | [], kl => simp at kl; omega
    | [_], kl => simp at kl; omega
    | b :: a :: q, _ => exact ⟨b, a, q, rfl⟩
  simp only [List.length_cons] at k2 kl
  obtain ⟨kb, ka, kq⟩ := k1
  simp only [List.length_cons] at kb
  refine ⟨st2 (st2 z 771 r 0 ((q.length + 1 : Nat) : Int)) 770 r q.length (joS (-op) a b), ?_, (hF.st (by simp [pQ])).st (by simp [pQ]), joS (-op) a b :: q, t', ?_, ?_, hty, e2, e3, k6⟩
  · have e1 : jsub ((q.length + 1 + 1 : Nat) : Int) 1 = ((q.length + 1 : Nat) : Int) := by rw [jsub_e (by omega) (by omega)]; omega
    have e4 : jsub ((q.length + 1 : Nat) : Int) 1 = (q.length : Int) := by rw [jsub_e (by omega) (by omega)]; omega
    have e5 : jadd (i : Int) 1 = ((i + 1 : Nat) : Int) := by rw [jadd_e (by omega) (by omega)]; rfl
    unfold f82_a
    rw [bnd, hz, if_neg (by omega), if_neg (by omega), ld_t (by omega) (by omega), Int.toNat_natCast, ho, if_pos h0]
    refine jn_P (P := fun e => e = some (.inl (((i + 1 : Nat) : Int), st2 (st2 z 771 r 0 ((q.length + 1 : Nat) : Int)) 770 r q.length (joS (-op) a b)))) (fun (j : Unit → Option ((Int × S2) ⊕ (S2 ⊕ S2))) => j () = some (.inl (((i + 1 : Nat) : Int), st2 (st2 z 771 r 0 ((q.length + 1 : Nat) : Int)) 770 r q.length (joS (-op) a b)))) ?_ ?_
    · rw [if_pos h2, if_neg h3]
      refine jn_P (P := fun e => e = some (.inl (((i + 1 : Nat) : Int), st2 (st2 z 771 r 0 ((q.length + 1 : Nat) : Int)) 770 r q.length (joS (-op) a b)))) (fun (j : Unit → Option ((Int × S2) ⊕ (S2 ⊕ S2))) => j () = some (.inl (((i + 1 : Nat) : Int), st2 (st2 z 771 r 0 ((q.length + 1 : Nat) : Int)) 770 r q.length (joS (-op) a b)))) ?_ ?_
      · have g1 : st2 z 771 r 0 ((q.length + 1 : Nat) : Int) 771 r 0 = ((q.length + 1 : Nat) : Int) := st2_eq
        have g2 : st2 z 771 r 0 ((q.length + 1 : Nat) : Int) 770 r = z 770 r := st2_row (by omega)
        rw [if_pos h4, bnd, k2, if_neg (by omega), bnd, if_neg (by omega), bnd, e1, bnd, bnd, g1, bnd, e4, ld_t (by omega) (by omega), bnd, ld_t (by omega) (by omega), g2, Int.toNat_natCast, Int.toNat_natCast, ka, kb, en, m86, cP_s, sto_t (by omega) (by omega), bnd, e5, Int.toNat_natCast]
      · intro j hj
        rw [if_pos h4]
        exact hj
    · intro j hj
      by_cases hw : op < -268
      · rw [if_pos hw]; exact hj
      · rw [if_neg hw, if_pos (by omega)]; exact hj
  · refine stkA_set kq (fun j hj => ?_) ?_
    · simp only [st2_d]; simp; omega
    · simp [st2_d]
  · rw [st2_ne (by omega), st2_eq]; simp
