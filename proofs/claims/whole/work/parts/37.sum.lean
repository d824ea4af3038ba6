/-- the signs of a law as they lie in its row -/
def hasL (s : S2) (r : Nat) (code : List Int) : Prop := s 769 r 0 = code.length ∧ code.length ≤ 400 ∧ ∀ k, k < code.length → s 768 r k = code.getD k 0 ∧ -1000 ≤ code.getD k 0 ∧ code.getD k 0 < 100000
theorem hasL.fr {s s' : S2} {r : Nat} {code : List Int} (h : hasL s r code) (h1 : s' 769 r = s 769 r) (h2 : s' 768 r = s 768 r) : hasL s' r code := by
  unfold hasL
  rw [h1, h2]
  exact h
theorem drop_cons {l : List Int} {i : Nat} (h : i < l.length) : l.drop i = l.getD i 0 :: l.drop (i + 1) := by
  rw [List.drop_eq_getElem_cons h]
  congr 1
  simp [List.getD, h]
/-- where a law's row is as far as sign i: its stack st, of the kinds t -/
def LI (r : Nat) (s z : S2) (v : Int → Int) (code : List Int) (T : Int) (i : Nat) : Prop := Fr (pQ r) s z ∧ ∃ (st : List Int) (t : List Bool), stkA (z 770 r) st ∧ z 771 r 0 = st.length ∧ tyOK st t ∧ t.length ≤ 60 ∧ wfc (code.drop i) t ∧ runL v (code.drop i) st = T
theorem stkA_set {a b : Nat → Int} {st : List Int} {x : Int} (h : stkA a st) (hb : ∀ j, j < st.length → b j = a j) (hx : b st.length = x) : stkA b (x :: st) := ⟨hx, h.congr fun j hj => (hb j hj).symm⟩
theorem m82_num {r i : Nat} {y f l : Int} {s z : S2} {v : Int → Int} {code : List Int} {T op : Int} (hz : z 769 r 0 = code.length) (hc : code.length ≤ 400) (hi : i < code.length) (ho : z 768 r i = op) (hd : code.drop i = op :: code.drop (i + 1)) (h0 : 0 ≤ op) (h1 : op < 100000) (hI : LI r s z v code T i) : ∃ z', f82_a r f l i z = some (.inl (((i + 1 : Nat) : Int), z')) ∧ LI r s z' v code T (i + 1) := by
  obtain ⟨hF, st, t, k1, k2, k3, k4, k5, k6⟩ := hI
  have kl := k3.len
  have hp := m83 (r := r) (x := op) (s := z) (n := st.length) k2 (by omega)
  refine ⟨_, ?_, (hF.st (f := 770) (i := r) (k := st.length) (v := op) (by simp [pQ])).st (f := 771) (i := r) (k := 0) (v := ((st.length + 1 : Nat) : Int)) (by simp [pQ]), op :: st, false :: t, ?_, ?_, ?_, ?_, ?_, ?_⟩
  · unfold f82_a
    have : ji2l op = op := ji2l_e (by omega) (by omega)
    simp (disch := omega) only [hz, ho, this, hp, and_self, and_true, true_and, not_true_eq_false, not_false_eq_true, reduceIte, bnd, jn, se, cP_s, cR_s, if_pos, if_neg, gd_t, ld_t, ldr_t, sto_t, jadd_e, jsub_e, Int.toNat_natCast]
    rfl
  · refine stkA_set k1 (fun j hj => ?_) ?_ <;> simp only [st2_d] <;> simp <;> omega
  · simp [st2_d]
  · exact ⟨fun q => Bool.noConfusion q, k3⟩
  · rw [hd] at k5
    unfold wfc at k5
    rw [if_neg (by omega), if_neg (by omega)] at k5
    obtain ⟨t', e, e2, -⟩ := k5
    unfold ty1 at e
    rw [if_pos (by omega)] at e
    cases e
    exact e2
  · rw [hd] at k5
    unfold wfc at k5
    rw [if_neg (by omega), if_neg (by omega)] at k5
    obtain ⟨t', e, e2, e3⟩ := k5
    unfold ty1 at e
    rw [if_pos (by omega)] at e
    cases e
    exact e3
  · rw [hd] at k6
    unfold runL at k6
    rw [if_neg (by omega), if_neg (by omega)] at k6
    unfold opS at k6
    rw [if_pos h0] at k6
    exact k6
theorem m82_word {r i : Nat} {f l : Nat} {s z : S2} {c : Nat} {C Y : V2} {rain : Int} {code : List Int} {T op : Int} (hz : z 769 r 0 = code.length) (hc : code.length ≤ 400) (hi : i < code.length) (ho : z 768 r i = op) (hd : code.drop i = op :: code.drop (i + 1)) (h0 : -268 ≤ op) (h1 : op ≤ -256) (hR : Rd z c C Y rain) (hC : CB C) (hY : YB C Y) (hf : f < 4) (hl : l < 6) (hI : LI r s z (vls C Y rain f l) code T i) : ∃ z', f82_a r f l i z = some (.inl (((i + 1 : Nat) : Int), z')) ∧ LI r s z' (vls C Y rain f l) code T (i + 1) := by
  obtain ⟨hF, st, t, k1, k2, k3, k4, k5, k6⟩ := hI
  have kl := k3.len
  have en : jneg op = -op := jneg_e (by omega) (by omega)
  have hp := m83 (r := r) (x := vls C Y rain f l (-op)) (s := z) (n := st.length) k2 (by omega)
  have hv := m84 (w := -op) hR hC hY hf hl
  refine ⟨_, ?_, (hF.st (f := 770) (i := r) (k := st.length) (v := vls C Y rain f l (-op)) (by simp [pQ])).st (f := 771) (i := r) (k := 0) (v := ((st.length + 1 : Nat) : Int)) (by simp [pQ]), vls C Y rain f l (-op) :: st, false :: t, ?_, ?_, ?_, ?_, ?_, ?_⟩
  · unfold f82_a
    simp (disch := omega) only [hz, ho, en, hp, hv, and_self, and_true, true_and, not_true_eq_false, not_false_eq_true, reduceIte, bnd, jn, se, cP_s, cR_s, if_pos, if_neg, gd_t, ld_t, ldr_t, sto_t, jadd_e, jsub_e, Int.toNat_natCast]
    rfl
  · refine stkA_set k1 (fun j hj => ?_) ?_ <;> simp only [st2_d] <;> simp <;> omega
  · simp [st2_d]
  · exact ⟨fun q => Bool.noConfusion q, k3⟩
  · rw [hd] at k5
    unfold wfc at k5
    rw [if_neg (by omega), if_neg (by omega)] at k5
    obtain ⟨t', e, e2, -⟩ := k5
    unfold ty1 at e
    rw [if_pos (by omega)] at e
    cases e
    exact e2
  · rw [hd] at k5
    unfold wfc at k5
    rw [if_neg (by omega), if_neg (by omega)] at k5
    obtain ⟨t', e, e2, e3⟩ := k5
    unfold ty1 at e
    rw [if_pos (by omega)] at e
    cases e
    exact e3
  · rw [hd] at k6
    unfold runL at k6
    rw [if_neg (by omega), if_neg (by omega)] at k6
    unfold opS at k6
    rw [if_neg (by omega), if_pos (by omega)] at k6
    exact k6
theorem m82_not {r i : Nat} {f l : Int} {s z : S2} {v : Int → Int} {code : List Int} {T op : Int} (hz : z 769 r 0 = code.length) (hc : code.length ≤ 400) (hi : i < code.length) (ho : z 768 r i = op) (hd : code.drop i = op :: code.drop (i + 1)) (h0 : op = -273) (hI : LI r s z v code T i) : ∃ z', f82_a r f l i z = some (.inl (((i + 1 : Nat) : Int), z')) ∧ LI r s z' v code T (i + 1) := by
  obtain ⟨hF, st, t, k1, k2, k3, k4, k5, k6⟩ := hI
  have kl := k3.len
  subst h0
  rw [hd] at k5 k6
  unfold wfc at k5
  rw [if_neg (by omega), if_neg (by omega)] at k5
  obtain ⟨t', e, e2, e3⟩ := k5
  unfold ty1 at e
  rw [if_neg (by omega), if_pos rfl] at e
  unfold runL at k6
  rw [if_neg (by omega), if_neg (by omega)] at k6
  unfold opS at k6
  rw [if_neg (by omega), if_neg (by omega), if_pos rfl] at k6
  split at e
  · cases e
    match st, k1, k2, k3, k6, kl with
    | x :: st, k1, k2, k3, k6, kl =>
      have hp := m85 (r := r) (s := z) (n := st.length) k2 (by simp at kl; simp at k4; omega)
      refine ⟨_, ?_, hF.st (f := 770) (i := r) (k := st.length) (v := if z 770 r st.length = 0 then 1 else 0) (by simp [pQ]), (if x = 0 then 1 else 0) :: st, _, ?_, ?_, ?_, k4, e3, k6⟩
      · unfold f82_a
        simp (disch := omega) only [hz, ho, hp, and_self, and_true, true_and, not_true_eq_false, not_false_eq_true, reduceIte, bnd, jn, se, cP_s, cR_s, if_pos, if_neg, gd_t, ld_t, ldr_t, sto_t, jadd_e, jsub_e, Int.toNat_natCast]
        rfl
      · refine stkA_set k1.2 (fun j hj => ?_) ?_
        · simp only [st2_d]; simp; omega
        · simp only [st2_d, k1.1]; simp
      · rw [st2_ne (by omega)]; exact k2
      · exact ⟨fun _ => by by_cases hx : x = 0 <;> simp [hx], k3.2⟩
  · cases e
theorem m82_bin {r i : Nat} {f l : Int} {s z : S2} {v : Int → Int} {code : List Int} {T op : Int} (hz : z 769 r 0 = code.length) (hc : code.length ≤ 400) (hi : i < code.length) (ho : z 768 r i = op) (hd : code.drop i = op :: code.drop (i + 1)) (h0 : op < 0) (h1 : ¬ (-268 ≤ op ∧ op ≤ -256)) (h2 : op ≠ -273) (h3 : op ≠ -59) (h4 : op ≠ -270) (h5 : -1000 ≤ op) (hI : LI r s z v code T i) : ∃ z', f82_a r f l i z = some (.inl (((i + 1 : Nat) : Int), z')) ∧ LI r s z' v code T (i + 1) := by
  obtain ⟨hF, st, t, k1, k2, k3, k4, k5, k6⟩ := hI
  have kl := k3.len
  have en : jneg op = -op := jneg_e (by omega) (by omega)
  rw [hd] at k5 k6
  unfold wfc at k5
  rw [if_neg (by omega), if_neg (by omega)] at k5
  obtain ⟨t', e, e2, e3⟩ := k5
  have hty := tyOK_step (v := v) k3 e
  unfold runL at k6
  rw [if_neg (by omega), if_neg (by omega)] at k6
  unfold opS at k6 hty
  rw [if_neg (by omega), if_neg (by omega), if_neg (by omega)] at k6 hty
  have h2l : 2 ≤ t.length := by
    unfold ty1 at e
    rw [if_neg (by omega), if_neg (by omega)] at e
    split at e
    · split at e
      · simp
      · cases e
    · split at e
      · split at e
        · simp
        · cases e
      · split at e
        · split at e
          · simp
          · cases e
        · cases e
  obtain ⟨b, a, q, rfl⟩ : ∃ b a q, st = b :: a :: q := by
    match st, kl with
    | [], kl => simp at kl; omega
    | [_], kl => simp at kl; omega
    | b :: a :: q, _ => exact ⟨b, a, q, rfl⟩
  simp only [List.length_cons] at k2 kl
  obtain ⟨kb, ka, kq⟩ := k1
  simp only [List.length_cons] at kb
  refine ⟨st2 (st2 z 771 r 0 ((q.length + 1 : Nat) : Int)) 770 r q.length (joS (-op) a b), ?_, (hF.st (by simp [pQ])).st (by simp [pQ]), joS (-op) a b :: q, t', ?_, ?_, hty, e2, e3, k6⟩
  · have e1 : jsub ((q.length + 1 + 1 : Nat) : Int) 1 = ((q.length + 1 : Nat) : Int) := by rw [jsub_e (by omega) (by omega)]; omega
    have e4 : jsub ((q.length + 1 : Nat) : Int) 1 = (q.length : Int) := by rw [jsub_e (by omega) (by omega)]; omega
    have e5 : jadd (i : Int) 1 = ((i + 1 : Nat) : Int) := by rw [jadd_e (by omega) (by omega)]; rfl
    unfold f82_a
    rw [bnd, hz, if_neg (by omega), if_neg (by omega), ld_t (by omega) (by omega), Int.toNat_natCast, ho, if_pos h0]
    refine jn_P (P := fun (e : Option ((Int × S2) ⊕ (S2 ⊕ S2))) => e = some (.inl (((i + 1 : Nat) : Int), st2 (st2 z 771 r 0 ((q.length + 1 : Nat) : Int)) 770 r q.length (joS (-op) a b)))) (fun (j : Unit → Option ((Int × S2) ⊕ (S2 ⊕ S2))) => j () = some (.inl (((i + 1 : Nat) : Int), st2 (st2 z 771 r 0 ((q.length + 1 : Nat) : Int)) 770 r q.length (joS (-op) a b)))) ?_ ?_
    · rw [if_pos h2, if_neg h3]
      refine jn_P (P := fun (e : Option ((Int × S2) ⊕ (S2 ⊕ S2))) => e = some (.inl (((i + 1 : Nat) : Int), st2 (st2 z 771 r 0 ((q.length + 1 : Nat) : Int)) 770 r q.length (joS (-op) a b)))) (fun (j : Unit → Option ((Int × S2) ⊕ (S2 ⊕ S2))) => j () = some (.inl (((i + 1 : Nat) : Int), st2 (st2 z 771 r 0 ((q.length + 1 : Nat) : Int)) 770 r q.length (joS (-op) a b)))) ?_ ?_
      · have g1 : st2 z 771 r 0 ((q.length + 1 : Nat) : Int) 771 r 0 = ((q.length + 1 : Nat) : Int) := st2_eq
        have g2 : st2 z 771 r 0 ((q.length + 1 : Nat) : Int) 770 r = z 770 r := st2_row (by omega)
        rw [if_pos h4, bnd, k2, if_neg (by omega), bnd, if_neg (by omega), bnd, e1, bnd, bnd, g1, bnd, e4, ld_t (by omega) (by omega), bnd, ld_t (by omega) (by omega), g2, Int.toNat_natCast, Int.toNat_natCast, ka, kb, en, m86, cP_s, sto_t (by omega) (by omega), bnd, e5, Int.toNat_natCast]
      · intro j hj
        rw [if_pos h4]
        exact hj
    · intro j hj
      by_cases hw : op < -268
      · rw [if_pos hw]; exact hj
      · rw [if_neg hw, if_pos (by omega)]; exact hj
  · refine stkA_set kq (fun j hj => ?_) ?_
    · simp only [st2_d]; simp; omega
    · simp [st2_d]
  · rw [st2_ne (by omega), st2_eq]; simp
theorem m82_if {r i : Nat} {f l : Int} {s z : S2} {v : Int → Int} {code : List Int} {T : Int} (hz : z 769 r 0 = code.length) (hc : code.length ≤ 400) (hi : i < code.length) (ho : z 768 r i = -270) (hd : code.drop i = -270 :: code.drop (i + 1)) (hI : LI r s z v code T i) : (∃ z', f82_a r f l i z = some (.inl (((i + 1 : Nat) : Int), z')) ∧ LI r s z' v code T (i + 1)) ∨ (f82_a r f l i z = some (.inr (.inl z)) ∧ Fr (pQ r) s z ∧ z 770 r 0 = T) := by
  obtain ⟨hF, st, t, k1, k2, k3, k4, k5, k6⟩ := hI
  have kl := k3.len
  rw [hd] at k5 k6
  unfold wfc at k5
  rw [if_neg (by omega), if_pos rfl] at k5
  obtain ⟨rfl, k5⟩ := k5
  obtain ⟨b, a, rfl⟩ : ∃ b a, st = [b, a] := by
    match st, kl with
    | [b, a], _ => exact ⟨b, a, rfl⟩
  unfold runL at k6
  rw [if_neg (by omega), if_pos rfl] at k6
  simp only at k6
  obtain ⟨kb, ka, -⟩ := k1
  have kb : z 770 r 1 = b := kb
  have ka : z 770 r 0 = a := ka
  have e5 : jadd (i : Int) 1 = ((i + 1 : Nat) : Int) := by rw [jadd_e (by omega) (by omega)]; rfl
  by_cases hb : b = 0
  · left
    rw [if_pos hb] at k6
    refine ⟨st2 z 771 r 0 0, ?_, hF.st (by simp [pQ]), [], [], trivial, st2_eq, trivial, by simp, k5, k6⟩
    unfold f82_a
    rw [bnd, hz, if_neg (by omega), if_neg (by omega), ld_t (by omega) (by omega), Int.toNat_natCast, ho, if_pos (by omega)]
    simp (disch := omega) [jn, ld_t, jcmp_eq, kb, hb, bnd, e5]
  · right
    rw [if_neg hb] at k6
    refine ⟨?_, hF, by rw [ka, k6]⟩
    unfold f82_a
    rw [bnd, hz, if_neg (by omega), if_neg (by omega), ld_t (by omega) (by omega), Int.toNat_natCast, ho, if_pos (by omega)]
    simp (disch := omega) [jn, ld_t, jcmp_eq, kb, hb]
theorem m82_semi {r i : Nat} {f l : Int} {s z : S2} {v : Int → Int} {code : List Int} {T : Int} (hz : z 769 r 0 = code.length) (hc : code.length ≤ 400) (hi : i < code.length) (ho : z 768 r i = -59) (hd : code.drop i = -59 :: code.drop (i + 1)) (hI : LI r s z v code T i) : f82_a r f l i z = some (.inr (.inl z)) ∧ Fr (pQ r) s z ∧ z 770 r 0 = T := by
  obtain ⟨hF, st, t, k1, k2, k3, k4, k5, k6⟩ := hI
  have kl := k3.len
  rw [hd] at k5 k6
  unfold wfc at k5
  rw [if_pos rfl] at k5
  subst k5
  obtain ⟨a, rfl⟩ : ∃ a, st = [a] := by
    match st, kl with
    | [a], _ => exact ⟨a, rfl⟩
  unfold runL at k6
  rw [if_pos rfl] at k6
  refine ⟨?_, hF, by rw [← k6]; exact k1.1⟩
  unfold f82_a
  rw [bnd, hz, if_neg (by omega), if_neg (by omega), ld_t (by omega) (by omega), Int.toNat_natCast, ho, if_pos (by omega)]
  simp [jn]
theorem m82 {r : Nat} {f l : Nat} {s : S2} {c : Nat} {C Y : V2} {rain : Int} {code : List Int} (hL : hasL s r code) (hw : wfc code []) (hR : Rd s c C Y rain) (hC : CB C) (hY : YB C Y) (hf : f < 4) (hl : l < 6) : ∃ s', f82 r f l s = some (runL (vls C Y rain f l) code [], s') ∧ Fr (pQ r) s s' := by
  unfold f82
  rw [bnd]
  refine inv_cP (a := (0, st2 s 771 r 0 0)) (P := fun e => ∃ s', e = some (runL (vls C Y rain f l) code [], s') ∧ Fr (pQ r) s s') (fun (i : Nat) (z : Int × S2) => z.1 = i ∧ i ≤ code.length ∧ LI r s z.2 (vls C Y rain f l) code (runL (vls C Y rain f l) code []) i) (fun (z : S2 ⊕ S2) => match z with
    | .inl z => Fr (pQ r) s z ∧ z 770 r 0 = runL (vls C Y rain f l) code []
    | .inr z => Fr (pQ r) s z ∧ runL (vls C Y rain f l) code [] = 0) 400 (by decide) ⟨rfl, Nat.zero_le _, Fr.rf.st (by simp [pQ]), [], [], trivial, st2_eq, trivial, by simp, hw, rfl⟩ ?_ ?_
  · rintro i ⟨x, z⟩ hi ⟨rfl, hi2, hI⟩
    dsimp only at hI ⊢
    have hF := hI.1
    have hR' := hR.fr hF
    have hL' : hasL z r code := hL.fr (hF 769 r (pQ_f.mpr (by omega))) (hF 768 r (pQ_f.mpr (by omega)))
    obtain ⟨l1, l2, l3⟩ := hL'
    by_cases e : i = code.length
    · refine Or.inr ⟨.inr z, ?_, hF, ?_⟩
      · show f82_a r f l i z = _
        unfold f82_a
        rw [bnd, l1, if_pos (by omega)]
      · obtain ⟨-, st, t, -, -, -, -, -, k6⟩ := hI
        rw [e, List.drop_length] at k6
        exact k6.symm
    · have hi3 : i < code.length := by omega
      obtain ⟨ho, b1, b2⟩ := l3 i hi3
      have hd := drop_cons hi3
      generalize code.getD i 0 = op at ho b1 b2 hd
      by_cases h0 : 0 ≤ op
      · obtain ⟨z', q1, q2⟩ := m82_num (f := f) (l := l) (y := 0) l1 l2 hi3 ho hd h0 b2 hI
        exact Or.inl ⟨by omega, (((i + 1 : Nat) : Int), z'), q1, rfl, by omega, q2⟩
      · by_cases h1 : -268 ≤ op ∧ op ≤ -256
        · obtain ⟨z', q1, q2⟩ := m82_word l1 l2 hi3 ho hd h1.1 h1.2 hR' hC hY hf hl hI
          exact Or.inl ⟨by omega, (((i + 1 : Nat) : Int), z'), q1, rfl, by omega, q2⟩
        · by_cases h2 : op = -273
          · obtain ⟨z', q1, q2⟩ := m82_not (f := f) (l := l) l1 l2 hi3 ho hd h2 hI
            exact Or.inl ⟨by omega, (((i + 1 : Nat) : Int), z'), q1, rfl, by omega, q2⟩
          · by_cases h3 : op = -59
            · subst h3
              obtain ⟨q1, q2, q3⟩ := m82_semi (f := f) (l := l) l1 l2 hi3 ho hd hI
              exact Or.inr ⟨.inl z, q1, q2, q3⟩
            · by_cases h4 : op = -270
              · subst h4
                rcases m82_if (f := f) (l := l) l1 l2 hi3 ho hd hI with ⟨z', q1, q2⟩ | ⟨q1, q2, q3⟩
                · exact Or.inl ⟨by omega, (((i + 1 : Nat) : Int), z'), q1, rfl, by omega, q2⟩
                · exact Or.inr ⟨.inl z, q1, q2, q3⟩
              · obtain ⟨z', q1, q2⟩ := m82_bin (f := f) (l := l) l1 l2 hi3 ho hd (by omega) h1 h2 h3 h4 b1 hI
                exact Or.inl ⟨by omega, (((i + 1 : Nat) : Int), z'), q1, rfl, by omega, q2⟩
  · rintro (z | z) ⟨h1, h2⟩
    · refine ⟨z, ?_, h1⟩
      show (ld z 770 r 64 0 fun v35 => some (v35, z)) = _
      rw [ld_t (by omega) (by omega)]
      show some (z 770 r 0, z) = _
      rw [h2]
    · refine ⟨z, ?_, h1⟩
      show some (0, z) = _
      rw [h2]
