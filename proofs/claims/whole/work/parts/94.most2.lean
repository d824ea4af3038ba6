/-! MOST: all rows tried -/
theorem AK.back2 {t z z2 : S2} (h : AK t z) (e : Fr pAk z z2) (h6 : z2 1606 0 = z 1606 0) (h9 : z2 1589 0 0 = t 1589 0 0) : ∃ z3, f237 z2 = some z3 ∧ AK t z3 ∧ Fr pJ z2 z3 := by
  have hK : Kp t z2 := by
    have := h.2
    unfold Kp at this ⊢
    rw [h6]
    exact this
  obtain ⟨z3, c1, c2, c3⟩ := m237 hK
  refine ⟨z3, c1, ⟨⟨(h.1.1.tr e).tr (c3.mo fun f i q => pJ_k q), c2, ?_, fun k hk => ?_⟩, hK.fr c3 (pJ_f.mpr (by omega))⟩, c3⟩
  · rw [c3 1589 0 (pJ_f.mpr (by omega)), h9]
  · rw [c3 1606 0 (pJ_f.mpr (by omega)), h6, h.1.2.2.2 k hk]
def pF1 (g f i : Nat) : Bool := Nat.beq f g && Nat.beq i 0
theorem pF1_f {g f i : Nat} : pF1 g f i = false ↔ ¬ (f = g ∧ i = 0) := by
  unfold pF1
  rw [← Bool.not_eq_true, Bool.and_eq_true, Nat.beq_eq, Nat.beq_eq]
theorem pF1_t {g : Nat} : pF1 g g 0 = true := by
  unfold pF1
  rw [Nat.beq_refl]; rfl
def rst (B code : Int) : Nat → Int
  | 0 => code
  | t + 1 => rst B code t / B
theorem rst_bd {B code : Int} (hB : 0 < B) (hc : 0 ≤ code ∧ code ≤ 3000) : ∀ {t : Nat}, 0 ≤ rst B code t ∧ rst B code t ≤ 3000
  | 0 => hc
  | t + 1 => by
    have ih := rst_bd hB hc (t := t)
    have h1 : 0 ≤ rst B code t / B := Int.ediv_nonneg ih.1 (by omega)
    have h2 : rst B code t / B ≤ rst B code t := Int.ediv_le_self _ ih.1
    show 0 ≤ rst B code t / B ∧ rst B code t / B ≤ 3000
    omega
def rwF (B code : Int) (c j : Nat) : Int := rst B code (c - 1 - j) % B - 1
theorem rwF_bd {B code : Int} {c j : Nat} (hB : 0 < B) : -1 ≤ rwF B code c j ∧ rwF B code c j < B - 1 := by
  unfold rwF
  have h1 := Int.emod_nonneg (rst B code (c - 1 - j)) (show B ≠ 0 by omega)
  have h2 := Int.emod_lt_of_pos (rst B code (c - 1 - j)) hB
  omega
theorem rwF_0 {B : Int} {c j : Nat} : rwF B 0 c j = -1 := by
  have : ∀ t, rst B 0 t = 0 := fun t => by
    induction t with
    | zero => rfl
    | succ t ih =>
      show rst B 0 t / B = 0
      rw [ih]; exact Int.zero_ediv B
  unfold rwF
  rw [this, Int.zero_emod]
  rfl
theorem m113 {s : S2} {B code : Int} {c : Nat} (hc : s 1286 0 0 = c) (h4 : c ≤ 4) (hB : 1 ≤ B ∧ B ≤ 7) (hcode : 0 ≤ code ∧ code ≤ 3000) : ∃ s', f113 code B s = some s' ∧ (∀ j, j < c → s' 1284 0 j = rwF B code c j) ∧ Fr (pF1 1284) s s' := by
  have em : jmin (c : Int) 4 = (c : Int) := by
    unfold jmin
    split <;> omega
  unfold f113
  rw [bnd, hc, em, bnd, jsub_e (by omega) (by omega)]
  refine inv_cP (a := (code, (c : Int) - 1, s)) (P := fun e => ∃ s', e = some s' ∧ (∀ j, j < c → s' 1284 0 j = rwF B code c j) ∧ Fr (pF1 1284) s s') (fun (t : Nat) (z : Int × Int × S2) => z.1 = rst B code t ∧ z.2.1 = (c : Int) - 1 - t ∧ (∀ j, j < c → c ≤ j + t → z.2.2 1284 0 j = rwF B code c j) ∧ Fr (pF1 1284) s z.2.2) (fun (z : S2) => (∀ j, j < c → z 1284 0 j = rwF B code c j) ∧ Fr (pF1 1284) s z) c (by omega) ⟨rfl, by dsimp only; omega, fun j hj hj2 => by omega, Fr.rf⟩ ?_ ?_
  · rintro t ⟨x, y, z⟩ ht ⟨g1, g2, g3, g4⟩
    dsimp only at g1 g2 g3 g4 ⊢
    have hr := rst_bd (B := B) (code := code) (by omega) hcode (t := t)
    by_cases e : t = c
    · refine Or.inr ⟨z, ?_, fun j hj => g3 j hj (by omega), g4⟩
      show f113_a B x y z = _
      unfold f113_a
      rw [if_pos (by omega)]
    · obtain ⟨j0, hj0⟩ : ∃ j0, j0 + t + 1 = c := ⟨c - 1 - t, by omega⟩
      have hy : y = (j0 : Int) := by omega
      subst g1 hy
      have hre := Int.emod_nonneg (rst B code t) (show B ≠ 0 by omega)
      have hre2 := Int.emod_lt_of_pos (rst B code t) (show 0 < B by omega)
      have hrw : rst B code t % B - 1 = rwF B code c j0 := by
        unfold rwF
        rw [show c - 1 - j0 = t by omega]
      refine Or.inl ⟨by omega, (rst B code (t + 1), (c : Int) - 1 - ((t + 1 : Nat) : Int), st2 z 1284 0 j0 (rwF B code c j0)), ?_, rfl, rfl, fun j hj hj2 => ?_, g4.st pF1_t⟩
      · show f113_a B _ _ z = _
        unfold f113_a
        rw [if_neg (by omega), if_neg (by omega), gd_t (by omega), jrem_e (by omega) (by omega) (by omega) (by omega), jsub_e (by omega) (by omega), hrw, sto_t (by omega) (by omega), Int.toNat_natCast, gd_t (by omega), jdiv_e (by omega) (by omega) (by omega) (by omega), bnd, bnd, jadd_e (by omega) (by omega), show (j0 : Int) + -1 = (c : Int) - 1 - ((t + 1 : Nat) : Int) by omega]
        rfl
      · show st2 z 1284 0 j0 _ 1284 0 j = _
        by_cases q : j = j0
        · subst q; rw [st2_eq]
        · rw [st2_ne (by omega)]
          exact g3 j hj (by omega)
  · rintro z ⟨g1, g2⟩
    exact ⟨z, rfl, g1, g2⟩
theorem m241a {t : S2} {code : Int} {c L : Nat} (h4 : c ≤ 4) (hL : t 1537 0 3 = L) (hL6 : L ≤ 6) (hcode : 0 ≤ code ∧ code ≤ 3000) : ∃ t', itr (fun (x3, x4, s5) => f241_a x3 x4 s5) am_fu (code, (c : Int) - 1, t) = some t' ∧ (∀ j, j < c → t' 1597 0 j = rwF ((L : Int) + 1) code c j) ∧ Fr (pF1 1597) t t' := by
  refine itr_inv (fun (i : Nat) (z : Int × Int × S2) => z.1 = rst ((L : Int) + 1) code i ∧ z.2.1 = (c : Int) - 1 - i ∧ (∀ j, j < c → c ≤ j + i → z.2.2 1597 0 j = rwF ((L : Int) + 1) code c j) ∧ Fr (pF1 1597) t z.2.2) (fun (z : S2) => (∀ j, j < c → z 1597 0 j = rwF ((L : Int) + 1) code c j) ∧ Fr (pF1 1597) t z) c ?_ am_fu (fu_lt (by omega)) (code, (c : Int) - 1, t) ⟨rfl, by dsimp only; omega, fun j hj hj2 => by omega, Fr.rf⟩
  rintro i ⟨x, y, z⟩ ht ⟨g1, g2, g3, g4⟩
  dsimp only at g1 g2 g3 g4 ⊢
  have hr := rst_bd (B := (L : Int) + 1) (code := code) (by omega) hcode (t := i)
  by_cases e : i = c
  · refine Or.inr ⟨z, ?_, fun j hj => g3 j hj (by omega), g4⟩
    show f241_a x y z = _
    unfold f241_a
    rw [if_pos (by omega)]
  · obtain ⟨j0, hj0⟩ : ∃ j0, j0 + i + 1 = c := ⟨c - 1 - i, by omega⟩
    have hy : y = (j0 : Int) := by omega
    subst g1 hy
    have hre := Int.emod_nonneg (rst ((L : Int) + 1) code i) (show (L : Int) + 1 ≠ 0 by omega)
    have hre2 := Int.emod_lt_of_pos (rst ((L : Int) + 1) code i) (show 0 < (L : Int) + 1 by omega)
    have hrw : rst ((L : Int) + 1) code i % ((L : Int) + 1) - 1 = rwF ((L : Int) + 1) code c j0 := by
      unfold rwF
      rw [show c - 1 - j0 = i by omega]
    have q3 : z 1537 0 3 = L := by rw [g4 _ _ (pF1_f.mpr (by omega))]; exact hL
    have q4 : st2 z 1597 0 j0 (rwF ((L : Int) + 1) code c j0) 1537 0 (Int.toNat 3) = L := by rw [st2_ne (by omega)]; exact q3
    have eB : jadd (L : Int) 1 = (L : Int) + 1 := jadd_e (by omega) (by omega)
    refine Or.inl ⟨by omega, (rst ((L : Int) + 1) code (i + 1), (c : Int) - 1 - ((i + 1 : Nat) : Int), st2 z 1597 0 j0 (rwF ((L : Int) + 1) code c j0)), ?_, rfl, rfl, fun j hj hj2 => ?_, g4.st pF1_t⟩
    · show f241_a _ _ z = _
      unfold f241_a
      rw [if_neg (by omega), ld_t (by omega) (by omega), show z 1537 0 (Int.toNat 3) = L from q3, eB, gd_t (by omega), jrem_e (by omega) (by omega) (by omega) (by omega), jsub_e (by omega) (by omega), hrw, sto_t (by omega) (by omega), Int.toNat_natCast, ld_t (by omega) (by omega), q4, eB, gd_t (by omega), jdiv_e (by omega) (by omega) (by omega) (by omega), bnd, bnd, jadd_e (by omega) (by omega), show (j0 : Int) + -1 = (c : Int) - 1 - ((i + 1 : Nat) : Int) by omega]
      rfl
    · show st2 z 1597 0 j0 _ 1597 0 j = _
      by_cases q : j = j0
      · subst q; rw [st2_eq]
      · rw [st2_ne (by omega)]
        exact g3 j hj (by omega)
def hgStep (C : V2) (p : Nat → Nat) (rw' : Nat → Int) (j : Nat) (r : Bool × V2) : Bool × V2 := if r.1 = true ∧ ¬ rw' j = -1 then (if mayI C r.2 (p j) (rw' j) = 0 then (false, r.2) else (true, putS C r.2 (p j) (rw' j))) else r
def hgS (C : V2) (p : Nat → Nat) (rw' : Nat → Int) (Y : V2) : Nat → Bool × V2
  | 0 => (true, Y)
  | j + 1 => hgStep C p rw' j (hgS C p rw' Y j)
theorem hgS_s {C Y : V2} {p : Nat → Nat} {rw' : Nat → Int} {j : Nat} : hgS C p rw' Y (j + 1) = hgStep C p rw' j (hgS C p rw' Y j) := rfl
theorem hg_0 {C : V2} {p : Nat → Nat} {rw' : Nat → Int} {j : Nat} {r : Bool × V2} (h : rw' j = -1) : hgStep C p rw' j r = r := if_neg (fun q => q.2 h)
theorem hg_f {C : V2} {p : Nat → Nat} {rw' : Nat → Int} {j : Nat} {r : Bool × V2} (h : r.1 = false) : hgStep C p rw' j r = r := if_neg (fun q => by rw [h] at q; cases q.1)
theorem hg_t {C : V2} {p : Nat → Nat} {rw' : Nat → Int} {j : Nat} {r : Bool × V2} (h : r.1 = true) (h2 : ¬ rw' j = -1) : hgStep C p rw' j r = if mayI C r.2 (p j) (rw' j) = 0 then (false, r.2) else (true, putS C r.2 (p j) (rw' j)) := if_pos ⟨h, h2⟩
theorem hgS_YB {C Y : V2} {p : Nat → Nat} {rw' : Nat → Int} (hY : YB C Y) : ∀ {n : Nat}, YB C (hgS C p rw' Y n).2
  | 0 => hY
  | n + 1 => by
    have ih := hgS_YB (p := p) (rw' := rw') hY (n := n)
    rw [hgS_s]
    unfold hgStep
    split
    · split
      · exact ih
      · exact putS_YB ih
    · exact ih
theorem put_512 {C Y : V2} {n l : Int} : putS C Y n l 512 0 = Y 512 0 := by
  unfold putS
  by_cases q : mayH C Y n l
  · rw [if_pos q, so512]
  · rw [if_neg q]
theorem hgS_h {C Y : V2} {p : Nat → Nat} {rw' : Nat → Int} : ∀ {n : Nat}, (hgS C p rw' Y n).2 512 0 = Y 512 0
  | 0 => rfl
  | n + 1 => by
    have ih := hgS_h (C := C) (Y := Y) (p := p) (rw' := rw') (n := n)
    rw [hgS_s]
    unfold hgStep
    split
    · split
      · exact ih
      · show putS C _ _ _ 512 0 = _
        rw [put_512]; exact ih
    · exact ih
theorem hgS_f {C Y : V2} {p : Nat → Nat} {rw' : Nat → Int} {n : Nat} (h : (hgS C p rw' Y n).1 = false) : ∀ {m : Nat}, n ≤ m → (hgS C p rw' Y m).1 = false
  | 0, hm => by
    have : n = 0 := by omega
    subst this; exact h
  | m + 1, hm => by
    by_cases e : n = m + 1
    · subst e; exact h
    · have ih := hgS_f h (m := m) (by omega)
      rw [hgS_s, hg_f ih]
      exact ih
theorem hgS_none {C Y : V2} {p : Nat → Nat} {rw' : Nat → Int} (h : ∀ j, rw' j = -1) : ∀ {n : Nat}, hgS C p rw' Y n = (true, Y)
  | 0 => rfl
  | n + 1 => by rw [hgS_s, hg_0 (h n)]; exact hgS_none h
theorem hgS_congr {C Y : V2} {p q : Nat → Nat} {r r' : Nat → Int} : ∀ {n : Nat}, (∀ j, j < n → p j = q j ∧ r j = r' j) → hgS C p r Y n = hgS C q r' Y n
  | 0, _ => rfl
  | n + 1, h => by
    have h1 := h n (by omega)
    rw [hgS_s, hgS_s, hgS_congr (n := n) (fun j hj => h j (by omega))]
    unfold hgStep
    rw [h1.1, h1.2]
/-- class: a row hung -/
theorem m114 {s : S2} {r : Nat} {C Y : V2} {code : List Int} {pc : Nat × (Nat → Nat)} {rw' : Nat → Int} (h : Hr s 0 r C code) (hy : yv s 160 = Y) (hp : rowP s 1286 1283 pc) (h4 : pc.1 ≤ 4) (hr : ∀ j, j < pc.1 → s 1284 0 j = rw' j) : ∃ s', f114 s = some (u01 (hgS C pc.2 rw' Y pc.1).1, s') ∧ ((hgS C pc.2 rw' Y pc.1).1 = true → yv s' 160 = (hgS C pc.2 rw' Y pc.1).2) ∧ Fr (pY 160) s s' := by
  have hC := h.2.2.2.2.2
  unfold f114
  refine inv_cP (a := ((0 : Int), s)) (P := fun e => ∃ s', e = some (u01 (hgS C pc.2 rw' Y pc.1).1, s') ∧ ((hgS C pc.2 rw' Y pc.1).1 = true → yv s' 160 = (hgS C pc.2 rw' Y pc.1).2) ∧ Fr (pY 160) s s') (fun (n : Nat) (z : Int × S2) => z.1 = n ∧ (hgS C pc.2 rw' Y n).1 = true ∧ yv z.2 160 = (hgS C pc.2 rw' Y n).2 ∧ Fr (pY 160) s z.2) (fun (z : S2 ⊕ S2) => match z with
    | .inl z => (hgS C pc.2 rw' Y pc.1).1 = false ∧ Fr (pY 160) s z
    | .inr z => (hgS C pc.2 rw' Y pc.1).1 = true ∧ yv z 160 = (hgS C pc.2 rw' Y pc.1).2 ∧ Fr (pY 160) s z) pc.1 (by omega) ⟨rfl, rfl, hy, Fr.rf⟩ ?_ ?_
  · rintro n ⟨x, z⟩ hn ⟨g1, g2, g3, g4⟩
    dsimp only at g1 g2 g3 g4 ⊢
    subst g1
    have q0 : z 1286 0 0 = pc.1 := by rw [g4 _ _ (pY_f.mpr (by omega))]; exact hp.1
    by_cases e : n = pc.1
    · right
      refine ⟨.inr z, ?_, by rw [← e]; exact g2, by rw [← e]; exact g3, g4⟩
      show f114_a n z = _
      unfold f114_a
      rw [bnd, q0, if_pos (by omega)]
    · have hnc : n < pc.1 := by omega
      have hz : Hr z 0 r C code := h.fr g4 (pY_f.mpr (by omega)) (pY_f.mpr (by omega)) (pY_f.mpr (by omega)) (pY_f.mpr (by omega)) (fun f g1 g2 => pY_f.mpr (by omega))
      have q1 : (z 1153 0 0).toNat = 0 := by rw [hz.1]; rfl
      have q2 : cw z 0 = C := hz.2.2.2.2.1
      have q3 : z 1283 0 n = pc.2 n := by rw [g4 _ _ (pY_f.mpr (by omega))]; exact hp.2 n hnc
      have q4 : z 1284 0 n = rw' n := by rw [g4 _ _ (pY_f.mpr (by omega))]; exact hr n hnc
      have ej : jadd (n : Int) 1 = ((n + 1 : Nat) : Int) := by rw [jadd_e (by omega) (by omega)]; rfl
      by_cases hb : rw' n = -1
      · left
        refine ⟨hnc, (((n + 1 : Nat) : Int), z), ?_, rfl, by rw [hgS_s, hg_0 hb]; exact g2, by rw [hgS_s, hg_0 hb]; exact g3, g4⟩
        show f114_a n z = _
        unfold f114_a
        rw [bnd, q0, if_neg (by omega), if_neg (by omega), ld_t (by omega) (by omega), Int.toNat_natCast, q4, if_pos hb, bnd, ej]
      · have e48 : f48 160 0 (pc.2 n) (rw' n) z = some (mayI C (hgS C pc.2 rw' Y n).2 (pc.2 n) (rw' n)) := by
          rw [m48n (by rw [q2]; exact hC), q2, g3]
        by_cases hm : mayI C (hgS C pc.2 rw' Y n).2 (pc.2 n) (rw' n) = 0
        · right
          have hf : (hgS C pc.2 rw' Y (n + 1)).1 = false := by rw [hgS_s, hg_t g2 hb, if_pos hm]
          refine ⟨.inl z, ?_, hgS_f hf (by omega), g4⟩
          show f114_a n z = _
          unfold f114_a
          rw [bnd, q0, if_neg (by omega), if_neg (by omega), ld_t (by omega) (by omega), Int.toNat_natCast, q4, if_neg hb, bnd, q1, ld_t (by omega) (by omega), Int.toNat_natCast, q3, ld_t (by omega) (by omega), Int.toNat_natCast, q4, e48, cP_s, if_neg (fun q => q hm)]
        · left
          obtain ⟨z', k1, k2, k3⟩ := m54 (y := 160) (c := 0) (n := (pc.2 n : Int)) (l := rw' n) (s := z) (by rw [q2]; exact hC)
          rw [q2, g3] at k2
          refine ⟨hnc, (((n + 1 : Nat) : Int), z'), ?_, rfl, by rw [hgS_s, hg_t g2 hb, if_neg hm], by rw [hgS_s, hg_t g2 hb, if_neg hm]; exact k2, g4.tr k3⟩
          show f114_a n z = _
          unfold f114_a
          rw [bnd, q0, if_neg (by omega), if_neg (by omega), ld_t (by omega) (by omega), Int.toNat_natCast, q4, if_neg hb, bnd, q1, ld_t (by omega) (by omega), Int.toNat_natCast, q3, ld_t (by omega) (by omega), Int.toNat_natCast, q4, e48, cP_s, if_pos hm, bnd, ld_t (by omega) (by omega), Int.toNat_natCast, q3, ld_t (by omega) (by omega), Int.toNat_natCast, q4, k1, cP_s, bnd, ej]
  · rintro (z | z)
    · rintro ⟨g1, g2⟩
      refine ⟨z, ?_, fun q => (by rw [g1] at q; cases q), g2⟩
      rw [g1]
      rfl
    · rintro ⟨g1, g2, g3⟩
      refine ⟨z, ?_, fun _ => g2, g3⟩
      rw [g1]
      rfl
/-- model: a row hung -/
theorem m241b {t : S2} {C Y : V2} {code : List Int} {d : Int} {pc : Nat × (Nat → Nat)} {rw' : Nat → Int} (hC : CB C) (hY : YB C Y) (h : MS C Y code d t) (hp : rowP t 1599 1596 pc) (h4 : pc.1 ≤ 4) (hok : ∀ j, j < pc.1 → pc.2 j < 10 ∧ ((pc.2 j : Nat) : Int) < C 389 0) (hr : ∀ j, j < pc.1 → t 1597 0 j = rw' j) (hb : ∀ j, j < pc.1 → -1 ≤ rw' j ∧ rw' j < C 388 0) : ∃ t', cP (itr (fun (x12, s13) => f241_b x12 s13) am_fu (0, t)) (se (fun s25 => some ((0 : Int), s25)) (fun s26 => some (1, s26))) = some (u01 (hgS C pc.2 rw' Y pc.1).1, t') ∧ ((hgS C pc.2 rw' Y pc.1).1 = true → MS C (hgS C pc.2 rw' Y pc.1).2 code d t') ∧ Fr pH t t' := by
  have hcc := hC.1
  refine inv_cP (a := ((0 : Int), t)) (P := fun e => ∃ t', e = some (u01 (hgS C pc.2 rw' Y pc.1).1, t') ∧ ((hgS C pc.2 rw' Y pc.1).1 = true → MS C (hgS C pc.2 rw' Y pc.1).2 code d t') ∧ Fr pH t t') (fun (n : Nat) (z : Int × S2) => z.1 = n ∧ (hgS C pc.2 rw' Y n).1 = true ∧ MS C (hgS C pc.2 rw' Y n).2 code d z.2 ∧ Fr pH t z.2) (fun (z : S2 ⊕ S2) => match z with
    | .inl z => (hgS C pc.2 rw' Y pc.1).1 = false ∧ Fr pH t z
    | .inr z => (hgS C pc.2 rw' Y pc.1).1 = true ∧ MS C (hgS C pc.2 rw' Y pc.1).2 code d z ∧ Fr pH t z) pc.1 (by omega) ⟨rfl, rfl, h, Fr.rf⟩ ?_ ?_
  · rintro n ⟨x, z⟩ hn ⟨g1, g2, g3, g4⟩
    dsimp only at g1 g2 g3 g4 ⊢
    subst g1
    have q0 : z 1599 0 0 = pc.1 := by rw [g4 _ _ (pH_f.mpr (by omega))]; exact hp.1
    by_cases e : n = pc.1
    · right
      refine ⟨.inr z, ?_, by rw [← e]; exact g2, by rw [← e]; exact g3, g4⟩
      show f241_b n z = _
      unfold f241_b
      rw [bnd, q0, if_pos (by omega)]
    · have hnc : n < pc.1 := by omega
      obtain ⟨o1, o2⟩ := hok n hnc
      have o3 := hb n hnc
      have q3 : z 1596 0 n = pc.2 n := by rw [g4 _ _ (pH_f.mpr (by omega))]; exact hp.2 n hnc
      have q4 : z 1597 0 n = rw' n := by rw [g4 _ _ (pH_f.mpr (by omega))]; exact hr n hnc
      have ej : jadd (n : Int) 1 = ((n + 1 : Nat) : Int) := by rw [jadd_e (by omega) (by omega)]; rfl
      by_cases hq : rw' n = -1
      · left
        refine ⟨hnc, (((n + 1 : Nat) : Int), z), ?_, rfl, by rw [hgS_s, hg_0 hq]; exact g2, by rw [hgS_s, hg_0 hq]; exact g3, g4⟩
        show f241_b n z = _
        unfold f241_b
        rw [bnd, q0, if_neg (by omega)]
        simp only [jn]
        rw [ld_t (by omega) (by omega), Int.toNat_natCast, q4, if_pos hq, ld_t (by omega) (by omega), Int.toNat_natCast, q4, if_pos hq, bnd, ej]
      · obtain ⟨l, hl⟩ := Int.eq_ofNat_of_zero_le (show 0 ≤ rw' n by omega)
        have e224 : f224 (pc.2 n) (rw' n) z = some (mayI C (hgS C pc.2 rw' Y n).2 (pc.2 n) (rw' n)) := by
          rw [hl]
          exact m224 hC (hgS_YB hY) g3 o1 o2 (by omega) (by omega)
        by_cases hm : mayI C (hgS C pc.2 rw' Y n).2 (pc.2 n) (rw' n) = 0
        · right
          have hf : (hgS C pc.2 rw' Y (n + 1)).1 = false := by rw [hgS_s, hg_t g2 hq, if_pos hm]
          refine ⟨.inl z, ?_, hgS_f hf (by omega), g4⟩
          show f241_b n z = _
          unfold f241_b
          rw [bnd, q0, if_neg (by omega)]
          simp only [jn]
          rw [ld_t (by omega) (by omega), Int.toNat_natCast, q4, if_neg hq, ld_t (by omega) (by omega), Int.toNat_natCast, q3, ld_t (by omega) (by omega), Int.toNat_natCast, q4, e224, cP_s, if_neg (fun q => q hm)]
        · left
          have hmay := mayI_t hm
          rw [hl] at hmay
          obtain ⟨z', k1, k2, k3⟩ := m225 hC g3 hmay
          rw [← hl] at k1 k2
          refine ⟨hnc, (((n + 1 : Nat) : Int), z'), ?_, rfl, by rw [hgS_s, hg_t g2 hq, if_neg hm], by rw [hgS_s, hg_t g2 hq, if_neg hm]; exact k2, g4.tr k3⟩
          show f241_b n z = _
          unfold f241_b
          rw [bnd, q0, if_neg (by omega)]
          simp only [jn]
          rw [ld_t (by omega) (by omega), Int.toNat_natCast, q4, if_neg hq, ld_t (by omega) (by omega), Int.toNat_natCast, q3, ld_t (by omega) (by omega), Int.toNat_natCast, q4, e224, cP_s, if_pos hm, ld_t (by omega) (by omega), Int.toNat_natCast, q4, if_neg hq, ld_t (by omega) (by omega), Int.toNat_natCast, q3, ld_t (by omega) (by omega), Int.toNat_natCast, q4, k1, cP_s, bnd, ej]
  · rintro (z | z)
    · rintro ⟨g1, g2⟩
      refine ⟨z, ?_, fun q => (by rw [g1] at q; cases q), g2⟩
      rw [g1]
      rfl
    · rintro ⟨g1, g2, g3⟩
      refine ⟨z, ?_, fun _ => g2, g3⟩
      rw [g1]
      rfl
