def wetS (C : V2) (rain on wet : Int) : Int := if on = -1 then wet else if rain = 0 then (if 0 < wet - C 385 0 then wet - C 385 0 else 0) else (if wet < C 386 0 then C 386 0 else wet)
/-- the yard an hour later, the air got in it -/
def passY (C Y : V2) (rain : Int) (code : List Int) : V2 := nY (fun f k => if f = 512 then Y 512 0 + 1 else if f = 513 then own C Y rain code k else if f = 516 then wetS C rain (Y 515 k) (Y 516 k) else if f = 518 then Y 518 k + sumI 6 (fun l => if own C Y rain code l = k then C 393 l else 0) else Y f k)
def passG (C Y : V2) (rain : Int) (code : List Int) : Int := sumI 6 (fun l => if own C Y rain code l = -1 then 0 else C 393 l)
def rainI (C Y : V2) (d : Int) : Int := if ¬ d = 0 ∨ rainB C (Y 512 0) = true then 1 else 0
def pA (r f i : Nat) : Bool := pQ r f i || (Nat.beq f 1161 && Nat.beq i 0)
theorem pA_f {r f i : Nat} : pA r f i = false ↔ ¬ ((f = 770 ∨ f = 771) ∧ i = r) ∧ ¬ (f = 1161 ∧ i = 0) := by
  unfold pA
  rw [Bool.or_eq_false_iff, pQ_f, ← Bool.not_eq_true (Nat.beq f 1161 && _), Bool.and_eq_true, Nat.beq_eq, Nat.beq_eq]
def pP (r f i : Nat) : Bool := pM f i || (pA r f i || pY 160 f i)
theorem pP_f {r f i : Nat} : pP r f i = false ↔ pM f i = false ∧ pA r f i = false ∧ pY 160 f i = false := by
  unfold pP
  rw [Bool.or_eq_false_iff, Bool.or_eq_false_iff]
theorem m95 {w : Int} {c : Nat} {C : V2} {s : S2} (hc : s 1153 0 0 = c) (hC : cw s c = C) (hB : CB C) (hw : 0 ≤ w ∧ w ≤ 20) : f95 w s = some (if s 1155 0 0 = 0 then (if 0 < w - C 385 0 then w - C 385 0 else 0) else (if w < C 386 0 then C 386 0 else w)) := by
  have e1 : s 385 c 0 = C 385 0 := by rw [← hC, cw0 (by omega) (by omega)]
  have e2 : s 386 c 0 = C 386 0 := by rw [← hC, cw0 (by omega) (by omega)]
  have b := hB.2.2.2.2.2.2.2.2
  unfold f95
  simp only [bnd, hc, Int.toNat_natCast, e1, e2, jmax_e]
  rw [jsub_e (by omega) (by omega)]
  split <;> rfl
theorem m94a {r : Nat} {s : S2} {c : Nat} {C Y : V2} {rain : Int} {code : List Int} (hr : s 1154 0 0 = r) (hL : hasL s r code) (hw : wfc code []) (hR : Rd s c C Y rain) (hC : CB C) (hY : YB C Y) : ∃ s', itr (fun (x2, s3) => f94_a x2 s3) am_fu (0, s) = some s' ∧ Fr (pA r) s s' ∧ ∀ k, k < 6 → s' 1161 0 k = own C Y rain code k := by
  refine itr_inv (fun (i : Nat) (z : Int × S2) => z.1 = i ∧ Fr (pA r) s z.2 ∧ ∀ k, k < i → z.2 1161 0 k = own C Y rain code k) (fun (z : S2) => Fr (pA r) s z ∧ ∀ k, k < 6 → z 1161 0 k = own C Y rain code k) 6 ?_ am_fu (fu_lt (by decide)) (0, s) ⟨rfl, Fr.rf, fun k hk => by omega⟩
  rintro i ⟨x, z⟩ hi ⟨g1, hF, g2⟩
  dsimp only at g1 hF g2 ⊢
  subst g1
  by_cases e : i = 6
  · subst e
    exact Or.inr ⟨z, rfl, hF, g2⟩
  · refine Or.inl ⟨by omega, ?_⟩
    have hr' : z 1154 0 0 = r := by rw [hF 1154 0 (pA_f.mpr (by omega))]; exact hr
    have hL' := hL.fr (hF 769 r (pA_f.mpr (by omega))) (hF 768 r (pA_f.mpr (by omega)))
    have hR' : Rd z c C Y rain := by
      obtain ⟨h1, h2, h3, h4, h5⟩ := hR
      refine ⟨?_, ?_, ?_, h4.fr fun f h1 h2 => hF f 0 (pA_f.mpr (by omega)), ?_⟩
      · rw [hF 1153 0 (pA_f.mpr (by omega))]; exact h1
      · rw [hF.cw fun f h1 h2 => pA_f.mpr (by omega)]; exact h2
      · rw [hF.yv fun f h1 h2 => pA_f.mpr (by omega)]; exact h3
      · rw [hF 1155 0 (pA_f.mpr (by omega))]; exact h5
    obtain ⟨z', k1, k2⟩ := m81 hr' hL' hw hR' hC hY (l := i) (by omega)
    refine ⟨(((i + 1 : Nat) : Int), st2 z' 1161 0 i (own C Y rain code i)), ?_, rfl, (hF.tr (k2.mo fun f j h => pQ_f.mpr (pA_f.mp h).1)).st (by simp [pA]), fun k hk => ?_⟩
    · show f94_a i z = _
      unfold f94_a
      rw [if_neg (by omega), k1, cR_s, sto_t (by omega) (by omega), bnd, jadd_e (by omega) (by omega)]
      rfl
    · simp only [st2_d]
      by_cases hk2 : k = i
      · simp [hk2]
      · have : z' 1161 0 k = z 1161 0 k := by rw [k2 1161 0 (pQ_f.mpr (by omega))]
        simp [hk2, this, g2 k (by omega)]
def pB (f i : Nat) : Bool := (Nat.beq f 513 || Nat.beq f 518) && Nat.beq i 160
theorem pB_f {f i : Nat} : pB f i = false ↔ ¬ ((f = 513 ∨ f = 518) ∧ i = 160) := by
  unfold pB
  rw [← Bool.not_eq_true, Bool.and_eq_true, Bool.or_eq_true, Nat.beq_eq, Nat.beq_eq, Nat.beq_eq]
theorem m94b {s : S2} {c : Nat} {C Y : V2} {O : Nat → Int} (hc : s 1153 0 0 = c) (hcw : cw s c = C) (hyv : yv s 160 = Y) (hC : CB C) (hY : YB C Y) (hO : ∀ k, k < 6 → s 1161 0 k = O k) (hOb : ∀ k, k < 6 → O k = -1 ∨ (0 ≤ O k ∧ O k < C 387 0 ∧ (k : Int) < C 388 0)) : ∃ r, itr (fun (x9, x10, s11) => f94_b x9 x10 s11) am_fu (0, 0, s) = some r ∧ r.1 = sumI 6 (fun l => if O l = -1 then 0 else C 393 l) ∧ Fr pB s r.2 ∧ (∀ k, k < 6 → r.2 513 160 k = O k) ∧ ∀ f : Nat, f < 4 → r.2 518 160 f = Y 518 f + sumI 6 (fun l => if O l = f then C 393 l else 0) := by
  have hcc := hC.1
  have hb : ∀ i, i ≤ 6 → -6 ≤ sumI i (fun l => if O l = -1 then 0 else C 393 l) ∧ sumI i (fun l => if O l = -1 then 0 else C 393 l) ≤ 54 := by
    intro i hi
    have := sumI_bd (f := fun l => if O l = -1 then 0 else C 393 l) (a := -1) (b := 9) (n := i) (fun j hj => by have := hC.2.2.2.1 j (by omega); grind)
    omega
  have hb2 : ∀ (f : Nat) i, i ≤ 6 → -6 ≤ sumI i (fun l => if O l = f then C 393 l else 0) ∧ sumI i (fun l => if O l = f then C 393 l else 0) ≤ 54 := by
    intro f i hi
    have := sumI_bd (f := fun l => if O l = f then C 393 l else 0) (a := -1) (b := 9) (n := i) (fun j hj => by have := hC.2.2.2.1 j (by omega); grind)
    omega
  refine itr_inv (fun (i : Nat) (z : Int × Int × S2) => z.1 = sumI i (fun l => if O l = -1 then 0 else C 393 l) ∧ z.2.1 = i ∧ Fr pB s z.2.2 ∧ (∀ k, k < i → z.2.2 513 160 k = O k) ∧ ∀ f : Nat, f < 4 → z.2.2 518 160 f = Y 518 f + sumI i (fun l => if O l = f then C 393 l else 0)) (fun (r : Int × S2) => r.1 = sumI 6 (fun l => if O l = -1 then 0 else C 393 l) ∧ Fr pB s r.2 ∧ (∀ k, k < 6 → r.2 513 160 k = O k) ∧ ∀ f : Nat, f < 4 → r.2 518 160 f = Y 518 f + sumI 6 (fun l => if O l = f then C 393 l else 0)) 6 ?_ am_fu (fu_lt (by decide)) (0, 0, s) ⟨rfl, rfl, Fr.rf, fun k hk => by omega, fun f hf => by rw [← hyv, yv518 hf]; simp [sumI]⟩
  rintro i ⟨g, x, z⟩ hi ⟨g1, g2, hF, g3, g4⟩
  dsimp only at g1 g2 hF g3 g4 ⊢
  subst g1 g2
  by_cases e : i = 6
  · subst e
    exact Or.inr ⟨(_, z), rfl, rfl, hF, g3, g4⟩
  · refine Or.inl ⟨by omega, ?_⟩
    have q1 : z 1161 0 i = O i := by rw [hF 1161 0 (pB_f.mpr (by omega))]; exact hO i (by omega)
    have q2 : z 1153 0 0 = c := by rw [hF 1153 0 (pB_f.mpr (by omega))]; exact hc
    have q3 : z 387 c 0 = C 387 0 := by rw [hF 387 c (pB_f.mpr (by omega)), ← hcw, cw0 (by omega) (by omega)]
    have q4 : z 393 c i = C 393 i := by rw [hF 393 c (pB_f.mpr (by omega)), ← hcw, cw6 (by omega) (by omega) (by omega)]
    have hl := hC.2.2.2.1 i (by omega)
    have hs1 := hb i (by omega)
    have ej : jadd (i : Int) 1 = ((i + 1 : Nat) : Int) := by rw [jadd_e (by omega) (by omega)]; rfl
    rcases hOb i (by omega) with h | ⟨h1, h2, h3⟩
    · refine ⟨(sumI (i + 1) (fun l => if O l = -1 then 0 else C 393 l), ((i + 1 : Nat) : Int), st2 z 513 160 i (O i)), ?_, rfl, rfl, hF.st rfl, fun k hk => ?_, fun f hf => ?_⟩
      · show f94_b _ i z = _
        unfold f94_b
        rw [if_neg (by omega), ld_t (by omega) (by omega), Int.toNat_natCast, q1, sto_t (by omega) (by omega), Int.toNat_natCast]
        have : st2 z 513 160 i (O i) 1153 0 0 = c := by rw [st2_ne (by omega)]; exact q2
        rw [bnd, this, m51f (by omega), cP_s, if_pos rfl, bnd, ej, sumI_s, h]
        simp
      · simp only [st2_d]
        by_cases hk2 : k = i
        · simp [hk2]
        · simp [hk2, g3 k (by omega)]
      · dsimp only
        rw [st2_ne (by omega), g4 f hf, sumI_s, if_neg (by omega)]
        omega
    · obtain ⟨o, ho⟩ := Int.eq_ofNat_of_zero_le h1
      have ho4 : o < 4 := by omega
      have hs2 := hb2 o i (by omega)
      have g5 := g4 o ho4
      have ha := hY.2.2.2.2.2 o ho4
      have hh := hY.2.2.2.2.1
      have t1 : st2 z 513 160 i (O i) 1153 0 0 = c := by rw [st2_ne (by omega)]; exact q2
      have t2 : st2 z 513 160 i (O i) 387 c 0 = C 387 0 := by rw [st2_ne (by omega)]; exact q3
      have t3 : st2 z 513 160 i (O i) 393 c i = C 393 i := by rw [st2_ne (by omega)]; exact q4
      have t4 : st2 z 513 160 i (O i) 518 160 o = z 518 160 o := by rw [st2_ne (by omega)]
      have t5 : st2 (st2 z 513 160 i (O i)) 518 160 o (z 518 160 o + C 393 i) 1153 0 0 = c := by rw [st2_ne (by omega)]; exact t1
      have t6 : st2 (st2 z 513 160 i (O i)) 518 160 o (z 518 160 o + C 393 i) 393 c i = C 393 i := by rw [st2_ne (by omega)]; exact t3
      refine ⟨(sumI (i + 1) (fun l => if O l = -1 then 0 else C 393 l), ((i + 1 : Nat) : Int), st2 (st2 z 513 160 i (O i)) 518 160 o (z 518 160 o + C 393 i)), ?_, rfl, rfl, (hF.st rfl).st rfl, fun k hk => ?_, fun f hf => ?_⟩
      · show f94_b _ i z = _
        unfold f94_b
        rw [if_neg (by omega), ld_t (by omega) (by omega), Int.toNat_natCast, q1, sto_t (by omega) (by omega), Int.toNat_natCast, bnd, t1, Int.toNat_natCast, m51t (by omega), cP_s, if_neg ne10, ho, ld_t (by omega) (by omega), Int.toNat_natCast, ← ho, t4, bnd, ld_t (by omega) (by omega), Int.toNat_natCast, t3, jadd_e (x := z 518 160 o) (by omega) (by omega)]
        rw [ho, sto_t (by omega) (by omega), Int.toNat_natCast, ← ho, bnd, t5, Int.toNat_natCast, ld_t (by omega) (by omega), Int.toNat_natCast, t6, bnd, bnd, ej, jadd_e (by omega) (by omega), sumI_s, if_neg (by omega)]
      · simp only [st2_d]
        by_cases hk2 : k = i
        · simp [hk2]
        · simp [hk2, g3 k (by omega)]
      · dsimp only
        rw [sumI_s]
        by_cases hfo : f = o
        · subst hfo
          rw [st2_eq, g5, if_pos ho]
          omega
        · rw [st2_ne (by omega), st2_ne (by omega), g4 f hf, if_neg (by omega)]
          omega
