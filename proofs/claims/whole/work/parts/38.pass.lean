/-! WHOSE A LINE IS, an hour -/
theorem ne10 : ¬ ((1 : Int) = 0) := by decide
theorem m49t {c : Nat} {n : Int} {s : S2} (h : 0 ≤ n ∧ n < s 389 c 0 ∧ n < 10) : f49 c n s = some 1 := by rw [m49, if_pos h]
theorem m49f {c : Nat} {n : Int} {s : S2} (h : ¬ (0 ≤ n ∧ n < s 389 c 0 ∧ n < 10)) : f49 c n s = some 0 := by rw [m49, if_neg h]
theorem m50t {c : Nat} {n : Int} {s : S2} (h : 0 ≤ n ∧ n < s 388 c 0 ∧ n < 6) : f50 c n s = some 1 := by rw [m50, if_pos h]
theorem m50f {c : Nat} {n : Int} {s : S2} (h : ¬ (0 ≤ n ∧ n < s 388 c 0 ∧ n < 6)) : f50 c n s = some 0 := by rw [m50, if_neg h]
theorem m51t {c : Nat} {n : Int} {s : S2} (h : 0 ≤ n ∧ n < s 387 c 0 ∧ n < 4) : f51 c n s = some 1 := by rw [m51, if_pos h]
theorem m51f {c : Nat} {n : Int} {s : S2} (h : ¬ (0 ≤ n ∧ n < s 387 c 0 ∧ n < 4)) : f51 c n s = some 0 := by rw [m51, if_neg h]
def ownS (sum : Nat → Int) : Nat → Int × Int
  | 0 => (-1, 0)
  | n + 1 => if (ownS sum n).2 < sum n then ((n : Int), sum n) else if sum n = (ownS sum n).2 then (-1, (ownS sum n).2) else ownS sum n
theorem ownS_bd {sum : Nat → Int} : ∀ {n : Nat}, (ownS sum n).1 = -1 ∨ (0 ≤ (ownS sum n).1 ∧ (ownS sum n).1 < n)
  | 0 => Or.inl rfl
  | n + 1 => by
    have := ownS_bd (sum := sum) (n := n)
    unfold ownS
    split
    · right; constructor <;> simp only <;> omega
    · split
      · left; rfl
      · omega
theorem ownS_congr {f g : Nat → Int} : ∀ {n : Nat}, (∀ i, i < n → f i = g i) → ownS f n = ownS g n
  | 0, _ => rfl
  | n + 1, h => by unfold ownS; rw [ownS_congr (n := n) (fun i hi => h i (by omega)), h n (by omega)]
def own (C Y : V2) (rain : Int) (code : List Int) (l : Nat) : Int := if (l : Int) < C 388 0 ∧ l < 6 ∧ Y 514 l = 0 then (ownS (fun f => runL (vls C Y rain f l) code []) (C 387 0).toNat).1 else -1
theorem own_bd {C Y : V2} {rain : Int} {code : List Int} {l : Nat} (hC : CB C) : own C Y rain code l = -1 ∨ (0 ≤ own C Y rain code l ∧ own C Y rain code l < C 387 0 ∧ (l : Int) < C 388 0) := by
  unfold own
  split
  · have := ownS_bd (sum := fun f => runL (vls C Y rain f l) code []) (n := (C 387 0).toNat)
    have := hC.1
    omega
  · exact Or.inl rfl
theorem m81 {r : Nat} {l : Nat} {s : S2} {c : Nat} {C Y : V2} {rain : Int} {code : List Int} (hr : s 1154 0 0 = r) (hL : hasL s r code) (hw : wfc code []) (hR : Rd s c C Y rain) (hC : CB C) (hY : YB C Y) (hl : l < 6) : ∃ s', f81 l s = some (own C Y rain code l, s') ∧ Fr (pQ r) s s' := by
  have h1 := hR.1
  have h2 := hR.2.1
  have h3 := hR.2.2.1
  have e1 : s 388 c 0 = C 388 0 := by rw [← h2, cw0 (by omega) (by omega)]
  have e2 : s 514 160 l = Y 514 l := by rw [← h3, yv514 hl]
  have hcc := hC.1
  unfold f81 own
  rw [bnd, h1, Int.toNat_natCast]
  by_cases a : (l : Int) < C 388 0
  · rw [m50t (by omega), cP_s, if_neg ne10]
    by_cases b : Y 514 l = 0
    · rw [ld_t (by omega) (by omega), Int.toNat_natCast, e2, if_pos b, if_pos ⟨a, hl, b⟩]
      refine inv_cP (a := ((-1 : Int), (0 : Int), (0 : Int), s)) (P := fun e => ∃ s', e = some ((ownS (fun f => runL (vls C Y rain f l) code []) (C 387 0).toNat).1, s') ∧ Fr (pQ r) s s') (fun (i : Nat) (z : Int × Int × Int × S2) => z.1 = (ownS (fun f => runL (vls C Y rain f l) code []) i).1 ∧ z.2.1 = (ownS (fun f => runL (vls C Y rain f l) code []) i).2 ∧ z.2.2.1 = i ∧ Fr (pQ r) s z.2.2.2) (fun (z : Int × S2) => z.1 = (ownS (fun f => runL (vls C Y rain f l) code []) (C 387 0).toNat).1 ∧ Fr (pQ r) s z.2) (C 387 0).toNat (by omega) ⟨rfl, rfl, rfl, Fr.rf⟩ ?_ ?_
      · rintro i ⟨x, y, w, z⟩ hi ⟨g1, g2, g3, hF⟩
        dsimp only at g1 g2 g3 hF ⊢
        subst g1 g2 g3
        have hR' := hR.fr hF
        have q1 := hR'.1
        have q2 : z 387 c 0 = C 387 0 := by rw [← hR'.2.1, cw0 (by omega) (by omega)]
        have q3 : z 1154 0 0 = r := by rw [hF 1154 0 (pQ_f.mpr (by omega))]; exact hr
        by_cases e : i = (C 387 0).toNat
        · refine Or.inr ⟨((ownS (fun f => runL (vls C Y rain f l) code []) i).1, z), ?_, by rw [e], hF⟩
          show f81_a l _ _ i z = _
          unfold f81_a
          rw [bnd, q1, bnd, Int.toNat_natCast, q2, if_pos (by omega)]
        · refine Or.inl ⟨by omega, ?_⟩
          obtain ⟨z', k1, k2⟩ := m82 (hL.fr (hF 769 r (pQ_f.mpr (by omega))) (hF 768 r (pQ_f.mpr (by omega)))) hw hR' hC hY (f := i) (by omega) hl
          refine ⟨((ownS (fun f => runL (vls C Y rain f l) code []) (i + 1)).1, (ownS (fun f => runL (vls C Y rain f l) code []) (i + 1)).2, ((i + 1 : Nat) : Int), z'), ?_, rfl, rfl, rfl, hF.tr k2⟩
          show f81_a l _ _ i z = _
          unfold f81_a
          rw [bnd, q1, bnd, Int.toNat_natCast, q2, if_neg (by omega), bnd, q3, Int.toNat_natCast, k1, cR_s]
          rw [jadd_e (by omega) (by omega)]
          simp only [bnd, jcmp_le, jcmp_eq, ownS]
          grind
      · rintro ⟨x, z⟩ ⟨g1, g2⟩
        exact ⟨z, by rw [← g1], g2⟩
    · rw [ld_t (by omega) (by omega), Int.toNat_natCast, e2, if_neg b, if_neg (fun h => b h.2.2)]
      exact ⟨s, rfl, Fr.rf⟩
  · rw [m50f (by omega), cP_s, if_pos rfl, if_neg (fun h => a h.1)]
    exact ⟨s, rfl, Fr.rf⟩
theorem m81n {l : Int} {s : S2} (h : ¬ (0 ≤ l ∧ l < s 388 (s 1153 0 0).toNat 0 ∧ l < 6)) : f81 l s = some (-1, s) := by
  unfold f81
  rw [bnd, m50f h, cP_s, if_pos rfl]
