theorem m206 {r a : Nat} {z : S2} {v : Int → Int} {ops : List Int} {b : Bool} (hr : r < 6) (ha : a + ops.length ≤ 300) (hE : ∀ k, k < ops.length → entM z r (a + k) (ops.getD k 0)) (hv : ∀ w : Nat, w < 13 → z 1587 0 w = v (256 + w)) (ht : tyR ops [] = some [b]) : ∃ x z', evS v ops [] = [x] ∧ (b = true → x = 0 ∨ x = 1) ∧ f206 r a ((a + ops.length : Nat) : Int) z = some (x, z') ∧ Fr pE z z' := by
  have hok := evS_ok (v := v) (st := []) (t := []) (ops := ops) trivial ht
  obtain ⟨x, hx⟩ : ∃ x, evS v ops [] = [x] := by
    match evS v ops [], hok with
    | [x], _ => exact ⟨x, rfl⟩
  rw [hx] at hok
  unfold f206
  refine inv_cP (a := ((0 : Int), (a : Int), z)) (P := fun e => ∃ x z', evS v ops [] = [x] ∧ (b = true → x = 0 ∨ x = 1) ∧ e = some (x, z') ∧ Fr pE z z') (fun (k : Nat) (y : Int × Int × S2) => k ≤ ops.length ∧ y.2.1 = ((a + k : Nat) : Int) ∧ Fr pE z y.2.2 ∧ ∃ (st : List Int) (t : List Bool), y.1 = st.length ∧ stkA (y.2.2 1588 0) st ∧ tyOK st t ∧ t.length ≤ 60 ∧ tyR (ops.drop k) t = some [b] ∧ evS v (ops.drop k) st = [x]) (fun (y : S2) => Fr pE z y ∧ y 1588 0 0 = x) ops.length (by omega) ⟨Nat.zero_le _, rfl, Fr.rf, [], [], rfl, trivial, trivial, by simp, ht, hx⟩ ?_ ?_
  · rintro k ⟨n, K, y⟩ hk ⟨hk2, h1, hF, st, t, h2, h3, h4, h5, h6, h7⟩
    dsimp only at h1 hF h2 h3 ⊢
    subst h1 h2
    by_cases e : k = ops.length
    · right
      rw [e, List.drop_length] at h6 h7
      cases h6
      have h7 : st = [x] := h7
      subst h7
      refine ⟨y, ?_, hF, h3.1⟩
      show f206_a r _ _ _ y = _
      unfold f206_a
      rw [if_pos (by omega)]
    · left
      have hk3 : k < ops.length := by omega
      refine ⟨hk3, ?_⟩
      have hd := drop_cons hk3
      have hE' := hE k hk3
      generalize ops.getD k 0 = op at hd hE'
      rw [hd] at h6 h7
      unfold tyR at h6
      cases et : ty1 op t with
      | none => rw [et] at h6; cases h6
      | some t' =>
        rw [et] at h6
        simp only at h6
        split at h6
        · rename_i h60
          have hEy : entM y r (a + k) op := by
            unfold entM at hE' ⊢
            rw [hF 1580 0 (pE_f.mpr (by omega)), hF 1581 0 (pE_f.mpr (by omega))]
            exact hE'
          have hvy : ∀ w : Nat, w < 13 → y 1587 0 w = v (256 + w) := fun w hw => by
            rw [hF 1587 0 (pE_f.mpr (by omega))]; exact hv w hw
          obtain ⟨y', g1, g2, g3⟩ := m206_op (U := ((a + ops.length : Nat) : Int)) hr (by omega) (by omega) hEy hvy h3 h4 h5 et
          exact ⟨(_, ((a + (k + 1) : Nat) : Int), y'), g1, by omega, rfl, hF.tr g2, opS v op st, t', rfl, g3, tyOK_step h4 et, h60, h6, h7⟩
        · cases h6
  · rintro y ⟨h1, h2⟩
    refine ⟨x, y, hx, fun q => hok.1 q, ?_, h1⟩
    rw [ld_t (by omega) (by omega)]
    show some (y 1588 0 0, y) = _
    rw [h2]
theorem opS_app {v : Int → Int} {op : Int} {st bs : List Int} {t t' : List Bool} (ht : tyOK st t) (e : ty1 op t = some t') : opS v op (st ++ bs) = opS v op st ++ bs := by
  have kl := ht.len
  rcases ty1_cases e with ⟨h0, -⟩ | ⟨rfl, q, hq, -⟩ | ⟨h0, b1, b2, b3, q, hq, -⟩
  · by_cases h1 : 0 ≤ op
    · rw [opS_v h1, opS_v h1]; rfl
    · have h2 : -268 ≤ op ∧ op ≤ -256 := by omega
      rw [opS_w h2.1 h2.2, opS_w h2.1 h2.2]; rfl
  · subst hq
    obtain ⟨x, st, rfl⟩ : ∃ x q, st = x :: q := by
      match st, kl with
      | x :: q, _ => exact ⟨x, q, rfl⟩
    rfl
  · subst hq
    obtain ⟨b, a, st, rfl⟩ : ∃ b a q, st = b :: a :: q := by
      match st, kl with
      | b :: a :: q, _ => exact ⟨b, a, q, rfl⟩
    rw [opS_j h0]
    show opS v op (b :: a :: (st ++ bs)) = _
    rw [opS_j h0]
    rfl
theorem evS_app {v : Int → Int} {bs : List Int} : ∀ {ops : List Int} {st : List Int} {t t' : List Bool}, tyOK st t → tyR ops t = some t' → evS v ops (st ++ bs) = evS v ops st ++ bs
  | [], _, _, _, _, _ => rfl
  | op :: c, st, t, t', h, ht => by
    unfold tyR at ht
    cases e : ty1 op t with
    | none => rw [e] at ht; cases ht
    | some t1 =>
      rw [e] at ht
      simp only at ht
      split at ht
      · show evS v c (opS v op (st ++ bs)) = evS v c (opS v op st) ++ bs
        rw [opS_app h e]
        exact evS_app (tyOK_step h e) ht
      · cases ht
theorem ty1_sep {op : Int} {t t' : List Bool} (e : ty1 op t = some t') : ¬ op = -59 ∧ ¬ op = -270 := by
  rcases ty1_cases e with ⟨h0, -⟩ | ⟨h0, -⟩ | ⟨h0, -⟩
  · omega
  · omega
  · unfold isJ at h0; omega
theorem runL_o {v : Int → Int} {op : Int} {c st : List Int} (h1 : ¬ op = -59) (h2 : ¬ op = -270) : runL v (op :: c) st = runL v c (opS v op st) := (if_neg h1).trans (if_neg h2)
theorem runL_s {v : Int → Int} {c st : List Int} : runL v (-59 :: c) st = bot st := if_pos rfl
theorem runL_i {v : Int → Int} {y x : Int} {c st : List Int} : runL v (-270 :: c) (y :: x :: st) = if y = 0 then runL v c [] else x := (if_neg (by decide)).trans (if_pos rfl)
theorem runL_ops {v : Int → Int} {rest : List Int} : ∀ {ops : List Int} {st : List Int} {t t' : List Bool}, tyR ops t = some t' → runL v (ops ++ rest) st = runL v rest (evS v ops st)
  | [], _, _, _, _ => rfl
  | op :: c, st, t, t', ht => by
    unfold tyR at ht
    cases e : ty1 op t with
    | none => rw [e] at ht; cases ht
    | some t1 =>
      rw [e] at ht
      simp only at ht
      split at ht
      · obtain ⟨h1, h2⟩ := ty1_sep e
        show runL v (op :: (c ++ rest)) st = runL v rest (evS v c (opS v op st))
        rw [runL_o h1 h2]
        exact runL_ops ht
      · cases ht
theorem wfc_ops {rest : List Int} : ∀ {ops : List Int} {t t' : List Bool}, tyR ops t = some t' → wfc rest t' → wfc (ops ++ rest) t
  | [], _, _, ht, h => by cases ht; exact h
  | op :: c, t, t', ht, h => by
    unfold tyR at ht
    cases e : ty1 op t with
    | none => rw [e] at ht; cases ht
    | some t1 =>
      rw [e] at ht
      simp only at ht
      split at ht
      · rename_i h60
        obtain ⟨h1, h2⟩ := ty1_sep e
        show wfc (op :: (c ++ rest)) t
        rw [wfc, if_neg h1, if_neg h2]
        exact ⟨t1, e, h60, wfc_ops ht h⟩
      · cases ht
/-- clauses as a law's row: the c-th and m - 1 behind it -/
def encF (S T : Nat → List Int) : Nat → Nat → List Int
  | _, 0 => []
  | c, m + 1 => S c ++ ((if T c = [] then [-59] else T c ++ [-270]) ++ encF S T (c + 1) m)
/-- a clause is well made -/
def wfS (S T : List Int) : Prop := tyR S [] = some [false] ∧ (T = [] ∨ (tyR T [] = some [true] ∧ tyR T [false] = some [true, false]))
theorem encF_wf {S T : Nat → List Int} : ∀ {m c : Nat}, (∀ k, c ≤ k → k < c + m → wfS (S k) (T k)) → wfc (encF S T c m) []
  | 0, _, _ => trivial
  | m + 1, c, h => by
    obtain ⟨h1, h2⟩ := h c (by omega) (by omega)
    have ih := encF_wf (S := S) (T := T) (m := m) (c := c + 1) (fun k hk1 hk2 => h k (by omega) (by omega))
    unfold encF
    refine wfc_ops h1 ?_
    by_cases hT : T c = []
    · rw [if_pos hT]
      show wfc (-59 :: _) [false]
      rw [wfc, if_pos rfl]
    · rw [if_neg hT, List.append_assoc]
      refine wfc_ops (h2.resolve_left hT).2 ?_
      show wfc (-270 :: _) [true, false]
      rw [wfc, if_neg (by decide), if_pos rfl]
      exact ⟨rfl, ih⟩
theorem runL_encF {v : Int → Int} {S T : Nat → List Int} {c m : Nat} {x : Int} (h : wfS (S c) (T c)) (hS : evS v (S c) [] = [x]) : runL v (encF S T c (m + 1)) [] = if T c = [] then x else match evS v (T c) [] with
    | [y] => if y = 0 then runL v (encF S T (c + 1) m) [] else x
    | _ => 0 := by
  show runL v (S c ++ ((if T c = [] then [-59] else T c ++ [-270]) ++ encF S T (c + 1) m)) [] = _
  rw [runL_ops h.1, hS]
  by_cases hT : T c = []
  · rw [if_pos hT, if_pos hT]
    exact runL_s
  · have h2 := h.2.resolve_left hT
    rw [if_neg hT, if_neg hT, List.append_assoc, runL_ops h2.2]
    have hok := evS_ok (v := v) (st := []) (t := []) (ops := T c) trivial h2.1
    have ha := evS_app (v := v) (bs := [x]) (ops := T c) (st := []) (t := []) trivial h2.1
    rw [List.nil_append] at ha
    rw [ha]
    match evS v (T c) [], hok with
    | [y], _ => exact runL_i
