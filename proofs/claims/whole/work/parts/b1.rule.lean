/-! A RULE, told by functions of the text alone -/
abbrev PS : Type := Nat × Nat × List Int
def bS {R : Type} (x : Int ⊕ PS) (k : Nat → Nat → List Int → Int ⊕ R) : Int ⊕ R := match x with
  | .inl e => .inl e
  | .inr (q, c, X) => k q c X
theorem bS_l {R : Type} {e : Int} {k : Nat → Nat → List Int → Int ⊕ R} : bS (.inl e) k = .inl e := rfl
theorem bS_r {R : Type} {q c : Nat} {X : List Int} {k : Nat → Nat → List Int → Int ⊕ R} : bS (.inr (q, c, X)) k = k q c X := rfl
theorem bS_i {R : Type} {x : Int ⊕ PS} {k : Nat → Nat → List Int → Int ⊕ R} {r : R} (h : bS x k = .inr r) : ∃ q c X, x = .inr (q, c, X) ∧ k q c X = .inr r := by
  match x, h with
  | .inr (q, c, X), h => exact ⟨q, c, X, rfl, h⟩
def isV (K : Int) : Bool := decide (K = 2 ∨ (256 ≤ K ∧ K ≤ 268))
def isM (K : Int) : Bool := decide (K = 42 ∨ K = 47 ∨ K = 37)
def isA (K : Int) : Bool := decide (K = 43 ∨ K = 45)
def isC (K : Int) : Bool := decide (K = 60 ∨ K = 3 ∨ K = 61 ∨ K = 4 ∨ K = 62)
def cdV (n : Nat) (bs : Nat → Nat) (q : Nat) : Int := if tK n bs q = 2 then tV n bs q else -(tK n bs q)
def aVal (n : Nat) (bs : Nat → Nat) (q c : Nat) : Int ⊕ PS := if isV (tK n bs q) = true then (if tV n bs q = -1 then .inl (1 + 8 * (q : Int) + 1) else if 60 ≤ c then .inl (1 + 8 * (q : Int) + 3) else .inr (nq n bs q, c + 1, [cdV n bs q])) else .inl (1 + 8 * (q : Int) + 0)
def aTm (n : Nat) (bs : Nat → Nat) : Nat → Nat → Nat → List Int → Int ⊕ PS
  | 0, q, c, X => .inr (q, c, X)
  | f + 1, q, c, X => if isM (tK n bs q) = true then bS (aVal n bs (nq n bs q) c) fun q1 c1 Y => aTm n bs f q1 c1 (X ++ Y ++ [-(tK n bs q)]) else .inr (q, c, X)
def aTerm (n : Nat) (bs : Nat → Nat) (q c : Nat) : Int ⊕ PS := bS (aVal n bs q c) fun q1 c1 X => aTm n bs 60 q1 c1 X
def aSm (n : Nat) (bs : Nat → Nat) : Nat → Nat → Nat → List Int → Int ⊕ PS
  | 0, q, c, X => .inr (q, c, X)
  | f + 1, q, c, X => if isA (tK n bs q) = true then bS (aTerm n bs (nq n bs q) c) fun q1 c1 Y => aSm n bs f q1 c1 (X ++ Y ++ [-(tK n bs q)]) else .inr (q, c, X)
def aSum (n : Nat) (bs : Nat → Nat) (q c : Nat) : Int ⊕ PS := bS (aTerm n bs q c) fun q1 c1 X => aSm n bs 60 q1 c1 X
def aCmp (n : Nat) (bs : Nat → Nat) (q c : Nat) : Int ⊕ PS := bS (aSum n bs q c) fun q1 c1 X => if isC (tK n bs q1) = true then (if 60 ≤ c1 then .inl (1 + 8 * (q1 : Int) + 3) else bS (aSum n bs (nq n bs q1) (c1 + 1)) fun q2 c2 Y => .inr (q2, c2, X ++ Y ++ [-(tK n bs q1)])) else .inl (1 + 8 * (q1 : Int) + 0)
/-- how deep, and where, behind words not -/
def aNot (n : Nat) (bs : Nat → Nat) : Nat → Nat → Nat → Nat × Nat
  | 0, d, q => (d, q)
  | f + 1, d, q => if tK n bs q = 273 ∧ d < 10 then aNot n bs f (d + 1) (nq n bs q) else (d, q)
def aFx (n : Nat) (bs : Nat → Nat) (rt : Nat → Nat → Nat → Int ⊕ PS) (d q c : Nat) : Int ⊕ PS := if tK n bs q = 273 ∨ (tK n bs q = 91 ∧ 10 ≤ d) then .inl (1 + 8 * (q : Int) + 2) else if tK n bs q = 91 then bS (rt (d + 1) (nq n bs q) c) fun q2 c2 X => (if tK n bs q2 = 93 then .inr (nq n bs q2, c2, X) else .inl (1 + 8 * (q2 : Int) + 0)) else aCmp n bs q c
def aFact (n : Nat) (bs : Nat → Nat) (rt : Nat → Nat → Nat → Int ⊕ PS) (d q c : Nat) : Int ⊕ PS := bS (aFx n bs rt (aNot n bs 11 d q).1 (aNot n bs 11 d q).2 c) fun q3 c3 X => .inr (q3, c3, X ++ List.replicate ((aNot n bs 11 d q).1 - d) (-273))
def orX (o : Bool) : List Int := if o = true then [-272] else []
def aTs (n : Nat) (bs : Nat → Nat) (rt : Nat → Nat → Nat → Int ⊕ PS) (d : Nat) : Nat → Bool → Nat → Nat → List Int → Int ⊕ PS
  | 0, o, q, c, X => .inr (q, c, X ++ orX o)
  | f + 1, o, q, c, X => if tK n bs q = 271 then bS (aFact n bs rt d (nq n bs q) c) fun q1 c1 Y => aTs n bs rt d f o q1 c1 (X ++ Y ++ [-271])
    else if tK n bs q = 272 then bS (aFact n bs rt d (nq n bs q) c) fun q1 c1 Y => aTs n bs rt d f true q1 c1 (X ++ orX o ++ Y)
    else .inr (q, c, X ++ orX o)
def aTest (n : Nat) (bs : Nat → Nat) : Nat → Nat → Nat → Nat → Int ⊕ PS
  | 0, _, _, _ => .inl 0
  | f + 1, d, q, c => bS (aFact n bs (aTest n bs f) d q c) fun q1 c1 X => aTs n bs (aTest n bs f) d 60 false q1 c1 X
/-! what is so behind a part that stands -/
def okO (x : Int) : Prop := -1000 ≤ x ∧ x < 100000
def PrB (n q c : Nat) (b : Bool) (q' c' : Nat) (X : List Int) : Prop := (q < q' ∧ q' ≤ n ∧ c < c' ∧ c' ≤ 60 ∧ X.length + q ≤ q' ∧ 3 * X.length + 3 + 6 * c + q ≤ 6 * c' + q') ∧ (∀ x, x ∈ X → okO x) ∧ ∀ t : List Bool, t.length + c' ≤ 60 + c → tyR X t = some (b :: t)
theorem tyR_app {B : List Int} : ∀ {A : List Int} {t u : List Bool}, tyR A t = some u → tyR (A ++ B) t = tyR B u
  | [], _, _, h => by cases h; rfl
  | op :: c, t, u, h => by
    unfold tyR at h
    cases e : ty1 op t with
    | none => rw [e] at h; cases h
    | some t1 =>
      rw [e] at h
      simp only at h
      split at h
      · rename_i h60
        show (match ty1 op t with
          | none => none
          | some t' => if t'.length ≤ 60 then tyR (c ++ B) t' else none) = _
        rw [e]
        simp only
        rw [if_pos h60]
        exact tyR_app h
      · cases h
theorem tyR_1 {op : Int} {t u : List Bool} (h : ty1 op t = some u) (h2 : u.length ≤ 60) : tyR [op] t = some u := by
  unfold tyR
  rw [h]
  simp only
  rw [if_pos h2]
  rfl
theorem nq_b {n q : Nat} {bs : Nat → Nat} (h : q < n) : q + tL n bs q ≤ nq n bs q ∧ q < nq n bs q ∧ nq n bs q ≤ n := by
  have := tL_bd (bs := bs) h
  unfold nq
  rw [if_neg (by omega)]
  have := sk_bd (bs := bs) this.2
  omega
theorem tK_lt {n q : Nat} {bs : Nat → Nat} (h : tK n bs q ≠ 0) : q < n := by
  by_cases y : q < n
  · exact y
  · refine absurd ?_ h
    unfold tK
    rw [if_pos (by omega)]
theorem PrB.join {n q0 c0 q c qm cm q1 c1 : Nat} {b1 b2 b3 : Bool} {X Y : List Int} {op : Int} (h1 : PrB n q0 c0 b1 q c X) (h2 : PrB n qm cm b2 q1 c1 Y) (hq : q < qm) (hc : c ≤ cm) (ho : okO op) (ht : ∀ t, ty1 op (b2 :: b1 :: t) = some (b3 :: t)) : PrB n q0 c0 b3 q1 c1 (X ++ Y ++ [op]) := by
  obtain ⟨a1, a2, a3⟩ := h1
  obtain ⟨e1, e2, e3⟩ := h2
  refine ⟨?_, fun x hx => ?_, fun t hl => ?_⟩
  · rw [List.length_append, List.length_append, List.length_singleton]
    omega
  · rw [List.mem_append, List.mem_append, List.mem_singleton] at hx
    rcases hx with (hx | hx) | hx
    · exact a2 x hx
    · exact e2 x hx
    · subst hx; exact ho
  · rw [List.append_assoc, tyR_app (a3 t (by omega)), tyR_app (e3 _ (by rw [List.length_cons]; omega))]
    exact tyR_1 (ht t) (by rw [List.length_cons]; omega)
theorem aVal_p {n q c q' c' : Nat} {bs : Nat → Nat} {X : List Int} (hb : ∀ k, k < n → bs k < 256) (h : aVal n bs q c = .inr (q', c', X)) : PrB n q c false q' c' X := by
  unfold aVal at h
  by_cases v : isV (tK n bs q) = true
  · rw [if_pos v] at h
    have hv := of_decide_eq_true v
    by_cases w : tV n bs q = -1
    · rw [if_pos w] at h; cases h
    · rw [if_neg w] at h
      by_cases z : 60 ≤ c
      · rw [if_pos z] at h; cases h
      · rw [if_neg z] at h
        cases h
        have hq := tK_lt (n := n) (q := q) (bs := bs) (by omega)
        have hn := nq_b (bs := bs) hq
        have hcd : 0 ≤ cdV n bs q ∧ cdV n bs q < 100000 ∨ -268 ≤ cdV n bs q ∧ cdV n bs q ≤ -256 := by
          unfold cdV
          by_cases k2 : tK n bs q = 2
          · rw [if_pos k2]
            have d := (tK_2 hb).mp k2
            have e := tV_d (n := n) (bs := bs) d
            have := nV_bd (n := n) (bs := bs) (q := q)
            omega
          · rw [if_neg k2]
            omega
        refine ⟨by rw [List.length_singleton]; omega, fun x hx => ?_, fun t hl => ?_⟩
        · rw [List.mem_singleton] at hx
          subst hx
          unfold okO
          omega
        · refine tyR_1 ?_ (by rw [List.length_cons]; omega)
          unfold ty1
          rw [if_pos (by omega)]
  · rw [if_neg v] at h; cases h
theorem ty_m {K : Int} {t : List Bool} (h : isM K = true ∨ isA K = true) : ty1 (-K) (false :: false :: t) = some (false :: t) ∧ okO (-K) := by
  have : K = 42 ∨ K = 47 ∨ K = 37 ∨ K = 43 ∨ K = 45 := by
    rcases h with h | h <;> have := of_decide_eq_true h <;> omega
  rcases this with rfl | rfl | rfl | rfl | rfl <;> exact ⟨rfl, by unfold okO; decide⟩
theorem ty_c {K : Int} {t : List Bool} (h : isC K = true) : ty1 (-K) (false :: false :: t) = some (true :: t) ∧ okO (-K) := by
  have := of_decide_eq_true h
  rcases this with rfl | rfl | rfl | rfl | rfl <;> exact ⟨rfl, by unfold okO; decide⟩
theorem isM_0 {K : Int} (h : isM K = true ∨ isA K = true ∨ isC K = true) : K ≠ 0 := by
  rcases h with h | h | h <;> have := of_decide_eq_true h <;> omega
theorem aTm_p {n q0 c0 q' c' : Nat} {bs : Nat → Nat} {X' : List Int} (hb : ∀ k, k < n → bs k < 256) : ∀ {f q c : Nat} {X : List Int}, aTm n bs f q c X = .inr (q', c', X') → PrB n q0 c0 false q c X → PrB n q0 c0 false q' c' X'
  | 0, _, _, _, h, hp => by unfold aTm at h; cases h; exact hp
  | f + 1, q, c, X, h, hp => by
    unfold aTm at h
    by_cases v : isM (tK n bs q) = true
    · rw [if_pos v] at h
      obtain ⟨q1, c1, Y, e1, e2⟩ := bS_i h
      have hq := nq_b (bs := bs) (tK_lt (n := n) (q := q) (bs := bs) (isM_0 (Or.inl v)))
      exact aTm_p hb e2 (hp.join (aVal_p hb e1) (by omega) (by omega) (ty_m (t := []) (Or.inl v)).2 fun t => (ty_m (Or.inl v)).1)
    · rw [if_neg v] at h
      cases h
      exact hp
theorem aTerm_p {n q c q' c' : Nat} {bs : Nat → Nat} {X : List Int} (hb : ∀ k, k < n → bs k < 256) (h : aTerm n bs q c = .inr (q', c', X)) : PrB n q c false q' c' X := by
  obtain ⟨q1, c1, Y, e1, e2⟩ := bS_i h
  exact aTm_p hb e2 (aVal_p hb e1)
theorem aSm_p {n q0 c0 q' c' : Nat} {bs : Nat → Nat} {X' : List Int} (hb : ∀ k, k < n → bs k < 256) : ∀ {f q c : Nat} {X : List Int}, aSm n bs f q c X = .inr (q', c', X') → PrB n q0 c0 false q c X → PrB n q0 c0 false q' c' X'
  | 0, _, _, _, h, hp => by unfold aSm at h; cases h; exact hp
  | f + 1, q, c, X, h, hp => by
    unfold aSm at h
    by_cases v : isA (tK n bs q) = true
    · rw [if_pos v] at h
      obtain ⟨q1, c1, Y, e1, e2⟩ := bS_i h
      have hq := nq_b (bs := bs) (tK_lt (n := n) (q := q) (bs := bs) (isM_0 (Or.inr (Or.inl v))))
      exact aSm_p hb e2 (hp.join (aTerm_p hb e1) (by omega) (by omega) (ty_m (t := []) (Or.inr v)).2 fun t => (ty_m (Or.inr v)).1)
    · rw [if_neg v] at h
      cases h
      exact hp
theorem aSum_p {n q c q' c' : Nat} {bs : Nat → Nat} {X : List Int} (hb : ∀ k, k < n → bs k < 256) (h : aSum n bs q c = .inr (q', c', X)) : PrB n q c false q' c' X := by
  obtain ⟨q1, c1, Y, e1, e2⟩ := bS_i h
  exact aSm_p hb e2 (aTerm_p hb e1)
theorem aCmp_p {n q c q' c' : Nat} {bs : Nat → Nat} {X : List Int} (hb : ∀ k, k < n → bs k < 256) (h : aCmp n bs q c = .inr (q', c', X)) : PrB n q c true q' c' X := by
  obtain ⟨q1, c1, Y, e1, e2⟩ := bS_i h
  by_cases v : isC (tK n bs q1) = true
  · rw [if_pos v] at e2
    by_cases w : 60 ≤ c1
    · rw [if_pos w] at e2; cases e2
    · rw [if_neg w] at e2
      obtain ⟨q2, c2, Z, e3, e4⟩ := bS_i e2
      cases e4
      have hq := nq_b (bs := bs) (tK_lt (n := n) (q := q1) (bs := bs) (isM_0 (Or.inr (Or.inr v))))
      exact (aSum_p hb e1).join (aSum_p hb e3) (by omega) (by omega) (ty_c (t := []) v).2 fun t => (ty_c v).1
  · rw [if_neg v] at e2; cases e2
theorem tL_w {n q i : Nat} {bs : Nat → Nat} (hb : ∀ k, k < n → bs k < 256) (hi : i < 21) (h : tK n bs q = 256 + (i : Int)) : tL n bs q = (m2_tb (wT i)).length ∧ q < n := by
  have hw := wT_k ⟨i, hi⟩
  have hl := (lenk ⟨wT i, hw.1⟩).2 hw.2
  exact wAt_L ((tK_w hb hi).mp h) hl.1
theorem tL_not {n q : Nat} {bs : Nat → Nat} (hb : ∀ k, k < n → bs k < 256) (h : tK n bs q = 273) : tL n bs q = 3 ∧ q < n := tL_w (i := 17) hb (by omega) h
theorem aNot_p {n : Nat} {bs : Nat → Nat} (hb : ∀ k, k < n → bs k < 256) : ∀ {f d q : Nat}, d ≤ 10 → 11 ≤ d + f → q ≤ n → d ≤ (aNot n bs f d q).1 ∧ (aNot n bs f d q).1 ≤ 10 ∧ q + 3 * ((aNot n bs f d q).1 - d) ≤ (aNot n bs f d q).2 ∧ (aNot n bs f d q).2 ≤ n
  | 0, d, q, h1, h2, h3 => by omega
  | f + 1, d, q, h1, h2, h3 => by
    unfold aNot
    by_cases c : tK n bs q = 273 ∧ d < 10
    · have hq := tL_not hb c.1
      have hn := nq_b (bs := bs) hq.2
      have ih := aNot_p hb (f := f) (d := d + 1) (q := nq n bs q) (by omega) (by omega) (by omega)
      rw [if_pos c]
      omega
    · rw [if_neg c]
      dsimp only
      omega
theorem tyR_nots {k : Nat} {t : List Bool} (h : t.length ≤ 59) : tyR (List.replicate k (-273)) (true :: t) = some (true :: t) := by
  induction k with
  | zero => rfl
  | succ k ih =>
    rw [List.replicate_succ]
    show tyR ([-273] ++ List.replicate k (-273)) (true :: t) = _
    rw [tyR_app (tyR_1 (u := true :: t) rfl (by rw [List.length_cons]; omega)), ih]
def RtP (n : Nat) (rt : Nat → Nat → Nat → Int ⊕ PS) : Prop := ∀ (d q c q' c' : Nat) (X : List Int), d ≤ 10 → q ≤ n → rt d q c = .inr (q', c', X) → PrB n q c true q' c' X
theorem aFx_p {n d q c q' c' : Nat} {bs : Nat → Nat} {rt : Nat → Nat → Nat → Int ⊕ PS} {X : List Int} (hb : ∀ k, k < n → bs k < 256) (hr : RtP n rt) (h : aFx n bs rt d q c = .inr (q', c', X)) : PrB n q c true q' c' X := by
  unfold aFx at h
  by_cases c1 : tK n bs q = 273 ∨ (tK n bs q = 91 ∧ 10 ≤ d)
  · rw [if_pos c1] at h; cases h
  · rw [if_neg c1] at h
    by_cases c2 : tK n bs q = 91
    · rw [if_pos c2] at h
      obtain ⟨q2, c2', Y, e1, e2⟩ := bS_i h
      by_cases c3 : tK n bs q2 = 93
      · rw [if_pos c3] at e2
        cases e2
        have hq := nq_b (bs := bs) (tK_lt (n := n) (q := q) (bs := bs) (by omega))
        have hq2 := nq_b (bs := bs) (tK_lt (n := n) (q := q2) (bs := bs) (by omega))
        obtain ⟨a1, a2, a3⟩ := hr _ _ _ _ _ _ (by omega) (by omega) e1
        exact ⟨by omega, a2, a3⟩
      · rw [if_neg c3] at e2; cases e2
    · rw [if_neg c2] at h
      exact aCmp_p hb h
theorem aFact_p {n d q c q' c' : Nat} {bs : Nat → Nat} {rt : Nat → Nat → Nat → Int ⊕ PS} {X : List Int} (hb : ∀ k, k < n → bs k < 256) (hr : RtP n rt) (hd : d ≤ 10) (hq : q ≤ n) (h : aFact n bs rt d q c = .inr (q', c', X)) : PrB n q c true q' c' X := by
  unfold aFact at h
  have hn := aNot_p hb (f := 11) (d := d) (q := q) hd (by omega) hq
  obtain ⟨q2, c2, Y, e1, e2⟩ := bS_i h
  cases e2
  obtain ⟨a1, a2, a3⟩ := aFx_p hb hr e1
  refine ⟨?_, fun x hx => ?_, fun t hl => ?_⟩
  · rw [List.length_append, List.length_replicate]
    omega
  · rw [List.mem_append, List.mem_replicate] at hx
    rcases hx with hx | hx
    · exact a2 x hx
    · rw [hx.2]; unfold okO; omega
  · rw [tyR_app (a3 t hl), tyR_nots (by omega)]
def ob (o : Bool) : Nat := if o = true then 1 else 0
def orT (o : Bool) (t : List Bool) : List Bool := if o = true then true :: t else t
def PrO (n q c : Nat) (o : Bool) (q' c' : Nat) (X : List Int) : Prop := (q < q' ∧ q' ≤ n ∧ c + 1 + ob o ≤ c' ∧ c' ≤ 60 ∧ X.length + ob o + q ≤ q' ∧ 3 * X.length + 3 * ob o + 3 + 6 * c + q ≤ 6 * c' + q') ∧ (∀ x, x ∈ X → okO x) ∧ ∀ t : List Bool, t.length + c' ≤ 60 + c → tyR X t = some (true :: orT o t)
theorem orT_l {o : Bool} {t : List Bool} : (orT o t).length = t.length + ob o := by
  unfold orT ob
  cases o <;> simp
theorem orX_l {o : Bool} : (orX o).length = ob o := by cases o <;> rfl
theorem orX_t {o : Bool} {t : List Bool} (h : t.length ≤ 59) : tyR (orX o) (true :: orT o t) = some (true :: t) := by
  cases o with
  | false => rfl
  | true => exact tyR_1 (t := true :: true :: t) rfl (by rw [List.length_cons]; omega)
theorem orX_m {o : Bool} {x : Int} (h : x ∈ orX o) : okO x := by
  cases o with
  | false => cases h
  | true =>
    have : x = -272 := List.mem_singleton.mp h
    subst this
    unfold okO
    decide
theorem PrO.fin {n q0 c0 q c : Nat} {o : Bool} {X : List Int} (h : PrO n q0 c0 o q c X) : PrB n q0 c0 true q c (X ++ orX o) := by
  obtain ⟨a1, a2, a3⟩ := h
  refine ⟨?_, fun x hx => ?_, fun t hl => ?_⟩
  · rw [List.length_append, orX_l]; omega
  · rcases List.mem_append.mp hx with hx | hx
    · exact a2 x hx
    · exact orX_m hx
  · rw [tyR_app (a3 t hl), orX_t (by omega)]
theorem PrO.and {n q0 c0 q c qm q1 c1 : Nat} {o : Bool} {X Y : List Int} (h1 : PrO n q0 c0 o q c X) (h2 : PrB n qm c true q1 c1 Y) (hq : q < qm) : PrO n q0 c0 o q1 c1 (X ++ Y ++ [-271]) := by
  obtain ⟨a1, a2, a3⟩ := h1
  obtain ⟨e1, e2, e3⟩ := h2
  refine ⟨?_, fun x hx => ?_, fun t hl => ?_⟩
  · rw [List.length_append, List.length_append, List.length_singleton]; omega
  · rw [List.mem_append, List.mem_append, List.mem_singleton] at hx
    rcases hx with (hx | hx) | hx
    · exact a2 x hx
    · exact e2 x hx
    · subst hx; unfold okO; omega
  · rw [List.append_assoc, tyR_app (a3 t (by omega)), tyR_app (e3 _ (by rw [List.length_cons, orT_l]; omega))]
    exact tyR_1 rfl (by rw [List.length_cons, orT_l]; omega)
theorem PrO.or {n q0 c0 q c qm q1 c1 : Nat} {o : Bool} {X Y : List Int} (h1 : PrO n q0 c0 o q c X) (h2 : PrB n qm c true q1 c1 Y) (hq : q < qm) : PrO n q0 c0 true q1 c1 (X ++ orX o ++ Y) := by
  have h3 := h1.fin
  obtain ⟨a1, a2, a3⟩ := h3
  obtain ⟨b1, -, -⟩ := h1
  obtain ⟨e1, e2, e3⟩ := h2
  rw [List.length_append, orX_l] at a1
  have ho : ob true = 1 := rfl
  refine ⟨?_, fun x hx => ?_, fun t hl => ?_⟩
  · rw [List.length_append, List.length_append, orX_l, ho]; omega
  · rcases List.mem_append.mp hx with hx | hx
    · exact a2 x hx
    · exact e2 x hx
  · rw [tyR_app (a3 t (by omega)), e3 _ (by rw [List.length_cons]; omega)]
    rfl
theorem aTs_p {n d q0 c0 q' c' : Nat} {bs : Nat → Nat} {rt : Nat → Nat → Nat → Int ⊕ PS} {X' : List Int} (hb : ∀ k, k < n → bs k < 256) (hr : RtP n rt) (hd : d ≤ 10) : ∀ {f q c : Nat} {o : Bool} {X : List Int}, aTs n bs rt d f o q c X = .inr (q', c', X') → PrO n q0 c0 o q c X → PrB n q0 c0 true q' c' X'
  | 0, _, _, _, _, h, hp => by unfold aTs at h; cases h; exact hp.fin
  | f + 1, q, c, o, X, h, hp => by
    unfold aTs at h
    by_cases v : tK n bs q = 271
    · rw [if_pos v] at h
      obtain ⟨q1, c1, Y, e1, e2⟩ := bS_i h
      have hq := nq_b (bs := bs) (tK_lt (n := n) (q := q) (bs := bs) (by omega))
      exact aTs_p hb hr hd e2 (hp.and (aFact_p hb hr hd (by omega) e1) (by omega))
    · rw [if_neg v] at h
      by_cases w : tK n bs q = 272
      · rw [if_pos w] at h
        obtain ⟨q1, c1, Y, e1, e2⟩ := bS_i h
        have hq := nq_b (bs := bs) (tK_lt (n := n) (q := q) (bs := bs) (by omega))
        exact aTs_p hb hr hd e2 (hp.or (aFact_p hb hr hd (by omega) e1) (by omega))
      · rw [if_neg w] at h
        cases h
        exact hp.fin
theorem PrB.o {n q c q' c' : Nat} {X : List Int} (h : PrB n q c true q' c' X) : PrO n q c false q' c' X := by
  obtain ⟨a1, a2, a3⟩ := h
  have ho : ob false = 0 := rfl
  exact ⟨by rw [ho]; omega, a2, a3⟩
theorem aTest_p {n : Nat} {bs : Nat → Nat} (hb : ∀ k, k < n → bs k < 256) : ∀ f, RtP n (aTest n bs f)
  | 0 => fun _ _ _ _ _ _ _ _ h => by unfold aTest at h; cases h
  | f + 1 => fun d q c q' c' X hd hq h => by
    unfold aTest at h
    have ih := aTest_p hb f
    obtain ⟨q1, c1, Y, e1, e2⟩ := bS_i h
    exact aTs_p hb ih hd e2 (aFact_p hb ih hd hq e1).o
