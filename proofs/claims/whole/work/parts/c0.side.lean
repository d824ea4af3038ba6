/-! TWO SMALL MACHINES side by side -/
def lR {α β : Type} (R : α → β → Prop) : List α → List β → Prop
  | [], [] => True
  | a :: x, b :: y => R a b ∧ lR R x y
  | _, _ => False
def aV {ρ σ : Type} (V : ρ → σ → Prop) : AV ρ → AV σ → Prop
  | .inl x, .inl y => x = y
  | .inr (.inl x), .inr (.inl y) => x = y
  | .inr (.inr none), .inr (.inr none) => True
  | .inr (.inr (some r)), .inr (.inr (some q)) => V r q
  | _, _ => False
def oV {ρ σ : Type} (V : ρ → σ → Prop) : Option (AV ρ) → Option (AV σ) → Prop
  | none, none => True
  | some v, some w => aV V v w
  | _, _ => False
theorem lR.nil {α β : Type} {R : α → β → Prop} {y : List β} (h : lR R [] y) : y = [] := by
  match y, h with
  | [], _ => rfl
theorem lR.cons {α β : Type} {R : α → β → Prop} {a : α} {x : List α} {y : List β} (h : lR R (a :: x) y) : ∃ b z, y = b :: z ∧ R a b ∧ lR R x z := by
  match y, h with
  | b :: z, h => exact ⟨b, z, rfl, h.1, h.2⟩
theorem lR.len {α β : Type} {R : α → β → Prop} : ∀ {x : List α} {y : List β}, lR R x y → x.length = y.length
  | [], [], _ => rfl
  | _ :: x, _ :: y, h => congrArg (· + 1) (lR.len (x := x) (y := y) h.2)
theorem lR.get {α β : Type} {R : α → β → Prop} : ∀ {x : List α} {y : List β} {i : Nat} {a : α}, lR R x y → x[i]? = some a → ∃ b, y[i]? = some b ∧ R a b
  | [], _, _, _, _, h => by cases h
  | a :: x, b :: y, 0, _, h, hx => by cases hx; exact ⟨b, rfl, h.1⟩
  | a :: x, b :: y, i + 1, v, h, hx => lR.get (x := x) (y := y) (i := i) h.2 hx
theorem lR.getn {α β : Type} {R : α → β → Prop} {x : List α} {y : List β} {i : Nat} (h : lR R x y) (hx : x[i]? = none) : y[i]? = none := by
  have := h.len
  simp only [List.getElem?_eq_none_iff] at hx ⊢
  omega
theorem lR.set {α β : Type} {R : α → β → Prop} {a : α} {b : β} (hab : R a b) : ∀ {x : List α} {y : List β} {i : Nat}, lR R x y → lR R (x.set i a) (y.set i b)
  | [], [], _, _ => trivial
  | _ :: x, _ :: y, 0, h => ⟨hab, h.2⟩
  | _ :: x, _ :: y, i + 1, h => ⟨h.1, lR.set hab (x := x) (y := y) h.2⟩
theorem lR.app {α β : Type} {R : α → β → Prop} {u : List α} {v : List β} (h' : lR R u v) : ∀ {x : List α} {y : List β}, lR R x y → lR R (x ++ u) (y ++ v)
  | [], [], _ => h'
  | _ :: x, _ :: y, h => ⟨h.1, lR.app h' (x := x) (y := y) h.2⟩
theorem lR.take {α β : Type} {R : α → β → Prop} : ∀ {x : List α} {y : List β} {n : Nat}, lR R x y → lR R (x.take n) (y.take n)
  | [], [], n, _ => by rw [List.take_nil, List.take_nil]; trivial
  | _ :: x, _ :: y, 0, _ => trivial
  | _ :: x, _ :: y, n + 1, h => ⟨h.1, lR.take (x := x) (y := y) h.2⟩
theorem lR.drop {α β : Type} {R : α → β → Prop} : ∀ {x : List α} {y : List β} {n : Nat}, lR R x y → lR R (x.drop n) (y.drop n)
  | [], [], n, _ => by rw [List.drop_nil, List.drop_nil]; trivial
  | _ :: x, _ :: y, 0, h => h
  | _ :: x, _ :: y, n + 1, h => lR.drop (x := x) (y := y) h.2
theorem lR.rev {α β : Type} {R : α → β → Prop} : ∀ {x : List α} {y : List β}, lR R x y → lR R x.reverse y.reverse
  | [], [], _ => trivial
  | a :: x, b :: y, h => by
    rw [List.reverse_cons, List.reverse_cons]
    exact lR.app (show lR R [a] [b] from ⟨h.1, trivial⟩) (lR.rev (x := x) (y := y) h.2)
theorem lR.mono {α β : Type} {R Q : α → β → Prop} (hRQ : ∀ a b, R a b → Q a b) : ∀ {x : List α} {y : List β}, lR R x y → lR Q x y
  | [], [], _ => trivial
  | a :: x, b :: y, h => ⟨hRQ a b h.1, lR.mono hRQ (x := x) (y := y) h.2⟩
theorem aV.mono {ρ σ : Type} {V W : ρ → σ → Prop} (hVW : ∀ a b, V a b → W a b) : ∀ {v : AV ρ} {w : AV σ}, aV V v w → aV W v w
  | .inl _, .inl _, h => h
  | .inr (.inl _), .inr (.inl _), h => h
  | .inr (.inr none), .inr (.inr none), _ => trivial
  | .inr (.inr (some _)), .inr (.inr (some _)), h => hVW _ _ h
theorem oV.mono {ρ σ : Type} {V W : ρ → σ → Prop} (hVW : ∀ a b, V a b → W a b) : ∀ {v : Option (AV ρ)} {w : Option (AV σ)}, oV V v w → oV W v w
  | none, none, _ => trivial
  | some _, some _, h => aV.mono hVW h
theorem aV.int {ρ σ : Type} {V : ρ → σ → Prop} {x : Int} {w : AV σ} (h : aV V (.inl x) w) : w = .inl x := by
  match w, h with
  | .inl y, h => rw [show x = y from h]
theorem aV.long {ρ σ : Type} {V : ρ → σ → Prop} {x : Int} {w : AV σ} (h : aV V (.inr (.inl x)) w) : w = .inr (.inl x) := by
  match w, h with
  | .inr (.inl y), h => rw [show x = y from h]
theorem aV.null {ρ σ : Type} {V : ρ → σ → Prop} {w : AV σ} (h : aV V (.inr (.inr none)) w) : w = .inr (.inr none) := by
  match w, h with
  | .inr (.inr none), _ => rfl
theorem aV.ref {ρ σ : Type} {V : ρ → σ → Prop} {r : ρ} {w : AV σ} (h : aV V (.inr (.inr (some r))) w) : ∃ q, w = .inr (.inr (some q)) ∧ V r q := by
  match w, h with
  | .inr (.inr (some q)), h => exact ⟨q, rfl, h⟩
theorem aV.any {ρ σ : Type} {V : ρ → σ → Prop} {u : Option ρ} {w : AV σ} (h : aV V (.inr (.inr u)) w) : ∃ q, w = .inr (.inr q) := by
  match u, w, h with
  | none, .inr (.inr none), _ => exact ⟨_, rfl⟩
  | some _, .inr (.inr (some q)), _ => exact ⟨_, rfl⟩
theorem aV.ty {ρ σ : Type} {V : ρ → σ → Prop} {t : Nat} : ∀ {v : AV ρ} {w : AV σ}, aV V v w → am_ty t v = am_ty t w
  | .inl _, .inl _, _ => by
    match t with
    | 0 => rfl
    | 1 => rfl
    | 2 => rfl
    | _ + 3 => rfl
  | .inr (.inl _), .inr (.inl _), _ => by
    match t with
    | 0 => rfl
    | 1 => rfl
    | 2 => rfl
    | _ + 3 => rfl
  | .inr (.inr none), .inr (.inr none), _ => by
    match t with
    | 0 => rfl
    | 1 => rfl
    | 2 => rfl
    | _ + 3 => rfl
  | .inr (.inr (some _)), .inr (.inr (some _)), _ => by
    match t with
    | 0 => rfl
    | 1 => rfl
    | 2 => rfl
    | _ + 3 => rfl
theorem aV.isL {ρ σ : Type} {V : ρ → σ → Prop} : ∀ {v : AV ρ} {w : AV σ}, aV V v w → am_isL v = am_isL w
  | .inl _, .inl _, _ => rfl
  | .inr (.inl _), .inr (.inl _), _ => rfl
  | .inr (.inr none), .inr (.inr none), _ => rfl
  | .inr (.inr (some _)), .inr (.inr (some _)), _ => rfl
theorem lR.cat {ρ σ : Type} {V : ρ → σ → Prop} : ∀ {S : List (AV ρ)} {T : List (AV σ)}, lR (aV V) S T → (S.map am_cat).sum = (T.map am_cat).sum
  | [], [], _ => rfl
  | v :: S, w :: T, h => by
    have e : am_cat v = am_cat w := by unfold am_cat; rw [h.1.isL]
    simp only [List.map_cons, List.sum_cons]
    rw [e, lR.cat (S := S) (T := T) h.2]
theorem lR.small {ρ σ : Type} {V : ρ → σ → Prop} {S : List (AV ρ)} {T : List (AV σ)} (h : lR (aV V) S T) : am_small S = am_small T := by
  unfold am_small
  rw [h.cat]
theorem am_kill_sim {ρ σ : Type} {V : ρ → σ → Prop} {L : am_L ρ} {M : am_L σ} (x : Nat) (h : lR (oV V) L M) : lR (oV V) (am_kill x L) (am_kill x M) := by
  cases x with
  | zero => exact h
  | succ y =>
    unfold am_kill
    simp only
    cases e : L[y]? with
    | none => rw [h.getn e]; exact h
    | some u =>
      obtain ⟨w, hw, hu⟩ := h.get e
      rw [hw]
      match u, w, hu with
      | none, none, _ => exact h
      | some (.inl _), some (.inl _), _ => exact h
      | some (.inr (.inl _)), some (.inr (.inl _)), _ => exact lR.set (R := oV V) (a := none) (b := none) trivial h
      | some (.inr (.inr none)), some (.inr (.inr none)), _ => exact h
      | some (.inr (.inr (some _))), some (.inr (.inr (some _))), _ => exact h
theorem am_st_sim {ρ σ : Type} {V : ρ → σ → Prop} {x : Nat} {v : AV ρ} {w : AV σ} {L L1 : am_L ρ} {M : am_L σ} (h : lR (oV V) L M) (hv : aV V v w) (hs : am_st x v L = some L1) : ∃ M1, am_st x w M = some M1 ∧ lR (oV V) L1 M1 := by
  have hl := h.len
  have one : ∀ {v : AV ρ} {w : AV σ}, aV V v w → (if x < L.length then some ((am_kill x L).set x (some v)) else none) = some L1 → ∃ M1, (if x < M.length then some ((am_kill x M).set x (some w)) else none) = some M1 ∧ lR (oV V) L1 M1 := fun {v w} hv hs => by
    by_cases c : x < L.length
    · rw [if_pos c] at hs
      cases hs
      rw [if_pos (by omega)]
      exact ⟨_, rfl, lR.set (R := oV V) (a := some v) (b := some w) hv (am_kill_sim x h)⟩
    · rw [if_neg c] at hs; cases hs
  match v, w, hv with
  | .inl a, .inl b, hv => exact one hv hs
  | .inr (.inr none), .inr (.inr none), hv => exact one hv hs
  | .inr (.inr (some a)), .inr (.inr (some b)), hv => exact one hv hs
  | .inr (.inl a), .inr (.inl b), hv =>
    have hs : (if x + 1 < L.length then some (((am_kill x L).set x (some (.inr (.inl a)))).set (x + 1) none) else none) = some L1 := hs
    show ∃ M1, (if x + 1 < M.length then some (((am_kill x M).set x (some (.inr (.inl b)))).set (x + 1) none) else none) = some M1 ∧ _
    by_cases c : x + 1 < L.length
    · rw [if_pos c] at hs
      cases hs
      rw [if_pos (by omega)]
      exact ⟨_, rfl, lR.set (R := oV V) (a := none) (b := none) trivial (lR.set (R := oV V) (a := some (.inr (.inl a))) (b := some (.inr (.inl b))) hv (am_kill_sim x h))⟩
    · rw [if_neg c] at hs; cases hs
theorem am_p_sim {ρ σ : Type} {V : ρ → σ → Prop} {op x y : Nat} {im : Int} {tb : List (Int × Nat)} {nx pc' : Nat} {L L1 : am_L ρ} {M : am_L σ} {S S1 : List (AV ρ)} {T : List (AV σ)} (hL : lR (oV V) L M) (hS : lR (aV V) S T) (hp : am_p op x y im tb nx L S = some (pc', L1, S1)) : ∃ M1 T1, am_p op x y im tb nx M T = some (pc', M1, T1) ∧ lR (oV V) L1 M1 ∧ lR (aV V) S1 T1 := by
  unfold am_p at hp ⊢
  split at hp
  · cases hp; exact ⟨M, _, rfl, hL, rfl, hS⟩
  · cases hp; exact ⟨M, _, rfl, hL, rfl, hS⟩
  · cases hp; exact ⟨M, _, rfl, hL, trivial, hS⟩
  · split at hp
    · rename_i v hv
      obtain ⟨w, hw, hu⟩ := hL.get hv
      match w, hw, hu with
      | some w, hw, hu =>
        have hu : aV V v w := hu
        split at hp
        · rename_i ht
          cases hp
          refine ⟨M, w :: T, ?_, hL, hu, hS⟩
          simp only [hw]
          rw [if_pos (by rw [← hu.ty]; exact ht)]
        · cases hp
    · cases hp
  · split at hp
    · rename_i v S'
      obtain ⟨w, T', rfl, hu, hS'⟩ := hS.cons
      split at hp
      · rename_i ht
        split at hp
        · rename_i L' hs
          cases hp
          obtain ⟨M', h1, h2⟩ := am_st_sim hL hu hs
          refine ⟨M', T', ?_, h2, hS'⟩
          simp only
          rw [if_pos (by rw [← hu.ty]; exact ht), h1]
        · cases hp
      · cases hp
    · cases hp
  · split at hp
    · rename_i v hv
      obtain ⟨w, hw, hu⟩ := hL.get hv
      match w, hw, hu with
      | some w, hw, hu =>
        have hu : aV V (.inl v) w := hu
        obtain rfl := hu.int
        cases hp
        refine ⟨_, T, ?_, lR.set (R := oV V) (a := some (vI (jadd v im))) (b := some (vI (jadd v im))) rfl hL, hS⟩
        simp only [hw]
    · cases hp
  · split at hp
    · rename_i b a S'
      obtain ⟨w1, T1, rfl, h1, hS1⟩ := hS.cons
      obtain ⟨w2, T2, rfl, h2, hS2⟩ := hS1.cons
      obtain rfl := h1.int
      obtain rfl := h2.int
      split at hp
      · rename_i r e
        cases hp
        refine ⟨M, vI r :: T2, ?_, hL, rfl, hS2⟩
        simp only [e]
      · cases hp
    · cases hp
  · split at hp
    · rename_i a S'
      obtain ⟨w1, T1, rfl, h1, hS1⟩ := hS.cons
      obtain rfl := h1.int
      split at hp
      · rename_i r e
        cases hp
        refine ⟨M, vI r :: T1, ?_, hL, rfl, hS1⟩
        simp only [e]
      · cases hp
    · cases hp
  · split at hp
    · obtain ⟨w1, T1, rfl, h1, hS1⟩ := hS.cons
      obtain rfl := h1.int
      cases hp
      exact ⟨M, _, rfl, hL, rfl, hS1⟩
    · cases hp
  · split at hp
    · obtain ⟨w1, T1, rfl, h1, hS1⟩ := hS.cons
      obtain rfl := h1.long
      cases hp
      exact ⟨M, _, rfl, hL, rfl, hS1⟩
    · cases hp
  · split at hp
    · rename_i b a S'
      obtain ⟨w1, T1, rfl, h1, hS1⟩ := hS.cons
      obtain ⟨w2, T2, rfl, h2, hS2⟩ := hS1.cons
      obtain rfl := h1.long
      obtain rfl := h2.long
      split at hp
      · rename_i r e
        cases hp
        refine ⟨M, vL r :: T2, ?_, hL, rfl, hS2⟩
        simp only [e]
      · cases hp
    · cases hp
  · split at hp
    · obtain ⟨w1, T1, rfl, h1, hS1⟩ := hS.cons
      obtain ⟨w2, T2, rfl, h2, hS2⟩ := hS1.cons
      obtain rfl := h1.long
      obtain rfl := h2.long
      cases hp
      exact ⟨M, _, rfl, hL, rfl, hS2⟩
    · cases hp
  · split at hp
    · obtain ⟨w1, T1, rfl, h1, hS1⟩ := hS.cons
      obtain rfl := h1.int
      cases hp
      exact ⟨M, _, rfl, hL, rfl, rfl, hS1⟩
    · obtain ⟨w1, T1, rfl, h1, hS1⟩ := hS.cons
      obtain ⟨q, rfl⟩ := h1.any
      cases hp
      exact ⟨M, _, rfl, hL, h1, h1, hS1⟩
    · cases hp
  · split at hp
    · obtain ⟨w1, T1, rfl, h1, hS1⟩ := hS.cons
      obtain ⟨w2, T2, rfl, h2, hS2⟩ := hS1.cons
      obtain rfl := h1.int
      obtain ⟨q, rfl⟩ := h2.any
      cases hp
      exact ⟨M, _, rfl, hL, rfl, h2, rfl, h2, hS2⟩
    · cases hp
  · split at hp
    · obtain ⟨w1, T1, rfl, h1, hS1⟩ := hS.cons
      obtain rfl := h1.int
      cases hp
      exact ⟨M, _, rfl, hL, hS1⟩
    · obtain ⟨w1, T1, rfl, h1, hS1⟩ := hS.cons
      obtain ⟨q, rfl⟩ := h1.any
      cases hp
      exact ⟨M, _, rfl, hL, hS1⟩
    · cases hp
  · split at hp
    · obtain ⟨w1, T1, rfl, h1, hS1⟩ := hS.cons
      obtain ⟨w2, T2, rfl, h2, hS2⟩ := hS1.cons
      obtain rfl := h1.int
      obtain rfl := h2.int
      cases hp
      exact ⟨M, _, rfl, hL, hS2⟩
    · cases hp
  · split at hp
    · obtain ⟨w1, T1, rfl, h1, hS1⟩ := hS.cons
      obtain rfl := h1.int
      cases hp
      exact ⟨M, _, rfl, hL, hS1⟩
    · cases hp
  · split at hp
    · obtain ⟨w1, T1, rfl, h1, hS1⟩ := hS.cons
      obtain rfl := h1.null
      cases hp
      exact ⟨M, _, rfl, hL, hS1⟩
    · obtain ⟨w1, T1, rfl, h1, hS1⟩ := hS.cons
      obtain ⟨q, rfl, -⟩ := h1.ref
      cases hp
      exact ⟨M, _, rfl, hL, hS1⟩
    · cases hp
  · cases hp; exact ⟨M, _, rfl, hL, hS⟩
  · split at hp
    · obtain ⟨w1, T1, rfl, h1, hS1⟩ := hS.cons
      obtain rfl := h1.int
      cases hp
      exact ⟨M, _, rfl, hL, hS1⟩
    · cases hp
  · cases hp
theorem am_loc_sim {ρ σ : Type} {V : ρ → σ → Prop} : ∀ {n : Nat} {S : List (AV ρ)} {T : List (AV σ)}, lR (aV V) S T → lR (oV V) (am_loc n S) (am_loc n T)
  | n, [], [], _ => by
    show lR (oV V) (List.replicate n none) (List.replicate n none)
    induction n with
    | zero => trivial
    | succ n ih => exact ⟨trivial, ih⟩
  | n, v :: S, w :: T, h => by
    unfold am_loc
    rw [← h.1.isL]
    split
    · exact ⟨h.1, trivial, am_loc_sim (S := S) (T := T) h.2⟩
    · exact ⟨h.1, am_loc_sim (S := S) (T := T) h.2⟩
theorem am_rok_sim {ρ σ : Type} {V : ρ → σ → Prop} {x : Nat} {v : AV ρ} {w : AV σ} (hu : aV V v w) : am_rok x v = am_rok x w := by
  match v, w, hu with
  | .inl a, .inl b, hu =>
    have hu : a = b := hu
    subst hu
    match x with
    | 0 => rfl
    | 1 => rfl
    | 2 => rfl
    | 3 => rfl
    | 4 => rfl
    | _ + 5 => rfl
  | .inr (.inl a), .inr (.inl b), hu =>
    match x with
    | 0 => rfl
    | 1 => rfl
    | 2 => rfl
    | 3 => rfl
    | 4 => rfl
    | _ + 5 => rfl
  | .inr (.inr none), .inr (.inr none), hu =>
    match x with
    | 0 => rfl
    | 1 => rfl
    | 2 => rfl
    | 3 => rfl
    | 4 => rfl
    | _ + 5 => rfl
  | .inr (.inr (some _)), .inr (.inr (some _)), hu =>
    match x with
    | 0 => rfl
    | 1 => rfl
    | 2 => rfl
    | 3 => rfl
    | 4 => rfl
    | _ + 5 => rfl
theorem am_run_pg {ρ μ : Type} {P : Nat → Nat → Option (am_I × Nat)} {NL : Nat → Nat} {mem : Nat → Nat → List (AV ρ) → μ → Option (Option (AV ρ) × μ)} {n d k pc op x y nx pc' : Nat} {im : Int} {tb : List (Int × Nat)} {L L' : am_L ρ} {S S' : List (AV ρ)} {m : μ} (hk : P k pc = some ((op, x, y, im, tb), nx)) (ho : (op = 21 → False) ∧ (op = 22 → False) ∧ (op = 23 → False) ∧ (op = 24 → False)) (hp : am_p op x y im tb nx L S = some (pc', L', S')) : am_run P NL mem (n + 1) d k pc L S m = am_run P NL mem n d k pc' L' S' m := by
  obtain ⟨h1, h2, h3, h4⟩ := ho
  conv => lhs; unfold am_run
  rw [hk]
  simp only
  rw [hp]
/-- what the two memories have to do with one another: c says how far things are -/
def memS {ρ σ μ ν : Type} (V : Nat → ρ → σ → Prop) (I : Nat → μ → ν → Prop) (mA : Nat → Nat → List (AV ρ) → μ → Option (Option (AV ρ) × μ)) (mB : Nat → Nat → List (AV σ) → ν → Option (Option (AV σ) × ν)) (kind idx : Nat) : Prop := ∀ (c : Nat) (a a' : μ) (b : ν) (S : List (AV ρ)) (T : List (AV σ)) (rv : Option (AV ρ)), I c a b → lR (aV (V c)) S T → mA kind idx S a = some (rv, a') → ∃ c' rw b', c ≤ c' ∧ mB kind idx T b = some (rw, b') ∧ I c' a' b' ∧ oV (V c') rv rw
theorem am_run_sim {ρ σ μ ν : Type} {V : Nat → ρ → σ → Prop} {I : Nat → μ → ν → Prop} {PA PB : Nat → Nat → Option (am_I × Nat)} {NL : Nat → Nat} {mA : Nat → Nat → List (AV ρ) → μ → Option (Option (AV ρ) × μ)} {mB : Nat → Nat → List (AV σ) → ν → Option (Option (AV σ) × ν)} {D : Nat}
    (hV : ∀ c c' r q, c ≤ c' → V c r q → V c' r q)
    (hP : ∀ k pc i nx, PA k pc = some (i, nx) → PB k pc = some (i, nx) ∨ (k = 152 ∧ pc = 22 ∧ i = (24, 30, 0, 8, []) ∧ nx = 29))
    (hM : ∀ kind idx, kind ≠ 30 → memS V I mA mB kind idx)
    (hX : ∀ (c : Nat) (a a' : μ) (b : ν) (rv : Option (AV ρ)), I c a b → mA 30 8 [] a = some (rv, a') → ∃ c' rw b', c ≤ c' ∧ I c' a' b' ∧ oV (V c') rv rw ∧ ∀ (n d : Nat) (L : am_L σ) (S : List (AV σ)) (o : Option (AV σ) × ν), am_small S = true → am_run PB NL mB n (d + 1 + D) 152 29 L (rw.toList ++ S) b' = some o → ∃ n', am_run PB NL mB n' (d + 1 + D) 152 22 L S b = some o)
    (h30 : ∀ k pc x y im tb nx, PB k pc = some ((24, x, y, im, tb), nx) → x ≠ 30) :
    ∀ (n d k pc : Nat) (L : am_L ρ) (S : List (AV ρ)) (M : am_L σ) (T : List (AV σ)) (c : Nat) (a a' : μ) (b : ν) (rv : Option (AV ρ)), I c a b → lR (oV (V c)) L M → lR (aV (V c)) S T → am_run PA NL mA n d k pc L S a = some (rv, a') → ∃ n' c' rw b', c ≤ c' ∧ am_run PB NL mB n' (d + D) k pc M T b = some (rw, b') ∧ I c' a' b' ∧ oV (V c') rv rw
  | 0, _, _, _, _, _, _, _, _, _, _, _, _, _, _, _, h => by cases h
  | n + 1, d, k, pc, L, S, M, T, c, a, a', b, rv, hI, hL, hS, h => by
    have IH := fun (d k pc : Nat) (L : am_L ρ) (S : List (AV ρ)) (M : am_L σ) (T : List (AV σ)) (c : Nat) (a a' : μ) (b : ν) (rv : Option (AV ρ)) hI hL hS h => am_run_sim hV hP hM hX h30 n d k pc L S M T c a a' b rv hI hL hS h
    unfold am_run at h
    split at h
    · cases h
    · rename_i op x y im tb nx hk
      rcases hP _ _ _ _ hk with hk' | ⟨e1, e2, e3, e4⟩
      · split at h
        · split at h
          · cases h
          · rename_i d'
            split at h
            · rename_i hc
              split at h
              · cases h
              · rename_i rv1 a1 hr
                obtain ⟨n1, c1, rw1, b1, g1, g2, g3, g4⟩ := IH _ _ _ _ _ _ _ _ _ _ _ _ hI (am_loc_sim (hS.take (n := y)).rev) (show lR (aV (V c)) [] [] from trivial) hr
                have hL1 : lR (oV (V c1)) L M := hL.mono fun _ _ h => h.mono fun _ _ => hV _ _ _ _ g1
                have hS1 : lR (aV (V c1)) S T := hS.mono fun _ _ h => h.mono fun _ _ => hV _ _ _ _ g1
                have hS2 : lR (aV (V c1)) (rv1.toList ++ S.drop y) (rw1.toList ++ T.drop y) := lR.app hS1.drop (by
                  match rv1, rw1, g4 with
                  | none, none, _ => trivial
                  | some _, some _, g => exact ⟨g, trivial⟩)
                obtain ⟨n2, c2, rw2, b2, k1, k2, k3, k4⟩ := IH _ _ _ _ _ _ _ _ _ _ _ _ g3 hL1 hS2 h
                refine ⟨max n1 n2 + 1, c2, rw2, b2, by omega, ?_, k3, k4⟩
                rw [show d' + 1 + D = (d' + D) + 1 by omega] at k2 ⊢
                unfold am_run
                rw [hk']
                simp only
                have hcB : y ≤ T.length ∧ am_small (T.drop y) = true ∧ ((T.take y).map am_cat).sum ≤ NL x ∧ (im = 1 ∨ (mB 17 x ((T.take y).reverse.take 1) b).isSome = true) := by
                  obtain ⟨w1, w2, w3, w4⟩ := hc
                  refine ⟨by rw [← hS.len]; exact w1, by rw [← (hS.drop (n := y)).small]; exact w2, by rw [← (hS.take (n := y)).cat]; exact w3, ?_⟩
                  rcases w4 with w4 | w4
                  · exact Or.inl w4
                  · obtain ⟨⟨u1, u2⟩, hu⟩ := Option.isSome_iff_exists.mp w4
                    obtain ⟨_, _, _, -, hm, -⟩ := hM 17 x (by decide) c a _ b _ _ _ hI ((hS.take (n := y)).rev.take (n := 1)) hu
                    exact Or.inr (by rw [hm]; rfl)
                rw [if_pos hcB, am_run_mono _ (max n1 n2) _ _ _ _ _ _ _ _ (by omega) (Nat.le_refl _) g2]
                exact am_run_mono _ (max n1 n2) _ _ _ _ _ _ _ _ (by omega) (Nat.le_refl _) k2
            · cases h
        · rcases S with _ | ⟨v, _ | ⟨v2, S'⟩⟩
          · cases h
          · obtain ⟨w, T', rfl, hu, hS'⟩ := hS.cons
            obtain rfl := hS'.nil
            have h : (if am_rok x v = true then some (some v, a) else none) = some (rv, a') := h
            split at h
            · rename_i hc
              cases h
              refine ⟨1, c, some w, b, Nat.le_refl _, ?_, hI, hu⟩
              unfold am_run
              rw [hk']
              simp only
              rw [am_rok_sim hu] at hc
              unfold am_rok at hc
              exact if_pos hc
            · cases h
          · cases h
        · split at h
          · cases h
            obtain rfl := hS.nil
            refine ⟨1, c, none, b, Nat.le_refl _, ?_, hI, trivial⟩
            unfold am_run
            rw [hk']
            rfl
          · cases h
        · split at h
          · cases h
          · rename_i d'
            split at h
            · rename_i hc
              split at h
              · cases h
              · rename_i rv1 a1 hr
                obtain ⟨c1, rw1, b1, g1, g2, g3, g4⟩ := hM x im.toNat (h30 _ _ _ _ _ _ _ hk') c a a1 b _ _ _ hI ((hS.take (n := y)).rev) hr
                have hL1 : lR (oV (V c1)) L M := hL.mono fun _ _ h => h.mono fun _ _ => hV _ _ _ _ g1
                have hS1 : lR (aV (V c1)) S T := hS.mono fun _ _ h => h.mono fun _ _ => hV _ _ _ _ g1
                have hS2 : lR (aV (V c1)) (rv1.toList ++ S.drop y) (rw1.toList ++ T.drop y) := lR.app hS1.drop (by
                  match rv1, rw1, g4 with
                  | none, none, _ => trivial
                  | some _, some _, g => exact ⟨g, trivial⟩)
                obtain ⟨n2, c2, rw2, b2, k1, k2, k3, k4⟩ := IH _ _ _ _ _ _ _ _ _ _ _ _ g3 hL1 hS2 h
                refine ⟨n2 + 1, c2, rw2, b2, by omega, ?_, k3, k4⟩
                rw [show d' + 1 + D = (d' + D) + 1 by omega] at k2 ⊢
                unfold am_run
                rw [hk']
                simp only
                rw [if_pos ⟨by rw [← hS.len]; exact hc.1, by rw [← (hS.drop (n := y)).small]; exact hc.2⟩, g2]
                exact k2
            · cases h
        · rename_i h21 h22 h23 h24
          split at h
          · cases h
          · rename_i pc' L' S' hp
            obtain ⟨M1, T1, p1, p2, p3⟩ := am_p_sim hL hS hp
            obtain ⟨n2, c2, rw2, b2, k1, k2, k3, k4⟩ := IH _ _ _ _ _ _ _ _ _ _ _ _ hI p2 p3 h
            refine ⟨n2 + 1, c2, rw2, b2, k1, ?_, k3, k4⟩
            rw [am_run_pg hk' ⟨h21, h22, h23, h24⟩ p1]
            exact k2
      · subst e1 e2 e4
        cases e3
        simp only at h
        split at h
        · cases h
        · rename_i d'
          split at h
          · rename_i hc
            split at h
            · cases h
            · rename_i rv1 a1 hr
              have hr : mA 30 8 [] a = some (rv1, a1) := hr
              obtain ⟨c1, rw1, b1, g1, g3, g4, g5⟩ := hX c a a1 b rv1 hI hr
              have hL1 : lR (oV (V c1)) L M := hL.mono fun _ _ h => h.mono fun _ _ => hV _ _ _ _ g1
              have hS1 : lR (aV (V c1)) S T := hS.mono fun _ _ h => h.mono fun _ _ => hV _ _ _ _ g1
              have hS2 : lR (aV (V c1)) (rv1.toList ++ S.drop 0) (rw1.toList ++ T.drop 0) := lR.app hS1.drop (by
                match rv1, rw1, g4 with
                | none, none, _ => trivial
                | some _, some _, g => exact ⟨g, trivial⟩)
              obtain ⟨n2, c2, rw2, b2, k1, k2, k3, k4⟩ := IH _ _ _ _ _ _ _ _ _ _ _ _ g3 hL1 hS2 h
              have hsm : am_small T = true := by rw [← hS.small]; exact hc.2
              obtain ⟨n3, k5⟩ := g5 n2 d' M T _ hsm k2
              exact ⟨n3, c2, rw2, b2, by omega, k5, k3, k4⟩
          · cases h
