/-! THE PROGRAM AS FUNCTIONS: what the functions are made of, and how the small machine follows them -/
def am_fu : Nat := 1000000
def gd {α : Type} (c : Prop) [Decidable c] (e : Option α) : Option α := if c then e else none
def bnd {α β : Type} (a : α) (k : α → β) : β := k a
def ld {α : Type} (s : S2) (f i n : Nat) (x : Int) (k : Int → Option α) : Option α := if 0 ≤ x ∧ x < n then k (s f i x.toNat) else none
def sto {α : Type} (s : S2) (f i n : Nat) (x v : Int) (k : S2 → Option α) : Option α := if 0 ≤ x ∧ x < n then k (st2 s f i x.toNat v) else none
def cR {α β : Type} (x : Option (α × S2)) (k : α → S2 → Option β) : Option β := match x with
  | none => none
  | some (r, s) => k r s
def cP {α β : Type} (x : Option α) (k : α → Option β) : Option β := match x with
  | none => none
  | some r => k r
def itr {α β : Type} (b : α → Option (α ⊕ β)) : Nat → α → Option β
  | 0, _ => none
  | n + 1, a => match b a with
    | none => none
    | some (.inl a') => itr b n a'
    | some (.inr r) => some r
def jn {α β : Type} (r : α) (b : α → β) : β := b r
def se {α β γ : Type} (k1 : α → γ) (k2 : β → γ) (x : α ⊕ β) : γ := match x with
  | .inl a => k1 a
  | .inr b => k2 b
/-! runs -/
def Go (X : X2) (d k pc : Nat) (L : am_L R2) (S : List (AV R2)) (s : S2) (o : Option (AV R2) × S2) : Prop := ∃ n, am_run am_P2 am_nl (m2 X) n d k pc L S s = some o
def J {α : Type} (e : Option α) (K : α → Prop) (G : Prop) : Prop := ∀ x, e = some x → K x → G
theorem am_run_mono {ρ μ : Type} {P : Nat → Nat → Option (am_I × Nat)} {NL : Nat → Nat} {mem : Nat → Nat → List (AV ρ) → μ → Option (Option (AV ρ) × μ)} : ∀ (n n' d d' k pc : Nat) (L : am_L ρ) (S : List (AV ρ)) (m : μ) (o : Option (AV ρ) × μ), n ≤ n' → d ≤ d' → am_run P NL mem n d k pc L S m = some o → am_run P NL mem n' d' k pc L S m = some o
  | 0, _, _, _, _, _, _, _, _, _, _, _, h => by cases h
  | n + 1, 0, _, _, _, _, _, _, _, _, hn, _, _ => by omega
  | n + 1, n' + 1, d, d', k, pc, L, S, m, o, hn, hd, h => by
    have IH : ∀ (d d' k pc : Nat) (L : am_L ρ) (S : List (AV ρ)) (m : μ) (o : Option (AV ρ) × μ), d ≤ d' → am_run P NL mem n d k pc L S m = some o → am_run P NL mem n' d' k pc L S m = some o := fun d d' k pc L S m o hd h => am_run_mono n n' d d' k pc L S m o (Nat.le_of_succ_le_succ hn) hd h
    unfold am_run at h ⊢
    split at h
    · cases h
    · split at h
      · split at h
        · cases h
        · rename_i d0
          match d', hd with
          | d1 + 1, hd =>
            simp only
            split at h
            · rename_i hc
              rw [if_pos hc]
              split at h
              · cases h
              · rename_i hr
                rw [IH _ _ _ _ _ _ _ _ (Nat.le_of_succ_le_succ hd) hr]
                exact IH _ _ _ _ _ _ _ _ hd h
            · cases h
      · exact h
      · exact h
      · split at h
        · cases h
        · rename_i d0
          match d', hd with
          | d1 + 1, hd =>
            simp only
            split at h
            · rename_i hc
              rw [if_pos hc]
              split at h
              · cases h
              · exact IH _ _ _ _ _ _ _ _ hd h
            · cases h
      · split at h
        · cases h
        · exact IH _ _ _ _ _ _ _ _ hd h
theorem Go.mono {X : X2} {d d' k pc : Nat} {L : am_L R2} {S : List (AV R2)} {s : S2} {o : Option (AV R2) × S2} (h : Go X d k pc L S s o) (hd : d ≤ d') : Go X d' k pc L S s o := h.imp fun _ h => am_run_mono _ _ _ _ _ _ _ _ _ _ (Nat.le_refl _) hd h
/-! locals that are no longer of use -/
def am_lle {ρ : Type} : am_L ρ → am_L ρ → Prop
  | [], [] => True
  | none :: a, _ :: b => am_lle a b
  | some v :: a, w :: b => w = some v ∧ am_lle a b
  | _, _ => False
theorem am_lle.rf {ρ : Type} : ∀ {L : am_L ρ}, am_lle L L
  | [] => trivial
  | none :: L => am_lle.rf (L := L)
  | some _ :: L => ⟨rfl, am_lle.rf (L := L)⟩
theorem am_lle.len {ρ : Type} : ∀ {L L' : am_L ρ}, am_lle L L' → L.length = L'.length
  | [], [], _ => rfl
  | none :: a, _ :: b, h => congrArg (· + 1) (am_lle.len (L := a) (L' := b) h)
  | some _ :: a, _ :: b, h => congrArg (· + 1) (am_lle.len (L := a) (L' := b) h.2)
  | [], _ :: _, h => h.elim
theorem am_lle.get {ρ : Type} : ∀ {L L' : am_L ρ} {x : Nat} {v : AV ρ}, am_lle L L' → L[x]? = some (some v) → L'[x]? = some (some v)
  | [], _, _, _, _, h => by cases h
  | none :: a, _ :: b, 0, _, _, h => by cases h
  | none :: a, _ :: b, x + 1, v, h, hx => am_lle.get (L := a) (L' := b) (x := x) h hx
  | some u :: a, w :: b, 0, v, h, hx => by cases hx; rw [h.1]; rfl
  | some u :: a, w :: b, x + 1, v, h, hx => am_lle.get (L := a) (L' := b) (x := x) h.2 hx
theorem am_lle.set {ρ : Type} : ∀ {L L' : am_L ρ} {x : Nat} {v : Option (AV ρ)}, am_lle L L' → am_lle (L.set x v) (L'.set x v)
  | [], [], _, _, _ => trivial
  | none :: a, _ :: b, 0, none, h => h
  | none :: a, _ :: b, 0, some _, h => ⟨rfl, h⟩
  | some _ :: a, _ :: b, 0, none, h => h.2
  | some _ :: a, _ :: b, 0, some _, h => ⟨rfl, h.2⟩
  | none :: a, _ :: b, x + 1, v, h => am_lle.set (L := a) (L' := b) (x := x) h
  | some _ :: a, _ :: b, x + 1, v, h => ⟨h.1, am_lle.set (L := a) (L' := b) (x := x) h.2⟩
theorem am_lle.setn {ρ : Type} : ∀ {L L' : am_L ρ} {x : Nat} {w : Option (AV ρ)}, am_lle L L' → L[x]? = some none ∨ L[x]? = none → am_lle L (L'.set x w)
  | [], [], _, _, _, _ => trivial
  | none :: a, _ :: b, 0, _, h, _ => h
  | some _ :: a, _ :: b, 0, _, h, h0 => by rcases h0 with h0 | h0 <;> cases h0
  | none :: a, _ :: b, x + 1, v, h, h0 => am_lle.setn (L := a) (L' := b) (x := x) h h0
  | some _ :: a, _ :: b, x + 1, v, h, h0 => ⟨h.1, am_lle.setn (L := a) (L' := b) (x := x) h.2 h0⟩
theorem am_lle.kill {ρ : Type} {L L' : am_L ρ} (x : Nat) (h : am_lle L L') : am_lle (am_kill x L) (am_kill x L') := by
  cases x with
  | zero => exact h
  | succ y =>
    unfold am_kill
    simp only
    cases e : L[y]? with
    | none =>
      have e' : L'[y]? = none := by
        have := h.len
        simp only [List.getElem?_eq_none_iff] at e ⊢
        omega
      rw [e']; exact h
    | some u =>
      cases u with
      | none =>
        simp only
        split
        · exact h.setn (Or.inl e)
        · exact h
      | some u =>
        rw [h.get e]
        split
        · exact h.set
        · exact h
theorem am_st_lle {ρ : Type} {x : Nat} {v : AV ρ} {L L' M : am_L ρ} (h : am_lle L L') (hs : am_st x v L = some M) : ∃ M', am_st x v L' = some M' ∧ am_lle M M' := by
  unfold am_st at hs ⊢
  have hlen := h.len
  split at hs
  · split at hs
    · rename_i hc
      cases hs
      rw [hlen] at hc
      skip
      rw [if_pos hc]
      exact ⟨_, rfl, ((h.kill x).set).set⟩
    · cases hs
  · split at hs
    · rename_i hc
      cases hs
      rw [hlen] at hc
      rw [if_pos hc]
      exact ⟨_, rfl, (h.kill x).set⟩
    · cases hs
theorem am_p_lle {ρ : Type} {op x y : Nat} {im : Int} {tb : List (Int × Nat)} {nx pc' : Nat} {L L' M : am_L ρ} {S S' : List (AV ρ)} (h : am_lle L L') (hp : am_p op x y im tb nx L S = some (pc', M, S')) : ∃ M', am_p op x y im tb nx L' S = some (pc', M', S') ∧ am_lle M M' := by
  unfold am_p at hp ⊢
  split at hp
  case h_4 =>
    split at hp
    · rename_i hv
      rw [h.get hv]
      split at hp
      · rename_i hc
        cases hp
        exact ⟨_, by simp only; rw [if_pos hc], h⟩
      · cases hp
    · cases hp
  case h_5 =>
    split at hp
    · split at hp
      · rename_i hc
        split at hp
        · rename_i hs
          cases hp
          obtain ⟨M', hM, hl⟩ := am_st_lle h hs
          exact ⟨M', by rw [if_pos hc, hM], hl⟩
        · cases hp
      · cases hp
    · cases hp
  case h_6 =>
    split at hp
    · rename_i hv
      cases hp
      rw [h.get hv]
      exact ⟨_, rfl, h.set⟩
    · cases hp
  all_goals
    repeat' split at hp
    all_goals first
      | (cases hp; done)
      | (cases hp; refine ⟨_, rfl, h⟩)
      | (cases hp; rename_i e; rw [e]; exact ⟨_, rfl, h⟩)
      | (cases hp; simp only [*]; exact ⟨_, rfl, h⟩)
theorem am_run_lle {ρ μ : Type} {P : Nat → Nat → Option (am_I × Nat)} {NL : Nat → Nat} {mem : Nat → Nat → List (AV ρ) → μ → Option (Option (AV ρ) × μ)} : ∀ (n d k pc : Nat) (L L' : am_L ρ) (S : List (AV ρ)) (m : μ) (o : Option (AV ρ) × μ), am_lle L L' → am_run P NL mem n d k pc L S m = some o → am_run P NL mem n d k pc L' S m = some o
  | 0, _, _, _, _, _, _, _, _, _, h => by cases h
  | n + 1, d, k, pc, L, L', S, m, o, hl, h => by
    have IH : ∀ (d k pc : Nat) (L L' : am_L ρ) (S : List (AV ρ)) (m : μ) (o : Option (AV ρ) × μ), am_lle L L' → am_run P NL mem n d k pc L S m = some o → am_run P NL mem n d k pc L' S m = some o := fun d k pc L L' S m o hl h => am_run_lle n d k pc L L' S m o hl h
    unfold am_run at h ⊢
    split at h
    · cases h
    · split at h
      · split at h
        · cases h
        · skip
          split at h
          · rename_i hc
            rw [if_pos hc]
            split at h
            · cases h
            · rename_i hr
              skip
              exact IH _ _ _ _ _ _ _ _ hl h
          · cases h
      · exact h
      · exact h
      · split at h
        · cases h
        · skip
          split at h
          · rename_i hc
            rw [if_pos hc]
            split at h
            · cases h
            · skip
              exact IH _ _ _ _ _ _ _ _ hl h
          · cases h
      · split at h
        · cases h
        · rename_i hp
          obtain ⟨M', hM, hl'⟩ := am_p_lle hl hp
          rw [hM]
          exact IH _ _ _ _ _ _ _ _ hl' h
def am_mask {ρ : Type} : List Bool → am_L ρ → am_L ρ
  | true :: m, v :: L => v :: am_mask m L
  | false :: m, _ :: L => none :: am_mask m L
  | _, L => L
theorem am_mask_lle {ρ : Type} : ∀ {m : List Bool} {L : am_L ρ}, am_lle (am_mask m L) L
  | true :: m, none :: L => am_mask_lle (m := m) (L := L)
  | true :: m, some _ :: L => ⟨rfl, am_mask_lle (m := m) (L := L)⟩
  | false :: m, _ :: L => am_mask_lle (m := m) (L := L)
  | [], _ => am_lle.rf
  | true :: _, [] => am_lle.rf
  | false :: _, [] => am_lle.rf
theorem g_wk {X : X2} {d k pc : Nat} {L L0 : am_L R2} {S : List (AV R2)} {s : S2} {o : Option (AV R2) × S2} (m : List Bool) (hm : am_mask m L = L0) (h : Go X d k pc L0 S s o) : Go X d k pc L S s o := h.imp fun _ h => am_run_lle _ _ _ _ _ _ _ _ _ (hm ▸ am_mask_lle) h
