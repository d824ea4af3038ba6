/-! CELLS further on: a run of the machine does the same behind other cells -/
def sh1 (N : Nat) : R1 → R1
  | .inl a => .inl (a + N)
  | .inr j => .inr j
def shV (N : Nat) : AV R1 → AV R1
  | .inr (.inr (some r)) => .inr (.inr (some (sh1 N r)))
  | v => v
def shC (N : Nat) : C1 → C1
  | .inl (c, fs) => .inl (c, fs.map (shV N))
  | .inr (.inl x) => .inr (.inl x)
  | .inr (.inr (t, n, g)) => .inr (.inr (t, n, fun k => (g k).map (· + N)))
theorem shV_V {N : Nat} {v w : AV R1} : aV (fun r q => q = sh1 N r) v w ↔ w = shV N v := by
  match v, w with
  | .inl x, .inl y =>
    refine ⟨fun h => ?_, fun h => ?_⟩
    · have h : x = y := h
      rw [h]; rfl
    · have h : (Sum.inl y : AV R1) = .inl x := h
      cases h
      rfl
  | .inr (.inl x), .inr (.inl y) =>
    refine ⟨fun h => ?_, fun h => ?_⟩
    · have h : x = y := h
      rw [h]; rfl
    · have h : (Sum.inr (.inl y) : AV R1) = .inr (.inl x) := h
      cases h
      rfl
  | .inr (.inr none), .inr (.inr none) => exact ⟨fun _ => rfl, fun _ => trivial⟩
  | .inr (.inr (some r)), .inr (.inr (some q)) =>
    refine ⟨fun h => ?_, fun h => ?_⟩
    · have h : q = sh1 N r := h
      rw [h]; rfl
    · have h : (Sum.inr (.inr (some q)) : AV R1) = .inr (.inr (some (sh1 N r))) := h
      cases h
      rfl
  | .inl x, .inr y => exact ⟨fun h => h.elim, fun h => by cases h⟩
  | .inr (.inl x), .inl y => exact ⟨fun h => h.elim, fun h => by cases h⟩
  | .inr (.inr none), .inl y => exact ⟨fun h => h.elim, fun h => by cases h⟩
  | .inr (.inr (some r)), .inl y => exact ⟨fun h => h.elim, fun h => by cases h⟩
  | .inr (.inl x), .inr (.inr y) => exact ⟨fun h => h.elim, fun h => by cases h⟩
  | .inr (.inr none), .inr (.inl y) => exact ⟨fun h => h.elim, fun h => by cases h⟩
  | .inr (.inr none), .inr (.inr (some q)) => exact ⟨fun h => h.elim, fun h => by cases h⟩
  | .inr (.inr (some r)), .inr (.inl y) => exact ⟨fun h => h.elim, fun h => by cases h⟩
  | .inr (.inr (some r)), .inr (.inr none) => exact ⟨fun h => h.elim, fun h => by cases h⟩
theorem shL_V {N : Nat} : ∀ {S T : List (AV R1)}, lR (aV (fun r q => q = sh1 N r)) S T → T = S.map (shV N)
  | [], [], _ => rfl
  | v :: S, w :: T, h => by
    rw [shV_V.mp h.1, shL_V (S := S) (T := T) h.2]
    rfl
/-- a memory that knows cells alone: no script, no texts, no statics -/
def m1c (kind idx : Nat) (as : List (AV R1)) (w : W1) : Option (Option (AV R1) × W1) := match kind with
  | 0 => m1_get idx as w
  | 1 => m1_put am_ft idx as w
  | 3 => m1_ast idx as w
  | 4 => match as with
    | [.inr (.inr (some (.inl _)))] => m1_len [] 0 as w
    | _ => none
  | 5 => m1_new am_ft idx as w
  | 6 => m1_newa idx as w
  | 7 => m1_newq idx as w
  | 8 => m1_mna as w
  | 14 => match as with
    | [.inr (.inr (some (.inl _)))] => some (none, w)
    | _ => none
  | 17 => match as with
    | [.inr (.inr (some (.inl a)))] => match w[a]? with
      | some (.inl (c, _)) => if c = am_o idx then some (none, w) else none
      | _ => none
    | _ => none
  | _ => none
def shI (N : Nat) (w0 : W1) (a b : W1) : Prop := w0.length = N ∧ b = w0 ++ a.map (shC N)
theorem shI.get {N i : Nat} {w0 a b : W1} (h : shI N w0 a b) : b[i + N]? = (a[i]?).map (shC N) := by
  obtain ⟨h1, rfl⟩ := h
  rw [List.getElem?_append_right (by omega), show i + N - w0.length = i by omega, List.getElem?_map]
theorem shI.set {N i : Nat} {w0 a b : W1} {x : C1} (h : shI N w0 a b) : shI N w0 (a.set i x) (b.set (i + N) (shC N x)) := by
  obtain ⟨h1, rfl⟩ := h
  refine ⟨h1, ?_⟩
  rw [List.set_append_right _ _ (by omega), show i + N - w0.length = i by omega, List.map_set]
theorem shI.add {N : Nat} {w0 a b x : W1} (h : shI N w0 a b) : shI N w0 (a ++ x) (b ++ x.map (shC N)) := by
  obtain ⟨h1, rfl⟩ := h
  refine ⟨h1, ?_⟩
  rw [List.map_append, List.append_assoc]
theorem shI.len {N : Nat} {w0 a b : W1} (h : shI N w0 a b) : b.length = a.length + N := by
  obtain ⟨h1, rfl⟩ := h
  rw [List.length_append, List.length_map, h1]
  omega
theorem shV_def {N t : Nat} : shV N (am_def t) = am_def t := by
  unfold am_def
  split <;> rfl
theorem shV_fit {N t : Nat} {v : AV R1} : am_fit t (shV N v) = am_fit t v := by
  match v with
  | .inl x => rfl
  | .inr (.inl x) => rfl
  | .inr (.inr none) => rfl
  | .inr (.inr (some r)) =>
    match t with
    | 0 => rfl
    | 1 => rfl
    | 2 => rfl
    | _ + 3 => rfl
theorem shM {N : Nat} {w0 : W1} {ft : Nat → List Nat} {T : List (List Nat)} {L : Nat} {sx : Nat → Int} (hft : ft = am_ft) (kind idx : Nat) : memS (fun _ r q => q = sh1 N r) (fun _ => shI N w0) m1c (m1 ft T L sx) kind idx := by
  subst hft
  intro c a a' b S T' rv hI hS h
  obtain rfl := shL_V hS
  have fin : ∀ (rw : Option (AV R1)) (b' : W1), m1 am_ft T L sx kind idx (S.map (shV N)) b = some (rw, b') → shI N w0 a' b' → rw = rv.map (shV N) → ∃ c' rw b', c ≤ c' ∧ m1 am_ft T L sx kind idx (S.map (shV N)) b = some (rw, b') ∧ shI N w0 a' b' ∧ oV (fun r q => q = sh1 N r) rv rw := fun rw b' h1 h2 h3 => ⟨c, rw, b', Nat.le_refl _, h1, h2, by
    subst h3
    match rv with
    | none => trivial
    | some v => exact shV_V.mpr rfl⟩
  unfold m1c at h
  split at h
  · unfold m1_get at h
    split at h
    · rename_i r
      split at h
      · rename_i c0 fs e
        split at h
        · rename_i hc
          split at h
          · rename_i v hv
            cases h
            refine fin (some (shV N v)) b ?_ hI rfl
            have eb : b[r + N]? = some (.inl (c0, fs.map (shV N))) := by rw [hI.get, e]; rfl
            show m1_get idx [.inr (.inr (some (.inl (r + N))))] b = _
            unfold m1_get
            simp only [eb, if_pos hc, List.getElem?_map, hv, Option.map_some]
          · cases h
        · cases h
      · cases h
    · cases h
  · unfold m1_put at h
    split at h
    · rename_i r v
      split at h
      · rename_i c0 fs e
        split at h
        · rename_i hc
          split at h
          · rename_i t ht
            split at h
            · rename_i hf
              cases h
              have eb : b[r + N]? = some (.inl (c0, fs.map (shV N))) := by rw [hI.get, e]; rfl
              refine fin none (b.set (r + N) (.inl (c0, (fs.map (shV N)).set (idx % 128) (shV N v)))) ?_ ?_ rfl
              · show m1_put am_ft idx [.inr (.inr (some (.inl (r + N)))), shV N v] b = _
                unfold m1_put
                simp only [eb, List.length_map, if_pos hc, ht, shV_fit, if_pos hf]
              · have := hI.set (i := r) (x := .inl (c0, fs.set (idx % 128) v))
                rw [show shC N (.inl (c0, fs.set (idx % 128) v)) = .inl (c0, (fs.map (shV N)).set (idx % 128) (shV N v)) by
                  show (Sum.inl (c0, (fs.set (idx % 128) v).map (shV N)) : C1) = _
                  rw [List.map_set]] at this
                exact this
            · cases h
          · cases h
        · cases h
      · cases h
    · cases h
  · unfold m1_ast at h
    split at h
    · rename_i r i x
      split at h
      · rename_i t n f e
        have eb : b[r + N]? = some (.inr (.inl (t, n, f))) := by rw [hI.get, e]; rfl
        split at h
        · rename_i hc
          split at h
          · cases h
            refine fin none (b.set (r + N) (.inr (.inl (_, n, am_u f i.toNat x)))) ?_ hI.set rfl
            show m1_ast idx [.inr (.inr (some (.inl (r + N)))), .inl i, .inl x] b = _
            unfold m1_ast
            simp only [eb, if_pos hc]
          · cases h
            refine fin none (b.set (r + N) (.inr (.inl (_, n, am_u f i.toNat (ji2b x))))) ?_ hI.set rfl
            show m1_ast idx [.inr (.inr (some (.inl (r + N)))), .inl i, .inl x] b = _
            unfold m1_ast
            simp only [eb, if_pos hc]
          · split at h
            · rename_i hx
              cases h
              refine fin none (b.set (r + N) (.inr (.inl (_, n, am_u f i.toNat x)))) ?_ hI.set rfl
              show m1_ast idx [.inr (.inr (some (.inl (r + N)))), .inl i, .inl x] b = _
              unfold m1_ast
              simp only [eb, if_pos hc, if_pos hx]
            · cases h
          · cases h
        · cases h
      · cases h
    · rename_i r i x
      split at h
      · rename_i t n f e
        have eb : b[r + N]? = some (.inr (.inl (t, n, f))) := by rw [hI.get, e]; rfl
        split at h
        · rename_i hc
          cases h
          refine fin none (b.set (r + N) (.inr (.inl (t, n, am_u f i.toNat x)))) ?_ hI.set rfl
          show m1_ast idx [.inr (.inr (some (.inl (r + N)))), .inl i, .inr (.inl x)] b = _
          unfold m1_ast
          simp only [eb, if_pos hc]
        · cases h
      · cases h
    · rename_i r i p
      split at h
      · rename_i t n g e
        have eb : b[r + N]? = some (.inr (.inr (t, n, fun k => (g k).map (· + N)))) := by rw [hI.get, e]; rfl
        split at h
        · rename_i c1 fs1 e1
          have eb1 : b[p + N]? = some (.inl (c1, fs1.map (shV N))) := by rw [hI.get, e1]; rfl
          split at h
          · rename_i hc
            cases h
            refine fin none (b.set (r + N) (.inr (.inr (t, n, am_uq (fun k => (g k).map (· + N)) i.toNat (some (p + N)))))) ?_ ?_ rfl
            · show m1_ast idx [.inr (.inr (some (.inl (r + N)))), .inl i, .inr (.inr (some (.inl (p + N))))] b = _
              unfold m1_ast
              simp only [eb, eb1, if_pos hc]
            · have := hI.set (i := r) (x := .inr (.inr (t, n, am_uq g i.toNat (some p))))
              rw [show shC N (.inr (.inr (t, n, am_uq g i.toNat (some p)))) = .inr (.inr (t, n, am_uq (fun k => (g k).map (· + N)) i.toNat (some (p + N)))) by
                show (Sum.inr (.inr (t, n, fun k => (am_uq g i.toNat (some p) k).map (· + N))) : C1) = _
                congr 4
                funext k
                unfold am_uq
                split <;> rfl] at this
              exact this
          · cases h
        · cases h
      · cases h
    · cases h
  · split at h
    · rename_i r
      unfold m1_len at h
      simp only at h
      split at h
      · rename_i t n f e
        split at h
        · rename_i hn
          cases h
          have eb : b[r + N]? = some (.inr (.inl (t, n, f))) := by rw [hI.get, e]; rfl
          refine fin (some (vI n)) b ?_ hI rfl
          show m1_len T L [.inr (.inr (some (.inl (r + N))))] b = _
          unfold m1_len
          simp only [eb, if_pos hn]
        · cases h
      · rename_i t n g e
        split at h
        · rename_i hn
          cases h
          have eb : b[r + N]? = some (.inr (.inr (t, n, fun k => (g k).map (· + N)))) := by rw [hI.get, e]; rfl
          refine fin (some (vI n)) b ?_ hI rfl
          show m1_len T L [.inr (.inr (some (.inl (r + N))))] b = _
          unfold m1_len
          simp only [eb, if_pos hn]
        · cases h
      · cases h
    · cases h
  · unfold m1_new at h
    split at h
    · split at h
      · rename_i hi
        cases h
        refine fin (some (vR (.inl (a.length + N)))) (b ++ [.inl (idx, (am_ft idx).map am_def)]) ?_ ?_ rfl
        · show m1_new am_ft idx [] b = _
          unfold m1_new
          simp only
          rw [if_pos hi, hI.len]
        · have := hI.add (x := [.inl (idx, (am_ft idx).map am_def)])
          rw [show ([.inl (idx, (am_ft idx).map am_def)] : W1).map (shC N) = [.inl (idx, (am_ft idx).map am_def)] by
            show [(Sum.inl (idx, ((am_ft idx).map am_def).map (shV N)) : C1)] = _
            rw [List.map_map, show (shV N) ∘ am_def = am_def from funext fun t => shV_def]] at this
          exact this
      · cases h
    · cases h
  · unfold m1_newa at h
    split at h
    · rename_i n
      split at h
      · rename_i hi
        cases h
        refine fin (some (vR (.inl (a.length + N)))) (b ++ [.inr (.inl (idx, n.toNat, fun _ => 0))]) ?_ hI.add rfl
        show m1_newa idx [.inl n] b = _
        unfold m1_newa
        simp only
        rw [if_pos hi, hI.len]
      · cases h
    · cases h
  · unfold m1_newq at h
    split at h
    · rename_i n
      split at h
      · rename_i hi
        cases h
        refine fin (some (vR (.inl (a.length + N)))) (b ++ [.inr (.inr (100 + idx, n.toNat, fun _ => none))]) ?_ hI.add rfl
        show m1_newq idx [.inl n] b = _
        unfold m1_newq
        simp only
        rw [if_pos hi, hI.len]
      · cases h
    · cases h
  · unfold m1_mna at h
    split at h
    · rename_i n k
      split at h
      · rename_i hi
        cases h
        refine fin (some (vR (.inl (a.length + N)))) (b ++ (.inr (.inr (99, n.toNat, fun j => if j < n.toNat then some (b.length + 1 + j) else none)) :: List.replicate n.toNat (.inr (.inl (0, k.toNat, fun _ => 0))))) ?_ ?_ rfl
        · show m1_mna [.inl n, .inl k] b = _
          unfold m1_mna
          simp only
          rw [if_pos hi, ← hI.len]
        · have := hI.add (x := (.inr (.inr (99, n.toNat, fun j => if j < n.toNat then some (a.length + 1 + j) else none)) :: List.replicate n.toNat (.inr (.inl (0, k.toNat, fun _ => 0)))))
          rw [show (.inr (.inr (99, n.toNat, fun j => if j < n.toNat then some (a.length + 1 + j) else none)) :: List.replicate n.toNat (.inr (.inl (0, k.toNat, fun _ => 0))) : W1).map (shC N) = .inr (.inr (99, n.toNat, fun j => if j < n.toNat then some (b.length + 1 + j) else none)) :: List.replicate n.toNat (.inr (.inl (0, k.toNat, fun _ => 0))) by
            rw [List.map_cons, List.map_replicate]
            show (Sum.inr (.inr (99, n.toNat, fun j => (if j < n.toNat then some (a.length + 1 + j) else none).map (· + N))) : C1) :: _ = _
            congr 5
            funext j
            rw [hI.len]
            split
            · show some (a.length + 1 + j + N) = _
              congr 1
              omega
            · rfl] at this
          exact this
      · cases h
    · cases h
  · split at h
    · rename_i r
      cases h
      exact fin none b rfl hI rfl
    · cases h
  · split at h
    · rename_i r
      split at h
      · rename_i c0 fs e
        split at h
        · rename_i hc
          cases h
          have eb : b[r + N]? = some (.inl (c0, fs.map (shV N))) := by rw [hI.get, e]; rfl
          refine fin none b ?_ hI rfl
          show (match b[r + N]? with
            | some (.inl (c, _)) => if c = am_o idx then some (none, b) else none
            | _ => none) = _
          rw [eb]
          exact if_pos hc
        · cases h
      · cases h
    · cases h
  · cases h
