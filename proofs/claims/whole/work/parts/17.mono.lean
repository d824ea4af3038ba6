/-! cells are never given back -/
def am_le (w w' : W1) : Prop := w.length ≤ w'.length ∧ am_sl am_ft w ≤ am_sl am_ft w'
theorem am_le_rf {w : W1} : am_le w w := ⟨Nat.le_refl _, Nat.le_refl _⟩
theorem am_le_tr {a b c : W1} (h1 : am_le a b) (h2 : am_le b c) : am_le a c := ⟨Nat.le_trans h1.1 h2.1, Nat.le_trans h1.2 h2.2⟩
theorem am_le_set {w : W1} {a : Nat} {c c0 : C1} (h : w[a]? = some c0) (hs : am_szc am_ft c = am_szc am_ft c0) : am_le w (w.set a c) := ⟨by rw [List.length_set]; exact Nat.le_refl _, by rw [am_sl_set hs _ _ h]; exact Nat.le_refl _⟩
theorem am_sl_app2 {u v : W1} : am_sl am_ft (u ++ v) = am_sl am_ft u + am_sl am_ft v := by unfold am_sl; simp
theorem am_le_app {w v : W1} : am_le w (w ++ v) := ⟨by simp, by rw [am_sl_app2]; omega⟩
theorem m1_mono {sl : Nat} {sx : Nat → Int} {kind idx : Nat} {as : List (AV R1)} {w w' : W1} {rv : Option (AV R1)} (h : m1 am_ft am_T sl sx kind idx as w = some (rv, w')) : am_le w w' := by
  unfold m1 at h
  split at h
  · unfold m1_get at h
    repeat' split at h
    all_goals first | (cases h; done) | (cases h; exact am_le_rf)
  · unfold m1_put at h
    split at h
    · split at h
      · rename_i hw
        repeat' split at h
        all_goals first | (cases h; done) | (cases h; exact am_le_set hw rfl)
      · cases h
    · cases h
  · unfold m1_ald at h
    repeat' split at h
    all_goals first | (cases h; done) | (cases h; exact am_le_rf)
  · unfold m1_ast at h
    split at h
    · split at h
      · rename_i hw
        repeat' split at h
        all_goals first | (cases h; done) | (cases h; exact am_le_set hw rfl)
      · cases h
    · split at h
      · rename_i hw
        repeat' split at h
        all_goals first | (cases h; done) | (cases h; exact am_le_set hw rfl)
      · cases h
    · split at h
      · rename_i hw
        repeat' split at h
        all_goals first | (cases h; done) | (cases h; exact am_le_set hw rfl)
      · cases h
    · cases h
  · unfold m1_len at h
    repeat' split at h
    all_goals first | (cases h; done) | (cases h; exact am_le_rf)
  · unfold m1_new at h
    repeat' split at h
    all_goals first | (cases h; done) | (cases h; exact am_le_app)
  · unfold m1_newa at h
    repeat' split at h
    all_goals first | (cases h; done) | (cases h; exact am_le_app)
  · unfold m1_newq at h
    repeat' split at h
    all_goals first | (cases h; done) | (cases h; exact am_le_app)
  · unfold m1_mna at h
    repeat' split at h
    all_goals first | (cases h; done) | (cases h; exact am_le_app)
  · repeat' split at h
    all_goals first | (cases h; done) | (cases h; exact am_le_rf)
  · unfold m1_cpy at h
    split at h
    · split at h
      · rename_i hwa hwb
        repeat' split at h
        all_goals first | (cases h; done) | (cases h; exact am_le_set hwb rfl)
      · cases h
    · cases h
  · repeat' split at h
    all_goals first | (cases h; done) | (cases h; exact am_le_rf)
  · repeat' split at h
    all_goals first | (cases h; done) | (cases h; exact am_le_rf)
  · repeat' split at h
    all_goals first | (cases h; done) | (cases h; exact am_le_rf)
  · repeat' split at h
    all_goals first | (cases h; done) | (cases h; exact am_le_rf)
  · unfold m1_gs at h
    repeat' split at h
    all_goals first | (cases h; done) | (cases h; exact am_le_rf)
  · unfold m1_tf at h
    repeat' split at h
    all_goals first | (cases h; done) | (cases h; exact am_le_rf)
  · cases h
theorem am_mono {P : Nat → Nat → Option (am_I × Nat)} {NL : Nat → Nat} {sl : Nat} {sx : Nat → Int} : ∀ (n d k pc : Nat) (L : am_L R1) (S : List (AV R1)) (w w' : W1) (rv : Option (AV R1)), am_run P NL (m1 am_ft am_T sl sx) n d k pc L S w = some (rv, w') → am_le w w'
  | 0, _, _, _, _, _, _, _, _, h => by cases h
  | n + 1, d, k, pc, L, S, w, w', rv, h => by
    unfold am_run at h
    split at h
    · cases h
    · split at h
      · split at h
        · cases h
        · split at h
          · split at h
            · cases h
            · rename_i hr
              exact am_le_tr (am_mono n _ _ _ _ _ _ _ _ hr) (am_mono n _ _ _ _ _ _ _ _ h)
          · cases h
      · split at h
        · repeat' split at h
          all_goals first | (cases h; done) | (cases h; exact am_le_rf)
        · cases h
      · split at h
        · cases h; exact am_le_rf
        · cases h
      · split at h
        · cases h
        · split at h
          · split at h
            · cases h
            · rename_i hr
              exact am_le_tr (m1_mono hr) (am_mono n _ _ _ _ _ _ _ _ h)
          · cases h
      · split at h
        · cases h
        · exact am_mono n _ _ _ _ _ _ _ _ h
