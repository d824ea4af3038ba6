def am_Lok (n : Nat) (L : am_L R1) : Prop := ∀ (j : Nat) (u : AV R1), L[j]? = some (some u) → am_ok n u
theorem am_cv_i {A B : Nat → Nat} (X : Int32) : am_cv A B (vI X.toInt) = .int X := by simp [am_cv]
theorem am_cv_l {A B : Nat → Nat} (X : Int64) : am_cv A B (vL X.toInt) = .long X := by simp [am_cv]
theorem am_kill_len {L : am_L R1} {x : Nat} : (am_kill x L).length = L.length := by
  cases x with
  | zero => rfl
  | succ y => unfold am_kill; simp only; split <;> simp
theorem am_set_some {L : am_L R1} {x j : Nat} {o : Option (AV R1)} {u : AV R1} (h : (L.set x o)[j]? = some (some u)) : (j = x ∧ o = some u) ∨ L[j]? = some (some u) := by
  by_cases e : x = j
  · subst e
    rw [List.getElem?_set_self'] at h
    cases hk : L[x]? with
    | none => rw [hk] at h; simp at h
    | some q => rw [hk] at h; exact Or.inl ⟨rfl, by simpa using h⟩
  · rw [List.getElem?_set_ne e] at h
    exact Or.inr h
theorem am_st_ok {n x : Nat} {v : AV R1} {L L' : am_L R1} (hst : am_st x v L = some L') (hL : am_Lok n L) (hv : am_ok n v) : am_Lok n L' ∧ L'.length = L.length ∧ x < L.length := by
  have key : ∀ (L2 : am_L R1), L2 = (am_kill x L).set x (some v) → am_Lok n L2 ∧ L2.length = L.length := by
    intro L2 e
    subst e
    refine ⟨fun j u hj => ?_, by rw [List.length_set, am_kill_len]⟩
    rcases am_set_some hj with ⟨-, h⟩ | h
    · cases h; exact hv
    · exact hL j u (am_kill_get h).1
  match v, hst with
  | .inl z, h =>
    have h : (if x < L.length then some ((am_kill x L).set x (some (.inl z))) else none) = some L' := h
    split at h
    · cases h; exact ⟨(key _ rfl).1, (key _ rfl).2, by assumption⟩
    · cases h
  | .inr (.inr z), h =>
    have h : (if x < L.length then some ((am_kill x L).set x (some (.inr (.inr z)))) else none) = some L' := h
    split at h
    · cases h; exact ⟨(key _ rfl).1, (key _ rfl).2, by assumption⟩
    · cases h
  | .inr (.inl z), h =>
    have h : (if x + 1 < L.length then some (((am_kill x L).set x (some (.inr (.inl z)))).set (x + 1) none) else none) = some L' := h
    split at h
    · cases h
      refine ⟨fun j u hj => ?_, by rw [List.length_set]; exact (key _ rfl).2, by omega⟩
      rcases am_set_some hj with ⟨-, h⟩ | h
      · cases h
      · exact (key _ rfl).1 j u h
    · cases h
theorem am_st_2 {x : Nat} {z : Int} {L L' : am_L R1} (hst : am_st x (vL z : AV R1) L = some L') : x + 1 < L.length := by
  have h : (if x + 1 < L.length then some (((am_kill x L).set x (some (vL z))).set (x + 1) none) else none) = some L' := hst
  split at h
  · assumption
  · cases h
section AMQ
variable {p : Program} {l : Launch} {e : Env} {R : Room} {s : State} {m : MethodId} {args : Array Value} {below : List Frame} {meth : Method} {c : Code} {H : Heap} {locs : List Loc} {cells slots : Nat} {Q : State → Prop}
variable {cc : ByteArray} {pc : Nat} {ls : Array Slot}
set_option maxHeartbeats 4000000 in
theorem am_sim_p {A B : Nat → Nat} {n nL len op x y pc' : Nat} {im : Int} {tb : List (Int × Nat)} {ins : Jvm.ClassFile.Instr} {L L' : am_L R1} {S S' : List (AV R1)} (hx : p.tables.exec = Jvm.exec) (hb : c.code = cc) (htr : am_trp ins pc len = some (op, x, y, im, tb)) (hdg : decode cc pc = .ok (ins, len))
    (hp : am_p op x y im tb (pc + len) L S = some (pc', L', S')) (hL : am_LR A B nL ls L) (hlen : L.length ≤ nL) (hLo : am_Lok n L) (hSo : ∀ v ∈ S, am_ok n v)
    (kk : ∀ ls' : Array Slot, am_LR A B nL ls' L' → L'.length ≤ nL → am_Lok n L' → (∀ v ∈ S', am_ok n v) → W p l e R s m args below meth c H locs cells slots Q (F0 m pc' ls' (S'.map (am_cv A B)))) : W p l e R s m args below meth c H locs cells slots Q (F0 m pc ls (S.map (am_cv A B))) := by
  unfold am_trp at htr
  split at htr
  · rename_i i
    cases htr
    have hp : some (pc + 1, L, vI (Int32.ofInt i).toInt :: S) = some (pc', L', S') := hp
    cases hp
    refine lv_iconst hx hb (v := Int32.ofInt i) hdg rfl ?_
    have h := kk ls hL hlen hLo (am_cons_oks (am_io _) hSo)
    rw [List.map_cons, am_cv_i] at h
    exact h
  · rename_i i
    cases htr
    have hp : some (pc + 2, L, vI ((Int8.ofInt i).toInt32).toInt :: S) = some (pc', L', S') := hp
    cases hp
    refine lv_bipush hx hb (v := (Int8.ofInt i).toInt32) hdg rfl ?_
    have h := kk ls hL hlen hLo (am_cons_oks (am_io _) hSo)
    rw [List.map_cons, am_cv_i] at h
    exact h
  · rename_i i
    cases htr
    have hp : some (pc + 3, L, vI ((Int16.ofInt i).toInt32).toInt :: S) = some (pc', L', S') := hp
    cases hp
    refine lv_sipush hx hb (v := (Int16.ofInt i).toInt32) hdg rfl ?_
    have h := kk ls hL hlen hLo (am_cons_oks (am_io _) hSo)
    rw [List.map_cons, am_cv_i] at h
    exact h
  · rename_i f
    cases htr
    have hp : some (pc + 1, L, vL (Int64.ofNat (f : Nat)).toInt :: S) = some (pc', L', S') := hp
    cases hp
    refine lv_lconst hx hb (v := Int64.ofNat (f : Nat)) hdg rfl ?_
    have h := kk ls hL hlen hLo (am_cons_oks (am_lo _) hSo)
    rw [List.map_cons, am_cv_l] at h
    exact h
  · cases htr
    have hp : some (pc + 1, L, vN :: S) = some (pc', L', S') := hp
    cases hp
    exact lv_null hx hb hdg (kk ls hL hlen hLo (am_cons_oks trivial hSo))
  · rename_i i
    cases htr
    unfold am_p at hp
    simp only at hp
    split at hp
    · rename_i v hv
      split at hp
      · rename_i hty
        cases hp
        have hv2 := hL.2.2 _ _ hv
        have hvo := hLo _ _ hv
        have h := kk ls hL hlen hLo (am_cons_oks hvo hSo)
        match v, hty, hv2, h with
        | .inl z, _, hv2, h => exact lv_iload hx hb hdg hv2 h
      · cases hp
    · cases hp
  · rename_i f
    cases htr
    unfold am_p at hp
    simp only at hp
    split at hp
    · rename_i v hv
      split at hp
      · rename_i hty
        cases hp
        have hv2 := hL.2.2 _ _ hv
        have hvo := hLo _ _ hv
        have h := kk ls hL hlen hLo (am_cons_oks hvo hSo)
        match v, hty, hv2, h with
        | .inl z, _, hv2, h => exact lv_iload_n hx hb hdg rfl hv2 h
      · cases hp
    · cases hp
  · rename_i i
    cases htr
    unfold am_p at hp
    simp only at hp
    split at hp
    · rename_i v hv
      split at hp
      · rename_i hty
        cases hp
        have hv2 := hL.2.2 _ _ hv
        have hvo := hLo _ _ hv
        have h := kk ls hL hlen hLo (am_cons_oks hvo hSo)
        match v, hty, hv2, h with
        | .inr (.inl z), _, hv2, h => exact lv_lload hx hb hdg hv2 h
      · cases hp
    · cases hp
  · rename_i f
    cases htr
    unfold am_p at hp
    simp only at hp
    split at hp
    · rename_i v hv
      split at hp
      · rename_i hty
        cases hp
        have hv2 := hL.2.2 _ _ hv
        have hvo := hLo _ _ hv
        have h := kk ls hL hlen hLo (am_cons_oks hvo hSo)
        match v, hty, hv2, h with
        | .inr (.inl z), _, hv2, h => exact lv_lload_n hx hb hdg rfl hv2 h
      · cases hp
    · cases hp
  · rename_i i
    cases htr
    unfold am_p at hp
    simp only at hp
    split at hp
    · rename_i v hv
      split at hp
      · rename_i hty
        cases hp
        have hv2 := hL.2.2 _ _ hv
        have hvo := hLo _ _ hv
        have h := kk ls hL hlen hLo (am_cons_oks hvo hSo)
        match v, hty, hv2, h with
        | .inr (.inr none), _, hv2, h => exact lv_aloadN hx hb hdg hv2 h
        | .inr (.inr (some (.inl a))), _, hv2, h => exact lv_aload hx hb hdg hv2 h
        | .inr (.inr (some (.inr a))), _, hv2, h => exact lv_aload hx hb hdg hv2 h
      · cases hp
    · cases hp
  · rename_i f
    cases htr
    unfold am_p at hp
    simp only at hp
    split at hp
    · rename_i v hv
      split at hp
      · rename_i hty
        cases hp
        have hv2 := hL.2.2 _ _ hv
        have hvo := hLo _ _ hv
        have h := kk ls hL hlen hLo (am_cons_oks hvo hSo)
        match v, hty, hv2, h with
        | .inr (.inr none), _, hv2, h => exact lv_aload_nN hx hb hdg rfl hv2 h
        | .inr (.inr (some (.inl a))), _, hv2, h => exact lv_aload_n hx hb hdg rfl hv2 h
        | .inr (.inr (some (.inr a))), _, hv2, h => exact lv_aload_n hx hb hdg rfl hv2 h
      · cases hp
    · cases hp
  · rename_i i
    cases htr
    unfold am_p at hp
    simp only at hp
    split at hp
    · rename_i v S2
      obtain ⟨hvo, hSo2⟩ := am_oks_cons hSo
      split at hp
      · rename_i hty
        split at hp
        · rename_i L2 hst
          cases hp
          obtain ⟨k1, k2, k3⟩ := am_st_ok hst hLo hvo
          match v, hty, hst with
          | .inl z, _, hst => exact lv_istore hx hb hdg hL.has (by omega) rfl (fun ls2 h2 => kk ls2 (am_store1 hst rfl h2) (by omega) k1 hSo2)
        · cases hp
      · cases hp
    · cases hp
  · rename_i f
    cases htr
    unfold am_p at hp
    simp only at hp
    split at hp
    · rename_i v S2
      obtain ⟨hvo, hSo2⟩ := am_oks_cons hSo
      split at hp
      · rename_i hty
        split at hp
        · rename_i L2 hst
          cases hp
          obtain ⟨k1, k2, k3⟩ := am_st_ok hst hLo hvo
          match v, hty, hst with
          | .inl z, _, hst => exact lv_istore_n hx hb hdg rfl hL.has (by omega) rfl (fun ls2 h2 => kk ls2 (am_store1 hst rfl h2) (by omega) k1 hSo2)
        · cases hp
      · cases hp
    · cases hp
  · rename_i i
    cases htr
    unfold am_p at hp
    simp only at hp
    split at hp
    · rename_i v S2
      obtain ⟨hvo, hSo2⟩ := am_oks_cons hSo
      split at hp
      · rename_i hty
        split at hp
        · rename_i L2 hst
          cases hp
          obtain ⟨k1, k2, k3⟩ := am_st_ok hst hLo hvo
          match v, hty, hst with
          | .inr (.inl z), _, hst => exact lv_lstore hx hb hdg hL.has (by have := am_st_2 hst; omega) rfl (fun ls2 h2 => kk ls2 (am_store2 hst h2) (by omega) k1 hSo2)
        · cases hp
      · cases hp
    · cases hp
  · rename_i f
    cases htr
    unfold am_p at hp
    simp only at hp
    split at hp
    · rename_i v S2
      obtain ⟨hvo, hSo2⟩ := am_oks_cons hSo
      split at hp
      · rename_i hty
        split at hp
        · rename_i L2 hst
          cases hp
          obtain ⟨k1, k2, k3⟩ := am_st_ok hst hLo hvo
          match v, hty, hst with
          | .inr (.inl z), _, hst => exact lv_lstore_n hx hb hdg rfl hL.has (by have := am_st_2 hst; omega) rfl (fun ls2 h2 => kk ls2 (am_store2 hst h2) (by omega) k1 hSo2)
        · cases hp
      · cases hp
    · cases hp
  · rename_i i
    cases htr
    unfold am_p at hp
    simp only at hp
    split at hp
    · rename_i v S2
      obtain ⟨hvo, hSo2⟩ := am_oks_cons hSo
      split at hp
      · rename_i hty
        split at hp
        · rename_i L2 hst
          cases hp
          obtain ⟨k1, k2, k3⟩ := am_st_ok hst hLo hvo
          match v, hty, hst with
          | .inr (.inr none), _, hst => exact lv_astoreN hx hb hdg hL.has (by omega) rfl (fun ls2 h2 => kk ls2 (am_store1 hst rfl h2) (by omega) k1 hSo2)
          | .inr (.inr (some (.inl a))), _, hst => exact lv_astore hx hb hdg hL.has (by omega) rfl (fun ls2 h2 => kk ls2 (am_store1 hst rfl h2) (by omega) k1 hSo2)
          | .inr (.inr (some (.inr a))), _, hst => exact lv_astore hx hb hdg hL.has (by omega) rfl (fun ls2 h2 => kk ls2 (am_store1 hst rfl h2) (by omega) k1 hSo2)
        · cases hp
      · cases hp
    · cases hp
  · rename_i f
    cases htr
    unfold am_p at hp
    simp only at hp
    split at hp
    · rename_i v S2
      obtain ⟨hvo, hSo2⟩ := am_oks_cons hSo
      split at hp
      · rename_i hty
        split at hp
        · rename_i L2 hst
          cases hp
          obtain ⟨k1, k2, k3⟩ := am_st_ok hst hLo hvo
          match v, hty, hst with
          | .inr (.inr none), _, hst => exact lv_astore_nN hx hb hdg rfl hL.has (by omega) rfl (fun ls2 h2 => kk ls2 (am_store1 hst rfl h2) (by omega) k1 hSo2)
          | .inr (.inr (some (.inl a))), _, hst => exact lv_astore_n hx hb hdg rfl hL.has (by omega) rfl (fun ls2 h2 => kk ls2 (am_store1 hst rfl h2) (by omega) k1 hSo2)
          | .inr (.inr (some (.inr a))), _, hst => exact lv_astore_n hx hb hdg rfl hL.has (by omega) rfl (fun ls2 h2 => kk ls2 (am_store1 hst rfl h2) (by omega) k1 hSo2)
        · cases hp
      · cases hp
    · cases hp
  · rename_i i z
    cases htr
    unfold am_p at hp
    simp only at hp
    split at hp
    · rename_i v hv
      cases hp
      obtain ⟨k9, hk9⟩ := List.getElem?_of_mem (am_ent_mem.mpr ⟨vI v, hv, rfl⟩ : (x, am_cv A B (vI v)) ∈ am_ent A B L)
      refine lv_iinc hx hb hdg hL.has hk9 rfl (by have := (List.getElem?_eq_some_iff.mp hv).1; omega) rfl (fun ls2 h2 => kk ls2 (am_inc (z' := jadd v im) hL hv (by show lv_has ls2 nL ((x, .int (Int32.ofInt (jadd v im))) :: _); unfold jadd; rw [Int32.ofInt_toInt]; exact h2)) (by simpa using hlen) (fun j u hj => ?_) hSo)
      rcases am_set_some hj with ⟨-, h⟩ | h
      · cases h; exact am_io _
      · exact hLo j u h
    · cases hp
  · cases htr
    unfold am_p at hp
    simp only at hp
    split at hp
    · rename_i b a S2
      obtain ⟨hbo, hSo1⟩ := am_oks_cons hSo
      obtain ⟨hao, hSo2⟩ := am_oks_cons hSo1
      have hp : some (pc + 1, L, vI (jadd a b) :: S2) = some (pc', L', S') := hp
      cases hp
      have h := kk ls hL hlen hLo (am_cons_oks (am_io _) hSo2)
      unfold jadd at h
      rw [List.map_cons, am_cv_i] at h
      exact lv_iadd hx hb hdg h
    · cases hp
  · cases htr
    unfold am_p at hp
    simp only at hp
    split at hp
    · rename_i b a S2
      obtain ⟨hbo, hSo1⟩ := am_oks_cons hSo
      obtain ⟨hao, hSo2⟩ := am_oks_cons hSo1
      have hp : some (pc + 1, L, vI (jsub a b) :: S2) = some (pc', L', S') := hp
      cases hp
      have h := kk ls hL hlen hLo (am_cons_oks (am_io _) hSo2)
      unfold jsub at h
      rw [List.map_cons, am_cv_i] at h
      exact lv_isub hx hb hdg h
    · cases hp
  · cases htr
    unfold am_p at hp
    simp only at hp
    split at hp
    · rename_i b a S2
      obtain ⟨hbo, hSo1⟩ := am_oks_cons hSo
      obtain ⟨hao, hSo2⟩ := am_oks_cons hSo1
      have hp : some (pc + 1, L, vI (jmul a b) :: S2) = some (pc', L', S') := hp
      cases hp
      have h := kk ls hL hlen hLo (am_cons_oks (am_io _) hSo2)
      unfold jmul at h
      rw [List.map_cons, am_cv_i] at h
      exact lv_imul hx hb hdg h
    · cases hp
  · cases htr
    unfold am_p at hp
    simp only at hp
    split at hp
    · rename_i b a S2
      obtain ⟨hbo, hSo1⟩ := am_oks_cons hSo
      obtain ⟨hao, hSo2⟩ := am_oks_cons hSo1
      have hp : some (pc + 1, L, vI (jand a b) :: S2) = some (pc', L', S') := hp
      cases hp
      have h := kk ls hL hlen hLo (am_cons_oks (am_io _) hSo2)
      unfold jand at h
      rw [List.map_cons, am_cv_i] at h
      exact lv_iand hx hb hdg h
    · cases hp
  · cases htr
    unfold am_p at hp
    simp only at hp
    split at hp
    · rename_i b a S2
      obtain ⟨hbo, hSo1⟩ := am_oks_cons hSo
      obtain ⟨hao, hSo2⟩ := am_oks_cons hSo1
      have hp : some (pc + 1, L, vI (jor a b) :: S2) = some (pc', L', S') := hp
      cases hp
      have h := kk ls hL hlen hLo (am_cons_oks (am_io _) hSo2)
      unfold jor at h
      rw [List.map_cons, am_cv_i] at h
      exact lv_ior hx hb hdg h
    · cases hp
  · cases htr
    unfold am_p at hp
    simp only at hp
    split at hp
    · rename_i b a S2
      obtain ⟨hbo, hSo1⟩ := am_oks_cons hSo
      obtain ⟨hao, hSo2⟩ := am_oks_cons hSo1
      have hp : some (pc + 1, L, vI (jxor a b) :: S2) = some (pc', L', S') := hp
      cases hp
      have h := kk ls hL hlen hLo (am_cons_oks (am_io _) hSo2)
      unfold jxor at h
      rw [List.map_cons, am_cv_i] at h
      exact lv_ixor hx hb hdg h
    · cases hp
  · cases htr
    unfold am_p at hp
    simp only at hp
    split at hp
    · rename_i b a S2
      obtain ⟨hbo, hSo1⟩ := am_oks_cons hSo
      obtain ⟨hao, hSo2⟩ := am_oks_cons hSo1
      have hp : some (pc + 1, L, vI (jshl a b) :: S2) = some (pc', L', S') := hp
      cases hp
      have h := kk ls hL hlen hLo (am_cons_oks (am_io _) hSo2)
      unfold jshl at h
      rw [List.map_cons, am_cv_i] at h
      exact lv_ishl hx hb hdg h
    · cases hp
  · cases htr
    unfold am_p at hp
    simp only at hp
    split at hp
    · rename_i b a S2
      obtain ⟨hbo, hSo1⟩ := am_oks_cons hSo
      obtain ⟨hao, hSo2⟩ := am_oks_cons hSo1
      have hp : some (pc + 1, L, vI (jshr a b) :: S2) = some (pc', L', S') := hp
      cases hp
      have h := kk ls hL hlen hLo (am_cons_oks (am_io _) hSo2)
      unfold jshr at h
      rw [List.map_cons, am_cv_i] at h
      exact lv_ishr hx hb hdg h
    · cases hp
  · cases htr
    unfold am_p at hp
    simp only at hp
    split at hp
    · rename_i b a S2
      obtain ⟨hbo, hSo1⟩ := am_oks_cons hSo
      obtain ⟨hao, hSo2⟩ := am_oks_cons hSo1
      have hp : some (pc + 1, L, vI (jushr a b) :: S2) = some (pc', L', S') := hp
      cases hp
      have h := kk ls hL hlen hLo (am_cons_oks (am_io _) hSo2)
      unfold jushr at h
      rw [List.map_cons, am_cv_i] at h
      exact lv_iushr hx hb hdg rfl h
    · cases hp
  · cases htr
    unfold am_p at hp
    simp only at hp
    split at hp
    · rename_i b a S2
      obtain ⟨hbo, hSo1⟩ := am_oks_cons hSo
      obtain ⟨hao, hSo2⟩ := am_oks_cons hSo1
      unfold am_ibin at hp
      simp only at hp
      by_cases e0 : b = 0
      · rw [if_pos e0] at hp; cases hp
      · rw [if_neg e0] at hp
        cases hp
        have h := kk ls hL hlen hLo (am_cons_oks (am_io _) hSo2)
        unfold jdiv at h
        rw [List.map_cons, am_cv_i] at h
        exact lv_idiv hx hb hdg (fun q => e0 ((am_i0 hbo).mp q)) h
    · cases hp
  · cases htr
    unfold am_p at hp
    simp only at hp
    split at hp
    · rename_i b a S2
      obtain ⟨hbo, hSo1⟩ := am_oks_cons hSo
      obtain ⟨hao, hSo2⟩ := am_oks_cons hSo1
      unfold am_ibin at hp
      simp only at hp
      by_cases e0 : b = 0
      · rw [if_pos e0] at hp; cases hp
      · rw [if_neg e0] at hp
        cases hp
        have h := kk ls hL hlen hLo (am_cons_oks (am_io _) hSo2)
        unfold jrem at h
        rw [List.map_cons, am_cv_i] at h
        exact lv_irem hx hb hdg (fun q => e0 ((am_i0 hbo).mp q)) h
    · cases hp
  · cases htr
    unfold am_p at hp
    simp only at hp
    split at hp
    · rename_i a S2
      obtain ⟨hao, hSo2⟩ := am_oks_cons hSo
      have hp : some (pc + 1, L, vI (jneg a) :: S2) = some (pc', L', S') := hp
      cases hp
      have h := kk ls hL hlen hLo (am_cons_oks (am_io _) hSo2)
      unfold jneg at h
      rw [List.map_cons, am_cv_i] at h
      exact lv_ineg hx hb hdg h
    · cases hp
  · cases htr
    unfold am_p at hp
    simp only at hp
    split at hp
    · rename_i a S2
      obtain ⟨hao, hSo2⟩ := am_oks_cons hSo
      have hp : some (pc + 1, L, vI (ji2b a) :: S2) = some (pc', L', S') := hp
      cases hp
      have h := kk ls hL hlen hLo (am_cons_oks (am_io _) hSo2)
      unfold ji2b at h
      rw [List.map_cons, am_cv_i] at h
      exact lv_i2b hx hb hdg rfl h
    · cases hp
  · cases htr
    unfold am_p at hp
    simp only at hp
    split at hp
    · rename_i a S2
      obtain ⟨hao, hSo2⟩ := am_oks_cons hSo
      have hp : some (pc + 1, L, vI (ji2c a) :: S2) = some (pc', L', S') := hp
      cases hp
      have h := kk ls hL hlen hLo (am_cons_oks (am_io _) hSo2)
      unfold ji2c at h
      rw [List.map_cons, am_cv_i] at h
      exact lv_i2c hx hb hdg rfl h
    · cases hp
  · cases htr
    unfold am_p at hp
    simp only at hp
    split at hp
    · rename_i a S2
      obtain ⟨hao, hSo2⟩ := am_oks_cons hSo
      have hp : some (pc + 1, L, vL (ji2l a) :: S2) = some (pc', L', S') := hp
      cases hp
      have h := kk ls hL hlen hLo (am_cons_oks (am_lo _) hSo2)
      unfold ji2l at h
      rw [List.map_cons, am_cv_l] at h
      exact lv_i2l hx hb hdg rfl h
    · cases hp
  · cases htr
    unfold am_p at hp
    simp only at hp
    split at hp
    · rename_i a S2
      obtain ⟨hao, hSo2⟩ := am_oks_cons hSo
      have hp : some (pc + 1, L, vI (jl2i a) :: S2) = some (pc', L', S') := hp
      cases hp
      have h := kk ls hL hlen hLo (am_cons_oks (am_io _) hSo2)
      unfold jl2i at h
      rw [List.map_cons, am_cv_i] at h
      exact lv_l2i hx hb hdg rfl h
    · cases hp
  · cases htr
    unfold am_p at hp
    simp only at hp
    split at hp
    · rename_i b a S2
      obtain ⟨hbo, hSo1⟩ := am_oks_cons hSo
      obtain ⟨hao, hSo2⟩ := am_oks_cons hSo1
      have hp : some (pc + 1, L, vL (kadd a b) :: S2) = some (pc', L', S') := hp
      cases hp
      have h := kk ls hL hlen hLo (am_cons_oks (am_lo _) hSo2)
      unfold kadd at h
      rw [List.map_cons, am_cv_l] at h
      exact lv_ladd hx hb hdg h
    · cases hp
  · cases htr
    unfold am_p at hp
    simp only at hp
    split at hp
    · rename_i b a S2
      obtain ⟨hbo, hSo1⟩ := am_oks_cons hSo
      obtain ⟨hao, hSo2⟩ := am_oks_cons hSo1
      have hp : some (pc + 1, L, vL (ksub a b) :: S2) = some (pc', L', S') := hp
      cases hp
      have h := kk ls hL hlen hLo (am_cons_oks (am_lo _) hSo2)
      unfold ksub at h
      rw [List.map_cons, am_cv_l] at h
      exact lv_lsub hx hb hdg h
    · cases hp
  · cases htr
    unfold am_p at hp
    simp only at hp
    split at hp
    · rename_i b a S2
      obtain ⟨hbo, hSo1⟩ := am_oks_cons hSo
      obtain ⟨hao, hSo2⟩ := am_oks_cons hSo1
      have hp : some (pc + 1, L, vL (kmul a b) :: S2) = some (pc', L', S') := hp
      cases hp
      have h := kk ls hL hlen hLo (am_cons_oks (am_lo _) hSo2)
      unfold kmul at h
      rw [List.map_cons, am_cv_l] at h
      exact lv_lmul hx hb hdg h
    · cases hp
  · cases htr
    unfold am_p at hp
    simp only at hp
    split at hp
    · rename_i b a S2
      obtain ⟨hbo, hSo1⟩ := am_oks_cons hSo
      obtain ⟨hao, hSo2⟩ := am_oks_cons hSo1
      have hp : some (pc + 1, L, vL (kand a b) :: S2) = some (pc', L', S') := hp
      cases hp
      have h := kk ls hL hlen hLo (am_cons_oks (am_lo _) hSo2)
      unfold kand at h
      rw [List.map_cons, am_cv_l] at h
      exact lv_land hx hb hdg h
    · cases hp
  · cases htr
    unfold am_p at hp
    simp only at hp
    split at hp
    · rename_i b a S2
      obtain ⟨hbo, hSo1⟩ := am_oks_cons hSo
      obtain ⟨hao, hSo2⟩ := am_oks_cons hSo1
      have hp : some (pc + 1, L, vL (kor a b) :: S2) = some (pc', L', S') := hp
      cases hp
      have h := kk ls hL hlen hLo (am_cons_oks (am_lo _) hSo2)
      unfold kor at h
      rw [List.map_cons, am_cv_l] at h
      exact lv_lor hx hb hdg h
    · cases hp
  · cases htr
    unfold am_p at hp
    simp only at hp
    split at hp
    · rename_i b a S2
      obtain ⟨hbo, hSo1⟩ := am_oks_cons hSo
      obtain ⟨hao, hSo2⟩ := am_oks_cons hSo1
      unfold am_lbin at hp
      simp only at hp
      by_cases e0 : b = 0
      · rw [if_pos e0] at hp; cases hp
      · rw [if_neg e0] at hp
        cases hp
        have h := kk ls hL hlen hLo (am_cons_oks (am_lo _) hSo2)
        unfold kdiv at h
        rw [List.map_cons, am_cv_l] at h
        exact lv_ldiv hx hb hdg (fun q => e0 ((am_lEq (b := 0) hbo (by decide)).mp q)) h
    · cases hp
  · cases htr
    unfold am_p at hp
    simp only at hp
    split at hp
    · rename_i b a S2
      obtain ⟨hbo, hSo1⟩ := am_oks_cons hSo
      obtain ⟨hao, hSo2⟩ := am_oks_cons hSo1
      unfold am_lbin at hp
      simp only at hp
      by_cases e0 : b = 0
      · rw [if_pos e0] at hp; cases hp
      · rw [if_neg e0] at hp
        cases hp
        have h := kk ls hL hlen hLo (am_cons_oks (am_lo _) hSo2)
        unfold krem at h
        rw [List.map_cons, am_cv_l] at h
        exact lv_lrem hx hb hdg (fun q => e0 ((am_lEq (b := 0) hbo (by decide)).mp q)) h
    · cases hp
  · cases htr
    unfold am_p at hp
    simp only at hp
    split at hp
    · rename_i b a S2
      obtain ⟨hbo, hSo1⟩ := am_oks_cons hSo
      obtain ⟨hao, hSo2⟩ := am_oks_cons hSo1
      cases hp
      have e9 : Int32.ofInt (jcmp a b) = lg_cmp (Int64.ofInt a) (Int64.ofInt b) := by
        unfold jcmp lg_cmp
        have hlt : (Int64.ofInt a > Int64.ofInt b) ↔ b < a := am_lLt hbo hao
        simp only [hlt, am_lEq hao hbo]
        split
        · rfl
        · split <;> rfl
      have o9 : am_ok n (vI (jcmp a b) : AV R1) := by
        show (Int32.ofInt (jcmp a b)).toInt = jcmp a b
        unfold jcmp
        split
        · decide
        · split <;> decide
      have h := kk ls hL hlen hLo (am_cons_oks o9 hSo2)
      have h : W p l e R s m args below meth c H locs cells slots Q (F0 m (pc + 1) ls (.int (Int32.ofInt (jcmp a b)) :: S2.map (am_cv A B))) := h
      rw [e9] at h
      exact W.lcmp hx hb hdg h
    · cases hp
  · cases htr
    unfold am_p at hp
    simp only at hp
    split at hp
    · rename_i v S2
      obtain ⟨hvo, hSo2⟩ := am_oks_cons hSo
      cases hp
      exact lv_dup hx hb hdg rfl (kk ls hL hlen hLo (am_cons_oks hvo hSo))
    · rename_i v S2
      obtain ⟨hvo, hSo2⟩ := am_oks_cons hSo
      cases hp
      exact lv_dup hx hb hdg (by rw [am_cat_cv]; rfl) (kk ls hL hlen hLo (am_cons_oks hvo hSo))
    · cases hp
  · cases htr
    unfold am_p at hp
    simp only at hp
    split at hp
    · rename_i v u S2
      obtain ⟨hvo, hSo1⟩ := am_oks_cons hSo
      obtain ⟨huo, hSo2⟩ := am_oks_cons hSo1
      cases hp
      exact lv_dup2_11 hx hb hdg rfl (by rw [am_cat_cv]; rfl) (kk ls hL hlen hLo (am_cons_oks hvo (am_cons_oks huo hSo)))
    · cases hp
  · cases htr
    unfold am_p at hp
    simp only at hp
    split at hp
    · obtain ⟨hvo, hSo2⟩ := am_oks_cons hSo
      cases hp
      exact lv_pop hx hb hdg rfl (kk ls hL hlen hLo hSo2)
    · obtain ⟨hvo, hSo2⟩ := am_oks_cons hSo
      cases hp
      exact lv_pop hx hb hdg (by rw [am_cat_cv]; rfl) (kk ls hL hlen hLo hSo2)
    · cases hp
  · rename_i cnd o
    obtain ⟨t, ht, htr⟩ := Option.map_eq_some_iff.mp htr
    have ht := am_tgt_eq ht
    cases htr
    unfold am_p at hp
    simp only at hp
    split at hp
    · rename_i b a S2
      obtain ⟨hbo, hSo1⟩ := am_oks_cons hSo
      obtain ⟨hao, hSo2⟩ := am_oks_cons hSo1
      cases hp
      have k := kk ls hL hlen hLo hSo2
      cases cnd with
      | eq =>
        have hif : (@ite _ (am_cond (am_cn .eq) a b) (am_condD (am_cn .eq) a b) y (pc + 3)) = if a = b then y else pc + 3 := by unfold am_cond am_condD am_cn; rfl
        rw [hif] at k
        refine lv_icmp_eq hx hb hdg ht (fun q => ?_) (fun q => ?_)
        · rw [if_pos ((am_iEq hao hbo).mp q)] at k; exact k
        · rw [if_neg (fun z => q ((am_iEq hao hbo).mpr z))] at k; exact k
      | ne =>
        have hif : (@ite _ (am_cond (am_cn .ne) a b) (am_condD (am_cn .ne) a b) y (pc + 3)) = if ¬ a = b then y else pc + 3 := by unfold am_cond am_condD am_cn; rfl
        rw [hif] at k
        refine lv_icmp_ne hx hb hdg ht (fun q => ?_) (fun q => ?_)
        · rw [if_pos ((not_congr (am_iEq hao hbo)).mp q)] at k; exact k
        · rw [if_neg (fun z => z ((am_iEq hao hbo).mp q))] at k; exact k
      | lt =>
        have hif : (@ite _ (am_cond (am_cn .lt) a b) (am_condD (am_cn .lt) a b) y (pc + 3)) = if a < b then y else pc + 3 := by unfold am_cond am_condD am_cn; rfl
        rw [hif] at k
        refine lv_icmp_lt hx hb hdg ht (fun q => ?_) (fun q => ?_)
        · rw [if_pos ((am_iLt hao hbo).mp q)] at k; exact k
        · rw [if_neg (fun z => q ((am_iLt hao hbo).mpr z))] at k; exact k
      | ge =>
        have hif : (@ite _ (am_cond (am_cn .ge) a b) (am_condD (am_cn .ge) a b) y (pc + 3)) = if b ≤ a then y else pc + 3 := by unfold am_cond am_condD am_cn; rfl
        rw [hif] at k
        refine lv_icmp_ge hx hb hdg ht (fun q => ?_) (fun q => ?_)
        · rw [if_pos ((am_iLe hbo hao).mp q)] at k; exact k
        · rw [if_neg (fun z => q ((am_iLe hbo hao).mpr z))] at k; exact k
      | gt =>
        have hif : (@ite _ (am_cond (am_cn .gt) a b) (am_condD (am_cn .gt) a b) y (pc + 3)) = if b < a then y else pc + 3 := by unfold am_cond am_condD am_cn; rfl
        rw [hif] at k
        refine lv_icmp_gt hx hb hdg ht (fun q => ?_) (fun q => ?_)
        · rw [if_pos ((am_iLt hbo hao).mp q)] at k; exact k
        · rw [if_neg (fun z => q ((am_iLt hbo hao).mpr z))] at k; exact k
      | le =>
        have hif : (@ite _ (am_cond (am_cn .le) a b) (am_condD (am_cn .le) a b) y (pc + 3)) = if a ≤ b then y else pc + 3 := by unfold am_cond am_condD am_cn; rfl
        rw [hif] at k
        refine lv_icmp_le hx hb hdg ht (fun q => ?_) (fun q => ?_)
        · rw [if_pos ((am_iLe hao hbo).mp q)] at k; exact k
        · rw [if_neg (fun z => q ((am_iLe hao hbo).mpr z))] at k; exact k
    · cases hp
  · rename_i cnd o
    obtain ⟨t, ht, htr⟩ := Option.map_eq_some_iff.mp htr
    have ht := am_tgt_eq ht
    cases htr
    unfold am_p at hp
    simp only at hp
    split at hp
    · rename_i a S2
      obtain ⟨hao, hSo2⟩ := am_oks_cons hSo
      cases hp
      have k := kk ls hL hlen hLo hSo2
      cases cnd with
      | eq =>
        have hif : (@ite _ (am_cond (am_cn .eq) a 0) (am_condD (am_cn .eq) a 0) y (pc + 3)) = if a = 0 then y else pc + 3 := by unfold am_cond am_condD am_cn; rfl
        rw [hif] at k
        refine lv_if_eq hx hb hdg ht (fun q => ?_) (fun q => ?_)
        · rw [if_pos ((am_i0 hao).mp q)] at k; exact k
        · rw [if_neg (fun z => q ((am_i0 hao).mpr z))] at k; exact k
      | ne =>
        have hif : (@ite _ (am_cond (am_cn .ne) a 0) (am_condD (am_cn .ne) a 0) y (pc + 3)) = if ¬ a = 0 then y else pc + 3 := by unfold am_cond am_condD am_cn; rfl
        rw [hif] at k
        refine lv_if_ne hx hb hdg ht (fun q => ?_) (fun q => ?_)
        · rw [if_pos ((not_congr (am_i0 hao)).mp q)] at k; exact k
        · rw [if_neg (fun z => z ((am_i0 hao).mp q))] at k; exact k
      | lt =>
        have hif : (@ite _ (am_cond (am_cn .lt) a 0) (am_condD (am_cn .lt) a 0) y (pc + 3)) = if a < 0 then y else pc + 3 := by unfold am_cond am_condD am_cn; rfl
        rw [hif] at k
        refine lv_if_lt hx hb hdg ht (fun q => ?_) (fun q => ?_)
        · rw [if_pos ((am_ilt0 hao).mp q)] at k; exact k
        · rw [if_neg (fun z => q ((am_ilt0 hao).mpr z))] at k; exact k
      | ge =>
        have hif : (@ite _ (am_cond (am_cn .ge) a 0) (am_condD (am_cn .ge) a 0) y (pc + 3)) = if 0 ≤ a then y else pc + 3 := by unfold am_cond am_condD am_cn; rfl
        rw [hif] at k
        refine lv_if_ge hx hb hdg ht (fun q => ?_) (fun q => ?_)
        · rw [if_pos ((am_ige0 hao).mp q)] at k; exact k
        · rw [if_neg (fun z => q ((am_ige0 hao).mpr z))] at k; exact k
      | gt =>
        have hif : (@ite _ (am_cond (am_cn .gt) a 0) (am_condD (am_cn .gt) a 0) y (pc + 3)) = if 0 < a then y else pc + 3 := by unfold am_cond am_condD am_cn; rfl
        rw [hif] at k
        refine lv_if_gt hx hb hdg ht (fun q => ?_) (fun q => ?_)
        · rw [if_pos ((am_igt0 hao).mp q)] at k; exact k
        · rw [if_neg (fun z => q ((am_igt0 hao).mpr z))] at k; exact k
      | le =>
        have hif : (@ite _ (am_cond (am_cn .le) a 0) (am_condD (am_cn .le) a 0) y (pc + 3)) = if a ≤ 0 then y else pc + 3 := by unfold am_cond am_condD am_cn; rfl
        rw [hif] at k
        refine lv_if_le hx hb hdg ht (fun q => ?_) (fun q => ?_)
        · rw [if_pos ((am_ile0 hao).mp q)] at k; exact k
        · rw [if_neg (fun z => q ((am_ile0 hao).mpr z))] at k; exact k
    · cases hp
  · rename_i o
    obtain ⟨t, ht, htr⟩ := Option.map_eq_some_iff.mp htr
    have ht := am_tgt_eq ht
    cases htr
    unfold am_p at hp
    simp only at hp
    split at hp
    · obtain ⟨hvo, hSo2⟩ := am_oks_cons hSo
      cases hp
      exact lv_ifnullN hx hb hdg ht (kk ls hL hlen hLo hSo2)
    · rename_i r S2
      obtain ⟨hvo, hSo2⟩ := am_oks_cons hSo
      cases hp
      have k := kk ls hL hlen hLo hSo2
      match r, k with
      | .inl a, k => exact lv_ifnull hx hb hdg k
      | .inr a, k => exact lv_ifnull hx hb hdg k
    · cases hp
  · rename_i o
    obtain ⟨t, ht, htr⟩ := Option.map_eq_some_iff.mp htr
    have ht := am_tgt_eq ht
    cases htr
    unfold am_p at hp
    simp only at hp
    split at hp
    · obtain ⟨hvo, hSo2⟩ := am_oks_cons hSo
      cases hp
      exact lv_ifnonnullN hx hb hdg (kk ls hL hlen hLo hSo2)
    · rename_i r S2
      obtain ⟨hvo, hSo2⟩ := am_oks_cons hSo
      cases hp
      have k := kk ls hL hlen hLo hSo2
      match r, k with
      | .inl a, k => exact lv_ifnonnull hx hb hdg ht k
      | .inr a, k => exact lv_ifnonnull hx hb hdg ht k
    · cases hp
  · rename_i o
    obtain ⟨t, ht, htr⟩ := Option.map_eq_some_iff.mp htr
    have ht := am_tgt_eq ht
    cases htr
    have hp : some (y, L, S) = some (pc', L', S') := hp
    cases hp
    exact lv_goto hx hb hdg ht (kk ls hL hlen hLo hSo)
  · rename_i d lo hi offs
    split at htr
    · rename_i hc
      cases htr
      obtain ⟨c1, c2, c3⟩ := hc
      unfold am_p at hp
      simp only at hp
      split at hp
      · rename_i a S2
        obtain ⟨hao, hSo2⟩ := am_oks_cons hSo
        cases hp
        have k := kk ls hL hlen hLo hSo2
        have hT : (Int32.ofInt a).toInt = a := hao
        by_cases o1 : a < lo ∨ hi < a
        · rw [am_sw_out (pc := pc) (x := a) offs.toList lo 0 (by simp only [Array.length_toList]; omega)] at k
          exact lv_tableOut hx hb hdg (by rw [hT]; exact o1) (tgt := ((pc : Int) + d).toNat) (by omega) k
        · obtain ⟨i, hi1⟩ : ∃ i : Nat, a = lo + (i : Int) := ⟨(a - lo).toNat, by omega⟩
          have hi2 : i < offs.size := by omega
          have hi3 : offs.toList[i]? = some offs[i] := by simp [hi2]
          rw [am_sw_in (pc := pc) (x := a) offs.toList lo 0 i offs[i] hi3 (by rw [hi1]; congr 2; omega)] at k
          have hge := List.all_eq_true.mp c3 offs[i] (List.mem_of_getElem? hi3)
          simp only [decide_eq_true_eq] at hge
          refine lv_tableIn hx hb hdg (by rw [hT]; omega) (by rw [hT]; omega) (off := offs[i]) ?_ (tgt := ((pc : Int) + offs[i]).toNat) (by omega) k
          rw [hT, show (a - lo).toNat = i by omega]
          simp [hi2]
      · cases hp
    · cases htr
  · rename_i d ps
    split at htr
    · rename_i hc
      cases htr
      obtain ⟨c1, c2, c3⟩ := hc
      unfold am_p at hp
      simp only at hp
      split at hp
      · rename_i a S2
        obtain ⟨hao, hSo2⟩ := am_oks_cons hSo
        cases hp
        have k := kk ls hL hlen hLo hSo2
        have hT : (Int32.ofInt a).toInt = a := hao
        exact lv_lookup hx hb hdg c1 (off := Op.lookupswitch.offset ps.toList d a) (by rw [hT]) (am_sw_off c2 _ c3) k
      · cases hp
    · cases htr
  · cases htr
end AMQ
