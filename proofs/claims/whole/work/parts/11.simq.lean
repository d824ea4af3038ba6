theorem am_oks_cons {n : Nat} {v : AV R1} {S : List (AV R1)} (h : ∀ u ∈ v :: S, am_ok n u) : am_ok n v ∧ ∀ u ∈ S, am_ok n u := ⟨h v List.mem_cons_self, fun u hu => h u (List.mem_cons_of_mem _ hu)⟩
theorem am_cons_oks {n : Nat} {v : AV R1} {S : List (AV R1)} (h : am_ok n v) (hS : ∀ u ∈ S, am_ok n u) : ∀ u ∈ v :: S, am_ok n u := fun u hu => (List.mem_cons.mp hu).elim (fun e => e ▸ h) (hS u)
section AMP
variable {p : Program} {l : Launch} {e : Env} {R : Room} {s : State} {m : MethodId} {args : Array Value} {below : List Frame} {meth : Method} {c : Code} {H : Heap} {locs : List Loc} {cells slots : Nat} {Q : State → Prop}
variable {cc : ByteArray} {pc : Nat} {ls : Array Slot}
theorem am_store1 {A B : Nat → Nat} {nL x : Nat} {v : AV R1} {L L' : am_L R1} {ls' : Array Slot} (hst : am_st x v L = some L') (hv : am_isL v = false) (h : lv_has ls' nL ((x, am_cv A B v) :: (am_ent A B L).filter (fun q => !(q.1 == x) && !(q.1 + 1 == x && q.2.category == 2)))) : am_LR A B nL ls' L' := by
  have hst : (if x < L.length then some ((am_kill x L).set x (some v)) else none) = some L' := by
    match v, hv, hst with
    | .inl _, _, h => exact h
    | .inr (.inr _), _, h => exact h
  split at hst
  · cases hst
    refine ⟨h.1, h.2.1, fun j u hj => ?_⟩
    by_cases e : x = j
    · subst e
      rw [List.getElem?_set_self'] at hj
      have : u = v := by
        cases hk : (am_kill x L)[x]? with
        | none => rw [hk] at hj; simp at hj
        | some z => rw [hk] at hj; simpa using hj.symm
      subst this
      exact h.2.2 (x, _) List.mem_cons_self
    · rw [List.getElem?_set_ne e] at hj
      obtain ⟨h1, h2⟩ := am_kill_get hj
      refine h.2.2 (j, am_cv A B u) (List.mem_cons_of_mem _ (List.mem_filter.mpr ⟨am_ent_mem.mpr ⟨u, h1, rfl⟩, ?_⟩))
      have e1 : ¬ j = x := fun q => e q.symm
      simp only [am_cat_cv, Bool.and_eq_true, Bool.not_eq_true', beq_eq_false_iff_ne, ne_eq, e1, not_false_eq_true, true_and, Bool.and_eq_false_iff]
      by_cases e2 : j + 1 = x
      · right
        intro e3
        exact h2 ⟨e2, (am_isL_cat u).mpr e3⟩
      · left; exact e2
  · cases hst
theorem am_store2 {A B : Nat → Nat} {nL x : Nat} {z : Int} {L L' : am_L R1} {ls' : Array Slot} (hst : am_st x (vL z : AV R1) L = some L') (h : lv_has ls' nL ((x, am_cv A B (vL z)) :: (am_ent A B L).filter (fun q => !(q.1 == x) && (!(q.1 == x + 1) && !(q.1 + 1 == x && q.2.category == 2))))) : am_LR A B nL ls' L' := by
  have hst : (if x + 1 < L.length then some (((am_kill x L).set x (some (vL z))).set (x + 1) none) else none) = some L' := hst
  split at hst
  · cases hst
    refine ⟨h.1, h.2.1, fun j u hj => ?_⟩
    by_cases e0 : x + 1 = j
    · subst e0
      rw [List.getElem?_set_self'] at hj
      cases hk : ((am_kill x L).set x (some (vL z)))[x + 1]? with
      | none => rw [hk] at hj; simp at hj
      | some q => rw [hk] at hj; simp at hj
    · rw [List.getElem?_set_ne e0] at hj
      by_cases e : x = j
      · subst e
        rw [List.getElem?_set_self'] at hj
        have : u = vL z := by
          cases hk : (am_kill x L)[x]? with
          | none => rw [hk] at hj; simp at hj
          | some q => rw [hk] at hj; simpa using hj.symm
        subst this
        exact h.2.2 (x, _) List.mem_cons_self
      · rw [List.getElem?_set_ne e] at hj
        obtain ⟨h1, h2⟩ := am_kill_get hj
        refine h.2.2 (j, am_cv A B u) (List.mem_cons_of_mem _ (List.mem_filter.mpr ⟨am_ent_mem.mpr ⟨u, h1, rfl⟩, ?_⟩))
        have e1 : ¬ j = x := fun q => e q.symm
        have e3 : ¬ j = x + 1 := fun q => e0 q.symm
        simp only [am_cat_cv, Bool.and_eq_true, Bool.not_eq_true', beq_eq_false_iff_ne, ne_eq, e1, e3, not_false_eq_true, true_and, Bool.and_eq_false_iff]
        by_cases e2 : j + 1 = x
        · right
          intro e3
          exact h2 ⟨e2, (am_isL_cat u).mpr e3⟩
        · left; exact e2
  · cases hst
theorem am_inc {A B : Nat → Nat} {nL x : Nat} {z z' : Int} {L : am_L R1} {ls ls' : Array Slot} (hl : am_LR A B nL ls L) (hx : L[x]? = some (some (vI z))) (h : lv_has ls' nL ((x, am_cv A B (vI z')) :: (am_ent A B L).filter (fun q => !(q.1 == x) && !(q.1 + 1 == x && q.2.category == 2)))) : am_LR A B nL ls' (L.set x (some (vI z'))) := by
  refine ⟨h.1, h.2.1, fun j u hj => ?_⟩
  by_cases e : x = j
  · subst e
    rw [List.getElem?_set_self (List.getElem?_eq_some_iff.mp hx).1] at hj
    have : u = vI z' := by simpa using hj.symm
    subst this
    exact h.2.2 (x, _) List.mem_cons_self
  · rw [List.getElem?_set_ne e] at hj
    refine h.2.2 (j, am_cv A B u) (List.mem_cons_of_mem _ (List.mem_filter.mpr ⟨am_ent_mem.mpr ⟨u, hj, rfl⟩, ?_⟩))
    have e1 : ¬ j = x := fun q => e q.symm
    simp only [am_cat_cv, Bool.and_eq_true, Bool.not_eq_true', beq_eq_false_iff_ne, ne_eq, e1, not_false_eq_true, true_and, Bool.and_eq_false_iff]
    by_cases e2 : j + 1 = x
    · right
      intro e3
      have h3 := hl.2.1.1 j _ (hl.2.2 j u hj) (by rw [am_cat_cv]; exact e3)
      rw [e2, hl.2.2 x _ hx] at h3
      cases h3
    · left; exact e2
end AMP
