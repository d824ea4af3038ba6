/-! THE SMALL MACHINE'S CELLS AND THE REAL HEAP: A gives each cell its address, B each thing from outside -/
def am_cv (A B : Nat → Nat) : AV R1 → Value
  | .inl x => .int (Int32.ofInt x)
  | .inr (.inl x) => .long (Int64.ofInt x)
  | .inr (.inr none) => .null
  | .inr (.inr (some (.inl a))) => .ref (A a)
  | .inr (.inr (some (.inr j))) => .ref (B j)
def am_cc (A B : Nat → Nat) (dA : Nat → ClassId) : C1 → va_E
  | .inl (c, fs) => .inr (c, fs.map (am_cv A B))
  | .inr (.inl (t, n, f)) => if t = 3 then .inl (dA 3, n, .inr (.inl (fun j => Int64.ofInt (f j)))) else .inl (dA t, n, .inl (fun j => Int32.ofInt (f j)))
  | .inr (.inr (t, n, g)) => .inl (dA t, n, .inr (.inr (.inr (.inr (fun j => (g j).map A)))))
def am_ws (A B : Nat → Nat) (dA : Nat → ClassId) (w : W1) : va_W := w.mapIdx fun i c => (A i, am_cc A B dA c)
def am_ok (n : Nat) : AV R1 → Prop
  | .inl x => (Int32.ofInt x).toInt = x
  | .inr (.inl x) => (Int64.ofInt x).toInt = x
  | .inr (.inr (some (.inl a))) => a < n
  | _ => True
def am_okc (n : Nat) : C1 → Prop
  | .inl (_, fs) => ∀ v ∈ fs, am_ok n v
  | .inr (.inl (t, _, f)) => t ≤ 3 ∧ ∀ j, if t = 3 then (Int64.ofInt (f j)).toInt = f j else (Int32.ofInt (f j)).toInt = f j
  | .inr (.inr (t, _, g)) => (t = 99 ∨ t = 104 ∨ t = 106 ∨ t = 108) ∧ ∀ j a, g j = some a → a < n
def am_szc (ft : Nat → List Nat) : C1 → Nat
  | .inl (c, _) => (ft c).length
  | .inr (.inl (_, n, _)) => n
  | .inr (.inr (_, n, _)) => n
def am_sl (ft : Nat → List Nat) (w : W1) : Nat := (w.map (am_szc ft)).sum
theorem am_ws_get {A B : Nat → Nat} {dA : Nat → ClassId} {w : W1} (a : Nat) : (am_ws A B dA w)[a]? = (w[a]?).map (fun c => (A a, am_cc A B dA c)) := by
  unfold am_ws
  rw [List.getElem?_mapIdx]
theorem am_ws_at {A B : Nat → Nat} {dA : Nat → ClassId} {w : W1} {a : Nat} {c : C1} (h : w[a]? = some c) : (am_ws A B dA w)[a]? = some (A a, am_cc A B dA c) := by
  rw [am_ws_get, h]; rfl
theorem am_ws_set {A B : Nat → Nat} {dA : Nat → ClassId} {w : W1} {a : Nat} {c : C1} : (am_ws A B dA w).set a (A a, am_cc A B dA c) = am_ws A B dA (w.set a c) := by
  apply List.ext_getElem?
  intro i
  rw [am_ws_get, List.getElem?_set, List.getElem?_set, am_ws_get]
  have hl : (am_ws A B dA w).length = w.length := by unfold am_ws; simp
  rw [hl]
  by_cases h : a = i
  · subst h
    by_cases h2 : a < w.length <;> simp [h2]
  · simp [h]
theorem am_ws_len {A B : Nat → Nat} {dA : Nat → ClassId} {w : W1} : (am_ws A B dA w).length = w.length := by unfold am_ws; simp
theorem am_ok_mono {n n' : Nat} (h : n ≤ n') : ∀ {v : AV R1}, am_ok n v → am_ok n' v
  | .inl _, q => q
  | .inr (.inl _), q => q
  | .inr (.inr none), q => q
  | .inr (.inr (some (.inl _))), q => Nat.lt_of_lt_of_le q h
  | .inr (.inr (some (.inr _))), q => q
theorem am_okc_mono {n n' : Nat} (h : n ≤ n') : ∀ {c : C1}, am_okc n c → am_okc n' c
  | .inl _, q => fun v hv => am_ok_mono h (q v hv)
  | .inr (.inl _), q => q
  | .inr (.inr _), q => ⟨q.1, fun j a e => Nat.lt_of_lt_of_le (q.2 j a e) h⟩
theorem am_cv_congr {n : Nat} {A A' B : Nat → Nat} (hA : ∀ a, a < n → A' a = A a) : ∀ {v : AV R1}, am_ok n v → am_cv A' B v = am_cv A B v
  | .inl _, _ => rfl
  | .inr (.inl _), _ => rfl
  | .inr (.inr none), _ => rfl
  | .inr (.inr (some (.inl a))), q => by show Value.ref (A' a) = .ref (A a); rw [hA a q]
  | .inr (.inr (some (.inr _))), _ => rfl
theorem am_map_congr {n : Nat} {A A' B : Nat → Nat} (hA : ∀ a, a < n → A' a = A a) {S : List (AV R1)} (h : ∀ v ∈ S, am_ok n v) : S.map (am_cv A' B) = S.map (am_cv A B) :=
  List.map_congr_left fun v hv => am_cv_congr hA (h v hv)
theorem am_cc_congr {n : Nat} {A A' B : Nat → Nat} {dA : Nat → ClassId} (hA : ∀ a, a < n → A' a = A a) : ∀ {c : C1}, am_okc n c → am_cc A' B dA c = am_cc A B dA c
  | .inl (c, fs), q => by
    show (Sum.inr (c, fs.map (am_cv A' B)) : va_E) = .inr (c, fs.map (am_cv A B))
    rw [am_map_congr hA q]
  | .inr (.inl _), _ => rfl
  | .inr (.inr (t, n', g)), q => by
    show (Sum.inl (dA t, n', _) : va_E) = .inl (dA t, n', _)
    have : (fun j => (g j).map A') = fun j => (g j).map A := funext fun j => by
      cases hg : g j with
      | none => rfl
      | some a => show some (A' a) = some (A a); rw [hA a (q.2 j a hg)]
    rw [this]
theorem am_ws_app {A A' B : Nat → Nat} {dA : Nat → ClassId} {w : W1} {c : C1} (hA : ∀ a, a < w.length → A' a = A a) (hw : ∀ c ∈ w, am_okc w.length c) : am_ws A' B dA (w ++ [c]) = am_ws A B dA w ++ [(A' w.length, am_cc A' B dA c)] := by
  apply List.ext_getElem?
  intro i
  rw [am_ws_get]
  by_cases h : i < w.length
  · rw [List.getElem?_append_left h, List.getElem?_append_left (by rw [am_ws_len]; exact h), am_ws_get]
    cases hc : w[i]? with
    | none => rfl
    | some x =>
      show some (A' i, _) = some (A i, _)
      rw [hA i h, am_cc_congr hA (hw x (List.mem_of_getElem? hc))]
  · rw [List.getElem?_append_right (by omega), List.getElem?_append_right (by rw [am_ws_len]; omega), am_ws_len]
    by_cases h2 : i = w.length
    · subst h2
      simp
    · have h3 : 1 ≤ i - w.length := by omega
      rw [List.getElem?_eq_none (by simpa using h3), List.getElem?_eq_none (by simpa using h3)]
      rfl
theorem am_ws_same {A A' B : Nat → Nat} {dA : Nat → ClassId} {w : W1} (hA : ∀ a, a < w.length → A' a = A a) (hw : ∀ c ∈ w, am_okc w.length c) : am_ws A' B dA w = am_ws A B dA w := by
  apply List.ext_getElem?
  intro i
  rw [am_ws_get, am_ws_get]
  cases hc : w[i]? with
  | none => rfl
  | some x =>
    show some (A' i, _) = some (A i, _)
    rw [hA i (List.getElem?_eq_some_iff.mp hc).1, am_cc_congr hA (hw x (List.mem_of_getElem? hc))]
theorem am_sl_app {ft : Nat → List Nat} {w : W1} {c : C1} : am_sl ft (w ++ [c]) = am_sl ft w + am_szc ft c := by unfold am_sl; simp
theorem am_sl_set {ft : Nat → List Nat} {c c0 : C1} (hs : am_szc ft c = am_szc ft c0) : ∀ (w : W1) (a : Nat), w[a]? = some c0 → am_sl ft (w.set a c) = am_sl ft w
  | [], a, h => by simp at h
  | x :: w, 0, h => by
    have h : x = c0 := by simpa using h
    subst h
    simp [am_sl, hs]
  | x :: w, a + 1, h => by
    have h : w[a]? = some c0 := by simpa using h
    have := am_sl_set hs w a h
    unfold am_sl at this ⊢
    simp only [List.set_cons_succ, List.map_cons, List.sum_cons, this]
theorem am_cat_cv {A B : Nat → Nat} : ∀ (v : AV R1), (am_cv A B v).category = am_cat v
  | .inl _ => rfl
  | .inr (.inl _) => rfl
  | .inr (.inr none) => rfl
  | .inr (.inr (some (.inl _))) => rfl
  | .inr (.inr (some (.inr _))) => rfl
theorem am_cats {A B : Nat → Nat} (S : List (AV R1)) : (S.map (am_cv A B)).map (fun v => v.category) = S.map am_cat := by
  rw [List.map_map]
  exact List.map_congr_left fun v _ => am_cat_cv v
/-- the locals -/
def am_LR (A B : Nat → Nat) (nL : Nat) (ls : Array Slot) (L : am_L R1) : Prop := ls.size = nL ∧ lv_wf ls ∧ ∀ (j : Nat) (v : AV R1), L[j]? = some (some v) → ls[j]? = some (Slot.val (am_cv A B v))
def am_ent (A B : Nat → Nat) (L : am_L R1) : List (Nat × Value) := (List.range L.length).filterMap fun j => match L[j]? with
  | some (some v) => some (j, am_cv A B v)
  | _ => none
theorem am_ent_mem {A B : Nat → Nat} {L : am_L R1} {q : Nat × Value} : q ∈ am_ent A B L ↔ ∃ v, L[q.1]? = some (some v) ∧ q.2 = am_cv A B v := by
  unfold am_ent
  rw [List.mem_filterMap]
  constructor
  · rintro ⟨j, hj, h⟩
    split at h
    · rename_i v hv
      cases h
      exact ⟨v, hv, rfl⟩
    · cases h
  · rintro ⟨v, h1, h2⟩
    refine ⟨q.1, List.mem_range.mpr (List.getElem?_eq_some_iff.mp h1).1, ?_⟩
    rw [h1]
    show some (q.1, am_cv A B v) = some q
    rw [← h2]
theorem am_LR.has {A B : Nat → Nat} {nL : Nat} {ls : Array Slot} {L : am_L R1} (h : am_LR A B nL ls L) : lv_has ls nL (am_ent A B L) :=
  ⟨h.1, h.2.1, fun q hq => by
    obtain ⟨v, h1, h2⟩ := am_ent_mem.mp hq
    rw [h2]; exact h.2.2 q.1 v h1⟩
theorem am_LR.moved {n : Nat} {A A' B : Nat → Nat} {nL : Nat} {ls : Array Slot} {L : am_L R1} (h : am_LR A B nL ls L) (hA : ∀ a, a < n → A' a = A a) (hL : ∀ v, some v ∈ L → am_ok n v) : am_LR A' B nL ls L :=
  ⟨h.1, h.2.1, fun j v hj => by rw [am_cv_congr hA (hL v (List.mem_of_getElem? hj))]; exact h.2.2 j v hj⟩
theorem am_kill_get {L : am_L R1} {x j : Nat} {v : AV R1} (h : (am_kill x L)[j]? = some (some v)) : L[j]? = some (some v) ∧ ¬ (j + 1 = x ∧ am_isL v = true) := by
  cases x with
  | zero => exact ⟨h, fun q => by omega⟩
  | succ y =>
    unfold am_kill at h
    simp only at h
    split at h
    · rename_i z hz
      by_cases e : y = j
      · subst e
        rw [List.getElem?_set_self (List.getElem?_eq_some_iff.mp hz).1] at h
        simp at h
      · rw [List.getElem?_set_ne e] at h
        exact ⟨h, fun q => e (by omega)⟩
    · rename_i hz
      refine ⟨h, fun q => ?_⟩
      have e : j = y := by omega
      subst e
      obtain ⟨-, q2⟩ := q
      match v, q2 with
      | .inr (.inl z), _ => exact hz z h
theorem am_isL_cat (v : AV R1) : am_isL v = true ↔ am_cat v = 2 := by
  unfold am_cat
  cases am_isL v <;> simp
