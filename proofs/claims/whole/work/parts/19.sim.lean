/-! THE MACHINE DOES WHAT THE SMALL MACHINE DOES -/
theorem am_trp_op {ins : Jvm.ClassFile.Instr} {pc len op x y : Nat} {im : Int} {tb : List (Int × Nat)} (h : am_trp ins pc len = some (op, x, y, im, tb)) : op ≤ 19 := by
  unfold am_trp at h
  split at h
  all_goals first
    | (cases h; decide)
    | (obtain ⟨t, -, h⟩ := Option.map_eq_some_iff.mp h; cases h; decide)
    | (split at h
       · cases h; decide
       · cases h)
    | cases h
theorem am_take_split {S : List (AV R1)} {y : Nat} : S = (S.take y).reverse.reverse ++ S.drop y := by
  rw [List.reverse_reverse, List.take_append_drop]
theorem am_oks_take {n y : Nat} {S : List (AV R1)} (h : ∀ v ∈ S, am_ok n v) : ∀ v ∈ (S.take y).reverse, am_ok n v := fun v hv => h v (List.mem_of_mem_take (List.mem_reverse.mp hv))
theorem am_oks_drop {n y : Nat} {S : List (AV R1)} (h : ∀ v ∈ S, am_ok n v) : ∀ v ∈ S.drop y, am_ok n v := fun v hv => h v (List.mem_of_mem_drop hv)
/-- a request, taken apart -/
theorem am_run_mem {sl : Nat} {sx : Nat → Int} {n d k pc nx x y : Nat} {im : Int} {tb : List (Int × Nat)} {L : am_L R1} {S : List (AV R1)} {w w' : W1} {rv : Option (AV R1)} (hP : am_P k pc = some ((24, x, y, im, tb), nx)) (h : am_run am_P am_nl (m1 am_ft am_T sl sx) (n + 1) d k pc L S w = some (rv, w')) :
    1 ≤ d ∧ y ≤ S.length ∧ am_small (S.drop y) = true ∧ ∃ rv1 w1, m1 am_ft am_T sl sx x im.toNat (S.take y).reverse w = some (rv1, w1) ∧ am_run am_P am_nl (m1 am_ft am_T sl sx) n d k nx L (rv1.toList ++ S.drop y) w1 = some (rv, w') := by
  unfold am_run at h
  rw [hP] at h
  simp only at h
  split at h
  · cases h
  · split at h
    · rename_i hc
      split at h
      · cases h
      · rename_i rv1 w1 hm
        exact ⟨by omega, hc.1, hc.2, rv1, w1, hm, h⟩
    · cases h
theorem am_run_call {sl : Nat} {sx : Nat → Int} {n d k pc nx x y : Nat} {im : Int} {tb : List (Int × Nat)} {L : am_L R1} {S : List (AV R1)} {w w' : W1} {rv : Option (AV R1)} (hP : am_P k pc = some ((21, x, y, im, tb), nx)) (h : am_run am_P am_nl (m1 am_ft am_T sl sx) (n + 1) d k pc L S w = some (rv, w')) :
    ∃ d', d = d' + 1 ∧ y ≤ S.length ∧ am_small (S.drop y) = true ∧ ((S.take y).map am_cat).sum ≤ am_nl x ∧ (im = 1 ∨ (m1 am_ft am_T sl sx 17 x ((S.take y).reverse.take 1) w).isSome = true) ∧ ∃ rv1 w1, am_run am_P am_nl (m1 am_ft am_T sl sx) n d' x 0 (am_loc (am_nl x) (S.take y).reverse) [] w = some (rv1, w1) ∧ am_run am_P am_nl (m1 am_ft am_T sl sx) n d k nx L (rv1.toList ++ S.drop y) w1 = some (rv, w') := by
  unfold am_run at h
  rw [hP] at h
  simp only at h
  split at h
  · cases h
  · rename_i d'
    split at h
    · rename_i hc
      split at h
      · cases h
      · rename_i rv1 w1 hm
        exact ⟨d', rfl, hc.1, hc.2.1, hc.2.2.1, hc.2.2.2, rv1, w1, hm, h⟩
    · cases h
theorem am_run_p {sl : Nat} {sx : Nat → Int} {n d k pc nx op x y : Nat} {im : Int} {tb : List (Int × Nat)} {L : am_L R1} {S : List (AV R1)} {w w' : W1} {rv : Option (AV R1)} (hP : am_P k pc = some ((op, x, y, im, tb), nx)) (hop : op ≤ 19) (h : am_run am_P am_nl (m1 am_ft am_T sl sx) (n + 1) d k pc L S w = some (rv, w')) :
    ∃ pc' L' S', am_p op x y im tb nx L S = some (pc', L', S') ∧ am_run am_P am_nl (m1 am_ft am_T sl sx) n d k pc' L' S' w = some (rv, w') := by
  unfold am_run at h
  rw [hP] at h
  simp only at h
  split at h
  · omega
  · omega
  · omega
  · omega
  · split at h
    · cases h
    · rename_i pc' L' S' hp
      exact ⟨pc', L', S', hp, h⟩
def am_retOk (x : Nat) (v : AV R1) : Bool := match x, v with
  | 0, .inl _ => true
  | 1, .inl z => decide (z = 0 ∨ z = 1)
  | 2, .inr (.inl _) => true
  | 3, .inr (.inr _) => true
  | 4, .inl z => decide (0 ≤ z ∧ z ≤ 127)
  | _, _ => false
theorem am_run_ret {sl : Nat} {sx : Nat → Int} {n d k pc nx x y : Nat} {im : Int} {tb : List (Int × Nat)} {L : am_L R1} {S : List (AV R1)} {w w' : W1} {rv : Option (AV R1)} (hP : am_P k pc = some ((22, x, y, im, tb), nx)) (h : am_run am_P am_nl (m1 am_ft am_T sl sx) (n + 1) d k pc L S w = some (rv, w')) :
    ∃ v, S = [v] ∧ rv = some v ∧ w' = w ∧ am_retOk x v = true := by
  unfold am_run at h
  rw [hP] at h
  simp only at h
  split at h
  · split at h
    · rw [if_pos rfl] at h
      cases h
      exact ⟨_, rfl, rfl, rfl, rfl⟩
    · split at h
      · rename_i hc
        cases h
        exact ⟨_, rfl, rfl, rfl, hc⟩
      · cases h
    · rw [if_pos rfl] at h
      cases h
      exact ⟨_, rfl, rfl, rfl, rfl⟩
    · rw [if_pos rfl] at h
      cases h
      exact ⟨_, rfl, rfl, rfl, rfl⟩
    · split at h
      · rename_i hc
        cases h
        exact ⟨_, rfl, rfl, rfl, hc⟩
      · cases h
    · rw [if_neg (by decide)] at h
      cases h
  · cases h
theorem am_run_retv {sl : Nat} {sx : Nat → Int} {n d k pc nx x y : Nat} {im : Int} {tb : List (Int × Nat)} {L : am_L R1} {S : List (AV R1)} {w w' : W1} {rv : Option (AV R1)} (hP : am_P k pc = some ((23, x, y, im, tb), nx)) (h : am_run am_P am_nl (m1 am_ft am_T sl sx) (n + 1) d k pc L S w = some (rv, w')) : S = [] ∧ rv = none ∧ w' = w := by
  unfold am_run at h
  rw [hP] at h
  simp only at h
  split at h
  · cases h
    exact ⟨rfl, rfl, rfl⟩
  · cases h
/-- the receiver of a call: a cell of its method's class, or a text -/
theorem am_recv {sl : Nat} {sx : Nat → Int} {x : Nat} {as : List (AV R1)} {w : W1} (h : (m1 am_ft am_T sl sx 17 x (as.take 1) w).isSome = true) : (∃ a r fs, as = vR (.inl a) :: r ∧ w[a]? = some (.inl (am_o x, fs))) ∨ ∃ j r, as = vR (.inr j) :: r ∧ 1 ≤ j ∧ j ≤ 23 ∧ am_o x = 16 := by
  have h : (match as.take 1 with
    | [.inr (.inr (some (.inl a)))] => match w[a]? with
      | some (.inl (c, _)) => if c = am_o x then some ((none : Option (AV R1)), w) else none
      | _ => none
    | [.inr (.inr (some (.inr j)))] => if 1 ≤ j ∧ j ≤ am_T.length ∧ am_o x = 16 then some (none, w) else none
    | _ => none : Option (Option (AV R1) × W1)).isSome = true := h
  split at h
  · rename_i a ha
    split at h
    · rename_i c fs hw
      split at h
      · rename_i hc
        subst hc
        match as, ha with
        | v :: r, ha =>
          have : v = vR (.inl a) := by simpa using ha
          subst this
          exact Or.inl ⟨a, r, fs, rfl, hw⟩
      · cases h
    · cases h
  · rename_i j ha
    split at h
    · rename_i hc
      obtain ⟨h1, h2, h3⟩ := hc
      rw [am_T_len] at h2
      match as, ha with
      | v :: r, ha =>
        have : v = vR (.inr j) := by simpa using ha
        subst this
        exact Or.inr ⟨j, r, rfl, h1, h2, h3⟩
    · cases h
  · cases h
theorem am_ocA : (List.range am_NM).all (fun t => Nat.beq (am_stat t) 1 || (decide (am_o t < 13) || (Nat.beq (am_o t) 16 && decide ((am_y t).name ≠ "<init>")))) = true := by decide +kernel
theorem am_oc_lt {t : Nat} (h : t < am_NM) (hs : ¬ am_stat t = 1) : am_o t < 13 ∨ (am_o t = 16 ∧ (am_y t).name ≠ "<init>") := by
  have h1 := List.all_eq_true.mp am_ocA t (List.mem_range.mpr h)
  simp only [Bool.or_eq_true, Bool.and_eq_true, decide_eq_true_eq] at h1
  rcases h1 with q | q | ⟨q, q2⟩
  · exact absurd (Nat.eq_of_beq_eq_true q) hs
  · exact Or.inl q
  · exact Or.inr ⟨Nat.eq_of_beq_eq_true q, q2⟩
theorem am_cl_nmq {c : Nat} (h : c < 13) : ∃ q, am_cl[c]? = some q ∧ q.1 = am_nm c := by
  match c, h with
  | 0, _ => exact ⟨_, rfl, rfl⟩
  | 1, _ => exact ⟨_, rfl, rfl⟩
  | 2, _ => exact ⟨_, rfl, rfl⟩
  | 3, _ => exact ⟨_, rfl, rfl⟩
  | 4, _ => exact ⟨_, rfl, rfl⟩
  | 5, _ => exact ⟨_, rfl, rfl⟩
  | 6, _ => exact ⟨_, rfl, rfl⟩
  | 7, _ => exact ⟨_, rfl, rfl⟩
  | 8, _ => exact ⟨_, rfl, rfl⟩
  | 9, _ => exact ⟨_, rfl, rfl⟩
  | 10, _ => exact ⟨_, rfl, rfl⟩
  | 11, _ => exact ⟨_, rfl, rfl⟩
  | 12, _ => exact ⟨_, rfl, rfl⟩
  | n + 13, h => omega
theorem am_R_cls {D : va_G} {dA : Nat → ClassId} {A B : Nat → Nat} {Af : Nat → Prop} {H0 H : Heap} {locs : List Loc} {w : W1} {a c : Nat} {fs : List (AV R1)} (hR : am_R D dA A B Af H0 H locs w) (h : w[a]? = some (.inl (c, fs))) : c < 13 := by
  obtain ⟨r, h1, -⟩ := hR.1 a _ (am_ws_at h)
  exact am_cl_lt h1
section AMCC
variable {p : Program} {l : Launch} {e : Env} {R : Room} {s : State} {m : MethodId} {args : Array Value} {below : List Frame} {meth : Method} {c : Code} {H : Heap} {locs : List Loc} {cells slots : Nat} {Q : State → Prop}
variable {pc : Nat} {ls : Array Slot} {D : va_G} {dA : Nat → ClassId} {A B : Nat → Nat} {sl : Nat} {xs : Nat → Int32} {Af : Nat → Prop} {w w' : W1} {rv : Option (AV R1)} {k n d : Nat} {L : am_L R1} {S : List (AV R1)}
/-- what a callee's start asks -/
theorem am_pre {as : List (AV R1)} {U : State} (hE : am_E D dA B sl xs Af s s.heap) (hA : ∀ q, s.heap.size ≤ q → Af q) (hR : am_R D dA A B Af s.heap H locs w) (hU : U.heap = H) (hW : s.WarmedH U.vm) : am_Pc D dA A B sl xs w H.size as ((as.map (am_cv A B)).toArray) U := by
  have hF : ∀ q, va_A (am_ws A B dA w) H.size q → Af q := fun q h => by
    rcases h with ⟨k9, e9, h⟩ | h
    · exact hR.2.1.2 k9 _ h
    · exact hA q (Nat.le_trans hR.2.2.1.1 h)
  have h1 := ((hE.kept hR.2.2.1).narrow hF).moved hW
  exact ⟨rfl, by rw [hU], by rw [hU]; exact hR.1, hR.2.1.weaken (fun _ _ _ _ => trivial), by rw [hU]; exact h1⟩
theorem am_c_virtual (hS : am_Sim sl xs n) (hx : p.tables.exec = Jvm.exec) (hb : c.code = am_bc k) (hml : c.maxLocals = am_nl k) (hown : s.vm.findClass (am_nm (am_o k)) = some m.cls) (hts : ∀ w ∈ am_gw, w.before args s = true) (hE : am_E D dA B sl xs Af s s.heap) (hA : ∀ q, s.heap.size ≤ q → Af q) (hR : am_R D dA A B Af s.heap H locs w)
    (hL : am_LR A B (am_nl k) ls L) (hSo : ∀ v ∈ S, am_ok w.length v) (hfr : d ≤ R.frames) (hlo : 100 * d ≤ R.locals) {i t : Nat} (hl : am_ml (am_o k) i = some (0, t)) (hdg : decode (am_bc k) pc = .ok (.invokevirtual i, 3))
    (hc : ∃ d', d = d' + 1 ∧ am_np t + 1 ≤ S.length ∧ am_small (S.drop (am_np t + 1)) = true ∧ ((S.take (am_np t + 1)).map am_cat).sum ≤ am_nl t ∧ ((0 : Int) = 1 ∨ (m1 am_ft am_T sl (fun j => (xs j).toInt) 17 t ((S.take (am_np t + 1)).reverse.take 1) w).isSome = true) ∧ ∃ rv1 w1, am_run am_P am_nl (m1 am_ft am_T sl (fun j => (xs j).toInt)) n d' t 0 (am_loc (am_nl t) (S.take (am_np t + 1)).reverse) [] w = some (rv1, w1) ∧ am_run am_P am_nl (m1 am_ft am_T sl (fun j => (xs j).toInt)) n d k (pc + 3) L (rv1.toList ++ S.drop (am_np t + 1)) w1 = some (rv, w'))
    (room : ∀ {w1 : W1} {S1 : List (AV R1)}, am_le w w1 → am_run am_P am_nl (m1 am_ft am_T sl (fun j => (xs j).toInt)) n d k (pc + 3) L S1 w1 = some (rv, w') → cells + (w1.length - w.length) ≤ R.cells ∧ slots + (am_sl am_ft w1 - am_sl am_ft w) ≤ R.slots)
    (go : ∀ {rv1 : Option (AV R1)} {w1 : W1} {y : Nat}, am_le w w1 → am_run am_P am_nl (m1 am_ft am_T sl (fun j => (xs j).toInt)) n d k (pc + 3) L (rv1.toList ++ S.drop y) w1 = some (rv, w') → am_K p l e R s m args below meth c cells slots Q D dA A B Af w w1 rv1 (pc + 3) ls (S.drop y)) :
    W p l e R s m args below meth c H locs cells slots Q (F0 m pc ls (S.map (am_cv A B))) := by
  obtain ⟨d', rfl, hy, hsm, hcat, hrc, rv1, w1, hr1, hr2⟩ := hc
  obtain ⟨pos, hC, -⟩ := am_ml_ok hl
  unfold am_mlC at hC
  simp only [Bool.and_eq_true, decide_eq_true_eq, Bool.not_eq_true'] at hC
  obtain ⟨c1, ht, c3, c4⟩ := hC
  have hsel : ¬ am_selp t = 0 := fun q => by rw [q] at c3; cases c3
  have hst : ¬ am_stat t = 1 := fun q => by rw [q] at c4; cases c4
  obtain ⟨g1, g2, g3, g4, g5, g6, g7, g8⟩ := am_m_ok ht
  rw [if_neg hst] at g2
  obtain ⟨v0, r, b0, has, hcv, hcell⟩ : ∃ (v0 : AV R1) (r : List (AV R1)) (b0 : Nat), (S.take (am_np t + 1)).reverse = v0 :: r ∧ am_cv A B v0 = .ref b0 ∧ ∃ cellB : Cell, H[b0]? = some cellB ∧ cellB.vm.isStatics = false ∧ s.vm.findClass (am_y t).cls = some cellB.cls := by
    rw [am_ycl (by omega)]
    rcases am_recv (hrc.resolve_left (by decide)) with ⟨a, r, fs, has, hwa⟩ | ⟨j, r, has, j1, j2, j3⟩
    · rcases am_oc_lt ht hst with ho | ⟨ho, -⟩
      · obtain ⟨q, hq, hqn⟩ := am_cl_nmq ho
        exact ⟨_, r, A a, has, rfl, by rw [← hqn]; exact va_recv hE.K hR.1 hq (am_ws_at hwa)⟩
      · exact absurd (am_R_cls hR hwa) (by omega)
    · have h1 := vk_recv hE.2.2.1 (i := j - 1) (by omega) hR.2.2.1
      rw [show j - 1 + 1 = j by omega] at h1
      exact ⟨_, r, B j, has, rfl, by rw [j3]; exact h1⟩
  have hle1 := am_mono _ _ _ _ _ _ _ _ _ hr1
  obtain ⟨r1, r2⟩ := room hle1 hr2
  have hso2 := am_oks_take (y := am_np t + 1) hSo
  have hM := am_met hS ht hr1 (by rw [List.map_reverse, List.sum_reverse]; exact hcat) hso2 hR.2.2.2 l D dA A B H.size
  rw [has] at hM
  have hlen : r.length = am_np t := by
    have := congrArg List.length has
    simp only [List.length_reverse, List.length_take, List.length_cons] at this
    omega
  have hcats := am_cats_le (A := A) (B := B) hsm
  have hstack : S.map (am_cv A B) = (r.map (am_cv A B)).reverse ++ .ref b0 :: (S.drop (am_np t + 1)).map (am_cv A B) := by
    have e1 := am_take_split (S := S) (y := am_np t + 1)
    rw [has] at e1
    conv => lhs; rw [e1]
    simp [List.map_append, List.map_reverse, hcv]
  have hrun := va_runV (l := l) (e := e) (below := below) (meth := meth) (locs := locs) (cells := cells) (slots := slots) (g := F0 m pc ls (S.map (am_cv A B))) (As := r.map (am_cv A B)) (rest := (S.drop (am_np t + 1)).map (am_cv A B)) (C := (am_y t).cls) (b := b0) (n := am_np t) (Ts := am_gw) ⟨hx, hb, hml, hown, hts⟩ hM
    ⟨callB_of (am_np t) hts (am_ws1_good ht) rfl rfl rfl (hts _ g1) (hts _ (am_at_mem c1)) ⟨g5, g6, g7⟩ ⟨by show d' + 1 ≤ R.frames; omega, by show 8 + (am_nl t + 11) + 100 * d' ≤ R.locals; omega⟩, hts _ g2, hts _ (g3 hsel)⟩
    ⟨am_blind, hcell, fun U hU hW => by have q := am_pre (as := v0 :: r) hE hA hR hU hW; rw [List.map_cons, hcv] at q; exact q⟩ rfl (by rw [List.length_map]; exact hlen) hL.1 hstack (lv_room hcats) hdg ⟨r1, r2⟩
  exact am_callR rfl rfl hrun hR hA (am_oks_drop hSo) hle1.1 (go hle1 hr2)
theorem am_c_static (hS : am_Sim sl xs n) (hx : p.tables.exec = Jvm.exec) (hb : c.code = am_bc k) (hml : c.maxLocals = am_nl k) (hown : s.vm.findClass (am_nm (am_o k)) = some m.cls) (hts : ∀ w ∈ am_gw, w.before args s = true) (hE : am_E D dA B sl xs Af s s.heap) (hA : ∀ q, s.heap.size ≤ q → Af q) (hR : am_R D dA A B Af s.heap H locs w)
    (hL : am_LR A B (am_nl k) ls L) (hSo : ∀ v ∈ S, am_ok w.length v) (hfr : d ≤ R.frames) (hlo : 100 * d ≤ R.locals) {i t : Nat} (hl : am_ml (am_o k) i = some (1, t)) (hdg : decode (am_bc k) pc = .ok (.invokestatic i, 3))
    (hc : ∃ d', d = d' + 1 ∧ am_np t ≤ S.length ∧ am_small (S.drop (am_np t)) = true ∧ ((S.take (am_np t)).map am_cat).sum ≤ am_nl t ∧ ((1 : Int) = 1 ∨ (m1 am_ft am_T sl (fun j => (xs j).toInt) 17 t ((S.take (am_np t)).reverse.take 1) w).isSome = true) ∧ ∃ rv1 w1, am_run am_P am_nl (m1 am_ft am_T sl (fun j => (xs j).toInt)) n d' t 0 (am_loc (am_nl t) (S.take (am_np t)).reverse) [] w = some (rv1, w1) ∧ am_run am_P am_nl (m1 am_ft am_T sl (fun j => (xs j).toInt)) n d k (pc + 3) L (rv1.toList ++ S.drop (am_np t)) w1 = some (rv, w'))
    (room : ∀ {w1 : W1} {S1 : List (AV R1)}, am_le w w1 → am_run am_P am_nl (m1 am_ft am_T sl (fun j => (xs j).toInt)) n d k (pc + 3) L S1 w1 = some (rv, w') → cells + (w1.length - w.length) ≤ R.cells ∧ slots + (am_sl am_ft w1 - am_sl am_ft w) ≤ R.slots)
    (go : ∀ {rv1 : Option (AV R1)} {w1 : W1} {y : Nat}, am_le w w1 → am_run am_P am_nl (m1 am_ft am_T sl (fun j => (xs j).toInt)) n d k (pc + 3) L (rv1.toList ++ S.drop y) w1 = some (rv, w') → am_K p l e R s m args below meth c cells slots Q D dA A B Af w w1 rv1 (pc + 3) ls (S.drop y)) :
    W p l e R s m args below meth c H locs cells slots Q (F0 m pc ls (S.map (am_cv A B))) := by
  obtain ⟨d', rfl, hy, hsm, hcat, -, rv1, w1, hr1, hr2⟩ := hc
  obtain ⟨pos, hC, -⟩ := am_ml_ok hl
  unfold am_mlC at hC
  simp only [Bool.and_eq_true, decide_eq_true_eq] at hC
  obtain ⟨c1, ht, c4⟩ := hC
  have hst : am_stat t = 1 := Nat.eq_of_beq_eq_true c4
  obtain ⟨g1, g2, g3, g4, g5, g6, g7, g8⟩ := am_m_ok ht
  rw [if_pos hst] at g2
  have hle1 := am_mono _ _ _ _ _ _ _ _ _ hr1
  obtain ⟨r1, r2⟩ := room hle1 hr2
  have hso2 := am_oks_take (y := am_np t) hSo
  have hM := am_met hS ht hr1 (by rw [List.map_reverse, List.sum_reverse]; exact hcat) hso2 hR.2.2.2 l D dA A B H.size
  have hlen : (S.take (am_np t)).reverse.length = am_np t := by
    simp only [List.length_reverse, List.length_take]
    omega
  have hcats := am_cats_le (A := A) (B := B) hsm
  have hstack : S.map (am_cv A B) = ((S.take (am_np t)).reverse.map (am_cv A B)).reverse ++ (S.drop (am_np t)).map (am_cv A B) := by
    rw [← List.map_reverse, List.reverse_reverse, ← List.map_append, List.take_append_drop]
  have hrun := va_runS (l := l) (e := e) (below := below) (meth := meth) (locs := locs) (cells := cells) (slots := slots) (g := F0 m pc ls (S.map (am_cv A B))) (As := (S.take (am_np t)).reverse.map (am_cv A B)) (rest := (S.drop (am_np t)).map (am_cv A B)) (n := am_np t) (Ts := am_gw) ⟨hx, hb, hml, hown, hts⟩ hM
    ⟨callB_of (am_np t) hts (am_ws1_good ht) rfl rfl rfl (hts _ g1) (hts _ (am_at_mem c1)) ⟨g5, g6, g7⟩ ⟨by show d' + 1 ≤ R.frames; omega, by show 8 + (am_nl t + 11) + 100 * d' ≤ R.locals; omega⟩, hts _ g2⟩
    ⟨am_blind, fun U hU hW => am_pre hE hA hR hU hW⟩ rfl (by rw [List.length_map]; exact hlen) hL.1 hstack (lv_room hcats) hdg ⟨r1, r2⟩
  exact am_callR rfl rfl hrun hR hA (am_oks_drop hSo) hle1.1 (go hle1 hr2)
theorem am_c_special (hS : am_Sim sl xs n) (hx : p.tables.exec = Jvm.exec) (hb : c.code = am_bc k) (hml : c.maxLocals = am_nl k) (hown : s.vm.findClass (am_nm (am_o k)) = some m.cls) (hts : ∀ w ∈ am_gw, w.before args s = true) (hE : am_E D dA B sl xs Af s s.heap) (hA : ∀ q, s.heap.size ≤ q → Af q) (hR : am_R D dA A B Af s.heap H locs w)
    (hL : am_LR A B (am_nl k) ls L) (hSo : ∀ v ∈ S, am_ok w.length v) (hfr : d ≤ R.frames) (hlo : 100 * d ≤ R.locals) {i t : Nat} {im : Int} (hl : am_ml (am_o k) i = some (2, t) ∨ am_ml (am_o k) i = some (3, t)) (him : ¬ im = 1) (hdg : decode (am_bc k) pc = .ok (.invokespecial i, 3))
    (hc : ∃ d', d = d' + 1 ∧ am_np t + 1 ≤ S.length ∧ am_small (S.drop (am_np t + 1)) = true ∧ ((S.take (am_np t + 1)).map am_cat).sum ≤ am_nl t ∧ (im = 1 ∨ (m1 am_ft am_T sl (fun j => (xs j).toInt) 17 t ((S.take (am_np t + 1)).reverse.take 1) w).isSome = true) ∧ ∃ rv1 w1, am_run am_P am_nl (m1 am_ft am_T sl (fun j => (xs j).toInt)) n d' t 0 (am_loc (am_nl t) (S.take (am_np t + 1)).reverse) [] w = some (rv1, w1) ∧ am_run am_P am_nl (m1 am_ft am_T sl (fun j => (xs j).toInt)) n d k (pc + 3) L (rv1.toList ++ S.drop (am_np t + 1)) w1 = some (rv, w'))
    (room : ∀ {w1 : W1} {S1 : List (AV R1)}, am_le w w1 → am_run am_P am_nl (m1 am_ft am_T sl (fun j => (xs j).toInt)) n d k (pc + 3) L S1 w1 = some (rv, w') → cells + (w1.length - w.length) ≤ R.cells ∧ slots + (am_sl am_ft w1 - am_sl am_ft w) ≤ R.slots)
    (go : ∀ {rv1 : Option (AV R1)} {w1 : W1} {y : Nat}, am_le w w1 → am_run am_P am_nl (m1 am_ft am_T sl (fun j => (xs j).toInt)) n d k (pc + 3) L (rv1.toList ++ S.drop y) w1 = some (rv, w') → am_K p l e R s m args below meth c cells slots Q D dA A B Af w w1 rv1 (pc + 3) ls (S.drop y)) :
    W p l e R s m args below meth c H locs cells slots Q (F0 m pc ls (S.map (am_cv A B))) := by
  obtain ⟨d', rfl, hy, hsm, hcat, hrc, rv1, w1, hr1, hr2⟩ := hc
  have hcom : t < am_NM ∧ (am_y t).name = "<init>" ∧ ¬ am_stat t = 1 ∧ am_rt t = none := by
    rcases hl with hl | hl
    · obtain ⟨pos, hC, -⟩ := am_ml_ok hl
      unfold am_mlC at hC
      simp only [Bool.and_eq_true, decide_eq_true_eq, Bool.not_eq_true'] at hC
      exact ⟨hC.2.1, hC.2.2.1, (fun q => by have := hC.2.2.2.1; rw [q] at this; cases this), hC.2.2.2.2⟩
    · obtain ⟨pos, hC, -⟩ := am_ml_ok hl
      unfold am_mlC at hC
      simp only [Bool.and_eq_true, decide_eq_true_eq, Bool.not_eq_true'] at hC
      exact ⟨hC.1, hC.2.1, (fun q => by have := hC.2.2.1; rw [q] at this; cases this), hC.2.2.2⟩
  obtain ⟨ht, hname, hst, hrt⟩ := hcom
  obtain ⟨g1, g2, g3, g4, g5, g6, g7, g8⟩ := am_m_ok ht
  rw [if_neg hst] at g2
  obtain ⟨a, r, fs, has, hwa⟩ : ∃ a r fs, (S.take (am_np t + 1)).reverse = vR (.inl a) :: r ∧ w[a]? = some (.inl (am_o t, fs)) := by
    rcases am_recv (hrc.resolve_left him) with h | ⟨j, r, has, j1, j2, j3⟩
    · exact h
    · rcases am_oc_lt ht hst with ho | ⟨ho, hn⟩
      · omega
      · exact absurd hname hn
  have hle1 := am_mono _ _ _ _ _ _ _ _ _ hr1
  obtain ⟨r1, r2⟩ := room hle1 hr2
  have hso2 := am_oks_take (y := am_np t + 1) hSo
  have hM := am_met hS ht hr1 (by rw [List.map_reverse, List.sum_reverse]; exact hcat) hso2 hR.2.2.2 l D dA A B H.size
  rw [has] at hM
  have hlen : r.length = am_np t := by
    have := congrArg List.length has
    simp only [List.length_reverse, List.length_take, List.length_cons] at this
    omega
  have hcats := am_cats_le (A := A) (B := B) hsm
  have hstack : S.map (am_cv A B) = (r.map (am_cv A B)).reverse ++ .ref (A a) :: (S.drop (am_np t + 1)).map (am_cv A B) := by
    have e1 := am_take_split (S := S) (y := am_np t + 1)
    rw [has] at e1
    conv => lhs; rw [e1]
    simp [List.map_append, List.map_reverse, am_cv]
  have hwsn : am_ws1 t = Cond.code (am_y t) (am_bc t) (am_nl t) none :: am_gw := by unfold am_ws1; rw [hrt]
  have hRm : (am_rm d' (w1.length - w.length) (am_sl am_ft w1 - am_sl am_ft w)).frames + 1 ≤ R.frames ∧ 8 + (am_nl t + 11) + (am_rm d' (w1.length - w.length) (am_sl am_ft w1 - am_sl am_ft w)).locals ≤ R.locals := ⟨by show d' + 1 ≤ R.frames; omega, by show 8 + (am_nl t + 11) + 100 * d' ≤ R.locals; omega⟩
  rcases hl with hl | hl
  · obtain ⟨pos, hC, -⟩ := am_ml_ok hl
    unfold am_mlC at hC
    simp only [Bool.and_eq_true] at hC
    have hrun := va_runI (l := l) (e := e) (below := below) (meth := meth) (locs := locs) (cells := cells) (slots := slots) (g := F0 m pc ls (S.map (am_cv A B))) (As := r.map (am_cv A B)) (rest := (S.drop (am_np t + 1)).map (am_cv A B)) (b := A a) (n := am_np t) (Ts := am_gw) ⟨hx, hb, hml, hown, hts⟩ hM
      ⟨callB_of (am_np t) hts (am_ws1_good ht) hwsn rfl rfl (hts _ g1) (hts _ (am_at_mem hC.1)) ⟨g5, g6, g7⟩ hRm, hname, hts _ g2⟩
      ⟨am_blind, fun U hU hW => am_pre (as := vR (.inl a) :: r) hE hA hR hU hW⟩ rfl (by rw [List.length_map]; exact hlen) hL.1 hstack (lv_room hcats) hdg ⟨r1, r2⟩
    exact am_callR rfl rfl hrun hR hA (am_oks_drop hSo) hle1.1 (go hle1 hr2)
  · obtain ⟨pos, hC, hmem⟩ := am_ml_ok hl
    have hnest : va_Nw (.methodLinkNest (am_nm (am_o k)) i (am_y t) "WashingLines") s := hE.1.2.1 _ (List.mem_map.mpr ⟨_, List.mem_filter.mpr ⟨hmem, rfl⟩, rfl⟩)
    have hrun := va_runIN (l := l) (e := e) (below := below) (meth := meth) (locs := locs) (cells := cells) (slots := slots) (g := F0 m pc ls (S.map (am_cv A B))) (As := r.map (am_cv A B)) (rest := (S.drop (am_np t + 1)).map (am_cv A B)) (b := A a) (n := am_np t) (Ts := am_gw) ⟨hx, hb, hml, hown, hts⟩ hM
      ⟨va_cnB (am_np t) hts (am_ws1_good ht) hwsn rfl rfl hnest (hts _ g1) ⟨g5, g6, g7⟩ hRm, hname, hts _ g2⟩
      ⟨am_blind, fun U hU hW => am_pre (as := vR (.inl a) :: r) hE hA hR hU hW⟩ rfl (by rw [List.length_map]; exact hlen) hL.1 hstack (lv_room hcats) hdg ⟨r1, r2⟩
    exact am_callR rfl rfl hrun hR hA (am_oks_drop hSo) hle1.1 (go hle1 hr2)
end AMCC
set_option maxHeartbeats 8000000 in
theorem am_sim (sl : Nat) (xs : Nat → Int32) : ∀ n, am_Sim sl xs n
  | 0 => fun d k pc L S w w' rv h => by cases h
  | n + 1 => by
    have hS := am_sim sl xs n
    intro d k pc L S w w' rv h p l e R s m args below meth c H locs cells slots Q ls D dA A B Af hx hb hml hown hts hE hA hini hR hL hlen hLo hSo hfr hlo hce hsl hret
    have hlsz : c.maxLocals = ls.size := hml.trans hL.1.symm
    have h0 := h
    cases hP0 : am_P k pc with
    | none =>
      unfold am_run at h
      rw [hP0] at h
      cases h
    | some q9 => ?_
    obtain ⟨⟨op, x, y, im, tb⟩, nx⟩ := q9
    have hP := hP0
    obtain ⟨ins, len, hdg, htr, hnx⟩ := am_P_ok hP
    subst hnx
    -- a request's own end
    have go : ∀ {rv1 : Option (AV R1)} {w1 : W1} {y : Nat}, am_le w w1 → am_run am_P am_nl (m1 am_ft am_T sl (fun j => (xs j).toInt)) n d k (pc + len) L (rv1.toList ++ S.drop y) w1 = some (rv, w') → am_K p l e R s m args below meth c cells slots Q D dA A B Af w w1 rv1 (pc + len) ls (S.drop y) :=
      fun hle hr => am_K_of hS hr hle (am_mono _ _ _ _ _ _ _ _ _ hr) hx hb hml hown hts hE hA hini hL hlen hLo (am_oks_drop hSo) hfr hlo hce hsl hret
    have room : ∀ {rv1 : Option (AV R1)} {w1 : W1} {S1 : List (AV R1)}, am_le w w1 → am_run am_P am_nl (m1 am_ft am_T sl (fun j => (xs j).toInt)) n d k (pc + len) L S1 w1 = some (rv, w') → cells + (w1.length - w.length) ≤ R.cells ∧ slots + (am_sl am_ft w1 - am_sl am_ft w) ≤ R.slots := by
      intro rv1 w1 S1 hle hr
      obtain ⟨a1, a2⟩ := hle
      obtain ⟨b1, b2⟩ := am_mono _ _ _ _ _ _ _ _ _ hr
      constructor <;> omega
    unfold am_tr at htr
    split at htr
    · -- getfield
      split at htr
      · rename_i f hf
        cases htr
        obtain ⟨hd, hy, hsm, rv1, w1, hm, hr⟩ := am_run_mem hP h0
        have hle := m1_mono hm
        rw [am_take_split (S := S) (y := 1)]
        exact am_m_get hx hb hown hts hE hR hf hdg hm (am_oks_take hSo) (go hle hr)
      · split at htr
        · rename_i f hf
          cases htr
          obtain ⟨hd, hy, hsm, rv1, w1, hm, hr⟩ := am_run_mem hP h0
          rw [am_take_split (S := S) (y := 1)]
          exact am_m_tf hx hb hown hts hE hR hf hdg hm (go (m1_mono hm) hr)
        · cases htr
    · -- getstatic
      split at htr
      · rename_i f hf
        cases htr
        obtain ⟨hd, hy, hsm, rv1, w1, hm, hr⟩ := am_run_mem hP h0
        rw [am_take_split (S := S) (y := 0)]
        exact am_m_gs hx hb hown hts hE hR hf hdg hm (go (m1_mono hm) hr)
      · cases htr
    · -- putfield
      split at htr
      · rename_i f hf
        split at htr
        · rename_i hc
          cases htr
          obtain ⟨hd, hy, hsm, rv1, w1, hm, hr⟩ := am_run_mem hP h0
          have hle := m1_mono hm
          rw [am_take_split (S := S) (y := 2)]
          refine am_m_put hx hb hown hts hE hR ?_ hf hdg hm (am_oks_take hSo) (go hle hr)
          rcases hc with hc | ⟨h1, h2⟩
          · exact Or.inl hc
          · exact Or.inr ⟨h1, hini h2⟩
        · cases htr
      · cases htr
    · cases htr
      obtain ⟨hd, hy, hsm, rv1, w1, hm, hr⟩ := am_run_mem hP h0
      rw [am_take_split (S := S) (y := 2)]
      exact am_m_ald hx hb hE hR (Or.inl ⟨rfl, rfl⟩) hdg hm (am_oks_take hSo) (go (m1_mono hm) hr)
    · cases htr
      obtain ⟨hd, hy, hsm, rv1, w1, hm, hr⟩ := am_run_mem hP h0
      rw [am_take_split (S := S) (y := 2)]
      exact am_m_ald hx hb hE hR (Or.inr (Or.inl ⟨rfl, rfl⟩)) hdg hm (am_oks_take hSo) (go (m1_mono hm) hr)
    · cases htr
      obtain ⟨hd, hy, hsm, rv1, w1, hm, hr⟩ := am_run_mem hP h0
      rw [am_take_split (S := S) (y := 2)]
      exact am_m_ald hx hb hE hR (Or.inr (Or.inr (Or.inl ⟨rfl, rfl⟩))) hdg hm (am_oks_take hSo) (go (m1_mono hm) hr)
    · cases htr
      obtain ⟨hd, hy, hsm, rv1, w1, hm, hr⟩ := am_run_mem hP h0
      rw [am_take_split (S := S) (y := 2)]
      exact am_m_ald hx hb hE hR (Or.inr (Or.inr (Or.inr ⟨rfl, rfl⟩))) hdg hm (am_oks_take hSo) (go (m1_mono hm) hr)
    · cases htr
      obtain ⟨hd, hy, hsm, rv1, w1, hm, hr⟩ := am_run_mem hP h0
      rw [am_take_split (S := S) (y := 3)]
      exact am_m_ast hx hb hE hR (Or.inl ⟨rfl, rfl⟩) hdg hm (am_oks_take hSo) (go (m1_mono hm) hr)
    · cases htr
      obtain ⟨hd, hy, hsm, rv1, w1, hm, hr⟩ := am_run_mem hP h0
      rw [am_take_split (S := S) (y := 3)]
      exact am_m_ast hx hb hE hR (Or.inr (Or.inl ⟨rfl, rfl⟩)) hdg hm (am_oks_take hSo) (go (m1_mono hm) hr)
    · cases htr
      obtain ⟨hd, hy, hsm, rv1, w1, hm, hr⟩ := am_run_mem hP h0
      rw [am_take_split (S := S) (y := 3)]
      exact am_m_ast hx hb hE hR (Or.inr (Or.inr (Or.inl ⟨rfl, rfl⟩))) hdg hm (am_oks_take hSo) (go (m1_mono hm) hr)
    · cases htr
      obtain ⟨hd, hy, hsm, rv1, w1, hm, hr⟩ := am_run_mem hP h0
      rw [am_take_split (S := S) (y := 3)]
      exact am_m_ast hx hb hE hR (Or.inr (Or.inr (Or.inr ⟨rfl, rfl⟩))) hdg hm (am_oks_take hSo) (go (m1_mono hm) hr)
    · -- arraylength
      cases htr
      obtain ⟨hd, hy, hsm, rv1, w1, hm, hr⟩ := am_run_mem hP h0
      rw [am_take_split (S := S) (y := 1)]
      exact am_m_len hx hb hE hR hdg hm (go (m1_mono hm) hr)
    · -- new
      split at htr
      · rename_i f hf
        cases htr
        obtain ⟨hd, hy, hsm, rv1, w1, hm, hr⟩ := am_run_mem hP h0
        obtain ⟨r1, r2⟩ := room (rv1 := rv1) (m1_mono hm) hr
        rw [am_take_split (S := S) (y := 0)]
        exact am_m_new hx hb hown hts hE hA hR hf hdg hm (am_oks_drop hSo) r1 r2 (go (m1_mono hm) hr)
      · cases htr
    · -- newarray
      split at htr
      all_goals first
        | (cases htr
           obtain ⟨hd, hy, hsm, rv1, w1, hm, hr⟩ := am_run_mem hP h0
           obtain ⟨r1, r2⟩ := room (rv1 := rv1) (m1_mono hm) hr
           rw [am_take_split (S := S) (y := 1)]
           exact am_m_newa hx hb hts hE hA hR (by first | exact Or.inl ⟨rfl, rfl⟩ | exact Or.inr (Or.inl ⟨rfl, rfl⟩) | exact Or.inr (Or.inr (Or.inl ⟨rfl, rfl⟩)) | exact Or.inr (Or.inr (Or.inr ⟨rfl, rfl⟩))) hdg hm (am_oks_take hSo) (am_oks_drop hSo) r1 r2 (go (m1_mono hm) hr))
        | (cases htr; done)
    · -- anewarray
      split at htr
      · rename_i f hf
        cases htr
        obtain ⟨hd, hy, hsm, rv1, w1, hm, hr⟩ := am_run_mem hP h0
        obtain ⟨r1, r2⟩ := room (rv1 := rv1) (m1_mono hm) hr
        rw [am_take_split (S := S) (y := 1)]
        exact am_m_newq hx hb hown hts hE hA hR hf hdg hm (am_oks_take hSo) (am_oks_drop hSo) r1 r2 (go (m1_mono hm) hr)
      · cases htr
    · -- multianewarray
      split at htr
      · rename_i hcl
        cases htr
        obtain ⟨hd, hy, hsm, rv1, w1, hm, hr⟩ := am_run_mem hP h0
        obtain ⟨r1, r2⟩ := room (rv1 := rv1) (m1_mono hm) hr
        rw [am_take_split (S := S) (y := 2)]
        exact am_m_mna hx hb hown hts hE hA hR hcl hdg hm (am_oks_take hSo) (am_oks_drop hSo) r1 r2 (go (m1_mono hm) hr)
      · cases htr
    · -- ldc
      split at htr
      · rename_i v hv
        cases htr
        obtain ⟨k1, k2⟩ := am_ct_ok hv
        obtain ⟨pc', L', S', hp, h⟩ := am_run_p hP (by decide) h0
        · have hp : some (pc + 2, L, vI im :: S) = some (pc', L', S') := hp
          cases hp
          refine lv_ldc hx hb hown (hts _ k1) hdg ?_
          exact hS d k (pc + 2) L (vI im :: S) w w' rv h p l e R s m args below meth c H locs cells slots Q ls D dA A B Af hx hb hml hown hts hE hA hini hR hL hlen hLo (am_cons_oks k2 hSo) hfr hlo hce hsl hret
      · split at htr
        · rename_i j hj
          cases htr
          obtain ⟨hd, hy, hsm, rv1, w1, hm, hr⟩ := am_run_mem hP h0
          have hm : (if j < am_T.length then some (some (vR (.inr (j + 1)) : AV R1), w) else none) = some (rv1, w1) := hm
          split at hm
          · cases hm
            exact am_m_ldc (len := 2) hx hb hown hE hR (Or.inl ⟨rfl, rfl⟩) hj hdg (go (y := 0) am_le_rf hr)
          · cases hm
        · cases htr
    · -- ldc_w
      split at htr
      · rename_i v hv
        cases htr
        obtain ⟨k1, k2⟩ := am_ct_ok hv
        obtain ⟨pc', L', S', hp, h⟩ := am_run_p hP (by decide) h0
        · have hp : some (pc + 3, L, vI im :: S) = some (pc', L', S') := hp
          cases hp
          refine lv_ldcw hx hb hown (hts _ k1) hdg ?_
          exact hS d k (pc + 3) L (vI im :: S) w w' rv h p l e R s m args below meth c H locs cells slots Q ls D dA A B Af hx hb hml hown hts hE hA hini hR hL hlen hLo (am_cons_oks k2 hSo) hfr hlo hce hsl hret
      · split at htr
        · rename_i j hj
          cases htr
          obtain ⟨hd, hy, hsm, rv1, w1, hm, hr⟩ := am_run_mem hP h0
          have hm : (if j < am_T.length then some (some (vR (.inr (j + 1)) : AV R1), w) else none) = some (rv1, w1) := hm
          split at hm
          · cases hm
            exact am_m_ldc (len := 3) hx hb hown hE hR (Or.inr ⟨rfl, rfl⟩) hj hdg (go (y := 0) am_le_rf hr)
          · cases hm
        · cases htr
    · -- ldc2_w
      obtain ⟨v, hv, htr⟩ := Option.map_eq_some_iff.mp htr
      cases htr
      obtain ⟨k1, k2⟩ := am_lt_ok hv
      obtain ⟨pc', L', S', hp, h⟩ := am_run_p hP (by decide) h0
      · have hp : some (pc + 3, L, vL im :: S) = some (pc', L', S') := hp
        cases hp
        refine lv_ldc2 hx hb hown (hts _ k1) hdg ?_
        exact hS d k (pc + 3) L (vL im :: S) w w' rv h p l e R s m args below meth c H locs cells slots Q ls D dA A B Af hx hb hml hown hts hE hA hini hR hL hlen hLo (am_cons_oks k2 hSo) hfr hlo hce hsl hret
    · -- invokevirtual
      split at htr
      · rename_i t hml2
        cases htr
        exact am_c_virtual hS hx hb hml hown hts hE hA hR hL hSo hfr hlo hml2 hdg (am_run_call hP h0) (fun hle hr => room (rv1 := none) hle hr) (fun hle hr => go hle hr)
      · cases htr
    · -- invokestatic
      split at htr
      · rename_i t hml2
        cases htr
        exact am_c_static hS hx hb hml hown hts hE hA hR hL hSo hfr hlo hml2 hdg (am_run_call hP h0) (fun hle hr => room (rv1 := none) hle hr) (fun hle hr => go hle hr)
      · rename_i t hml2
        split at htr
        · rename_i ht
          cases htr
          obtain ⟨pos, hC, -⟩ := am_ml_ok hml2
          obtain ⟨hd, hy, hsm, rv1, w1, hm, hr⟩ := am_run_mem hP h0
          obtain ⟨r1, r2⟩ := room (rv1 := rv1) (m1_mono hm) hr
          rcases ht with rfl | rfl | rfl
          · rw [am_take_split (S := S) (y := 5)]
            exact am_m_cpy hx hb hlsz hown hts hE hR (by omega) (by omega) hsm (am_at_mem hC) hdg hm (am_oks_take hSo) (go (m1_mono hm) hr)
          · have hm : (match (S.take 2).reverse with
              | [.inl x, .inl y] => some (some (vI (if x < y then y else x) : AV R1), w)
              | _ => none) = some (rv1, w1) := hm
            split at hm
            · rename_i u v huv
              cases hm
              have ho := am_oks_take (y := 2) hSo
              rw [huv] at ho
              have q := am_m_max (S2 := S.drop 2) hx hb hlsz hown hts hR (by omega) (by omega) (by omega) (by omega) hsm (show am_ok w.length (vI u : AV R1) from ho (.inl u) (by simp)) (show am_ok w.length (vI v : AV R1) from ho (.inl v) (by simp)) (am_at_mem hC) hdg (go (y := 2) am_le_rf hr)
              rw [← huv, ← am_take_split] at q
              exact q
            · cases hm
          · have hm : (match (S.take 2).reverse with
              | [.inl x, .inl y] => some (some (vI (if y < x then y else x) : AV R1), w)
              | _ => none) = some (rv1, w1) := hm
            split at hm
            · rename_i u v huv
              cases hm
              have ho := am_oks_take (y := 2) hSo
              rw [huv] at ho
              have q := am_m_min (S2 := S.drop 2) hx hb hlsz hown hts hR (by omega) (by omega) (by omega) (by omega) hsm (show am_ok w.length (vI u : AV R1) from ho (.inl u) (by simp)) (show am_ok w.length (vI v : AV R1) from ho (.inl v) (by simp)) (am_at_mem hC) hdg (go (y := 2) am_le_rf hr)
              rw [← huv, ← am_take_split] at q
              exact q
            · cases hm
        · cases htr
      · cases htr
    · -- invokespecial
      split at htr
      · rename_i t hml2
        cases htr
        exact am_c_special hS hx hb hml hown hts hE hA hR hL hSo hfr hlo (Or.inl hml2) (by decide) hdg (am_run_call hP h0) (fun hle hr => room (rv1 := none) hle hr) (fun hle hr => go hle hr)
      · rename_i t hml2
        cases htr
        exact am_c_special hS hx hb hml hown hts hE hA hR hL hSo hfr hlo (Or.inr hml2) (by decide) hdg (am_run_call hP h0) (fun hle hr => room (rv1 := none) hle hr) (fun hle hr => go hle hr)
      · rename_i t hml2
        split at htr
        · rename_i ht
          subst ht
          cases htr
          obtain ⟨pos, hC, -⟩ := am_ml_ok hml2
          obtain ⟨hd, hy, hsm, rv1, w1, hm, hr⟩ := am_run_mem hP h0
          have hm : (match (S.take 1).reverse with
              | [.inr (.inr (some (.inl _)))] => some ((none : Option (AV R1)), w)
              | _ => none) = some (rv1, w1) := hm
          split at hm
          · rename_i u huv
            cases hm
            have q := am_m_obj (S2 := S.drop 1) (a := u) hx hb hlsz hown hts hR (by omega) (by omega) hsm (am_at_mem hC) hdg (go (y := 1) am_le_rf hr)
            rw [← huv, ← am_take_split] at q
            exact q
          · cases hm
        · cases htr
      · cases htr
    · -- ireturn
      split at htr
      · rename_i hrt
        cases htr
        obtain ⟨v, rfl, rfl, rfl, hc⟩ := am_run_ret hP h0
        match v, hc with
        | .inl z, hc =>
          have q := hret A H locs pc ls (fun _ _ => rfl) hR (fun u hu => by cases hu; exact hSo _ (by simp)) (Or.inl ⟨hdg, hrt, z, rfl⟩)
          rw [Nat.sub_self, Nat.sub_self] at q
          exact q
      · rename_i hrt
        cases htr
        obtain ⟨v, rfl, rfl, rfl, hc⟩ := am_run_ret hP h0
        match v, hc with
        | .inl z, hc =>
          have q := hret A H locs pc ls (fun _ _ => rfl) hR (fun u hu => by cases hu; exact hSo _ (by simp)) (Or.inr (Or.inl ⟨hdg, hrt, z, rfl, by have hc : decide (z = 0 ∨ z = 1) = true := hc; simpa using hc⟩))
          rw [Nat.sub_self, Nat.sub_self] at q
          exact q
      · rename_i hrt
        cases htr
        obtain ⟨v, rfl, rfl, rfl, hc⟩ := am_run_ret hP h0
        match v, hc with
        | .inl z, hc =>
          have hc : decide (0 ≤ z ∧ z ≤ 127) = true := hc
          simp only [decide_eq_true_eq] at hc
          have q := hret A H locs pc ls (fun _ _ => rfl) hR (fun u hu => by cases hu; exact hSo _ (by simp)) (Or.inr (Or.inr (Or.inr (Or.inr (Or.inr ⟨hdg, Or.inl hrt, z, rfl, hc⟩)))))
          rw [Nat.sub_self, Nat.sub_self] at q
          exact q
      · rename_i hrt
        cases htr
        obtain ⟨v, rfl, rfl, rfl, hc⟩ := am_run_ret hP h0
        match v, hc with
        | .inl z, hc =>
          have hc : decide (0 ≤ z ∧ z ≤ 127) = true := hc
          simp only [decide_eq_true_eq] at hc
          have q := hret A H locs pc ls (fun _ _ => rfl) hR (fun u hu => by cases hu; exact hSo _ (by simp)) (Or.inr (Or.inr (Or.inr (Or.inr (Or.inr ⟨hdg, Or.inr hrt, z, rfl, hc⟩)))))
          rw [Nat.sub_self, Nat.sub_self] at q
          exact q
      · cases htr
    · -- lreturn
      split at htr
      · rename_i hrt
        cases htr
        obtain ⟨v, rfl, rfl, rfl, hc⟩ := am_run_ret hP h0
        match v, hc with
        | .inr (.inl z), hc =>
          have q := hret A H locs pc ls (fun _ _ => rfl) hR (fun u hu => by cases hu; exact hSo _ (by simp)) (Or.inr (Or.inr (Or.inl ⟨hdg, hrt, z, rfl⟩)))
          rw [Nat.sub_self, Nat.sub_self] at q
          exact q
      · cases htr
    · -- areturn
      split at htr
      · rename_i C hrt
        cases htr
        obtain ⟨v, rfl, rfl, rfl, hc⟩ := am_run_ret hP h0
        match v, hc with
        | .inr (.inr z), hc =>
          have q := hret A H locs pc ls (fun _ _ => rfl) hR (fun u hu => by cases hu; exact hSo _ (by simp)) (Or.inr (Or.inr (Or.inr (Or.inl ⟨hdg, ⟨C, hrt⟩, z, rfl⟩))))
          rw [Nat.sub_self, Nat.sub_self] at q
          exact q
      · cases htr
    · -- return
      split at htr
      · rename_i hrt
        cases htr
        obtain ⟨rfl, rfl, rfl⟩ := am_run_retv hP h0
        have q := hret A H locs pc ls (fun _ _ => rfl) hR (fun u hu => by cases hu) (Or.inr (Or.inr (Or.inr (Or.inr (Or.inl ⟨hdg, hrt, rfl⟩)))))
        rw [Nat.sub_self, Nat.sub_self] at q
        exact q
      · cases htr
    · -- pure
      obtain ⟨pc', L', S', hp, h⟩ := am_run_p hP (am_trp_op htr) h0
      exact am_sim_p hx hb htr hdg hp hL hlen hLo hSo (fun ls' h1 h2 h3 h4 => hS d k pc' L' S' w w' rv h p l e R s m args below meth c H locs cells slots Q ls' D dA A B Af hx hb hml hown hts hE hA hini hR h1 h2 h3 h4 hfr hlo hce hsl hret)
