/-! METHODS AS CONTRACTS over the small machine's runs -/
def am_ws1 (k : Nat) : List Cond := Cond.code (am_y k) (am_bc k) (am_nl k) (am_rt k) :: am_gw
def am_rm (d mc ms : Nat) : Room := { frames := d, cells := mc, slots := ms, locals := 100 * d }
def am_Pc (D : va_G) (dA : Nat → ClassId) (A B : Nat → Nat) (sl : Nat) (xs : Nat → Int32) (w : W1) (sz : Nat) (as : List (AV R1)) : Array Value → State → Prop :=
  va_Pc (as.map (am_cv A B)) (fun U => U.heap.size = sz ∧ va_P D am_cl (am_ws A B dA w) U.heap ∧ va_D (fun _ => True) (am_ws A B dA w) ∧ am_E D dA B sl xs (va_A (am_ws A B dA w) sz) U U.heap)
def am_Qc (D : va_G) (dA : Nat → ClassId) (A B : Nat → Nat) (w w' : W1) (sz : Nat) (rv : Option (AV R1)) : Array Value → State → Outcome → State → Prop := fun _ st oc t =>
  (∃ A' : Nat → Nat, (∀ a, a < w.length → A' a = A a) ∧ oc = .returned (rv.map (am_cv A' B)) ∧ va_P D am_cl (am_ws A' B dA w') t.heap ∧ va_D (va_A (am_ws A B dA w) sz) (am_ws A' B dA w') ∧ (∀ c ∈ w', am_okc w'.length c) ∧ ∀ v, rv = some v → am_ok w'.length v) ∧ va_F (va_A (am_ws A B dA w) sz) st t
theorem am_blind {D : va_G} {dA : Nat → ClassId} {A B : Nat → Nat} {sl : Nat} {xs : Nat → Int32} {w : W1} {sz : Nat} {as : List (AV R1)} : FrameBlind (am_Pc D dA A B sl xs w sz as) := fun a U g mk h => by
  obtain ⟨h1, h2, h3, h4, h5⟩ := h
  have h6 : am_E D dA B sl xs (va_A (am_ws A B dA w) sz) (U.calling g mk a) U.heap := am_E.same (s := U) (U := U.calling g mk a) rfl h5
  exact ⟨h1, h2, h3, h4, h6⟩
theorem am_ws1_good {k : Nat} (h : k < am_NM) : GoodIn am_gw (am_ws1 k) := fun w hw => by
  rcases List.mem_cons.mp hw with rfl | hw
  · exact ⟨am_m_code h, (am_gw_good _ (am_m_code h)).2⟩
  · exact am_gw_good w hw
/-- how a method may end at pc -/
def am_Ret (k : Nat) (rv : Option (AV R1)) (pc : Nat) : Prop :=
  (decode (am_bc k) pc = .ok (.ireturn, 1) ∧ am_rt k = some .int ∧ ∃ x, rv = some (vI x)) ∨
  (decode (am_bc k) pc = .ok (.ireturn, 1) ∧ am_rt k = some .boolean ∧ ∃ x, rv = some (vI x) ∧ (x = 0 ∨ x = 1)) ∨
  (decode (am_bc k) pc = .ok (.lreturn, 1) ∧ am_rt k = some .long ∧ ∃ x, rv = some (vL x)) ∨
  (decode (am_bc k) pc = .ok (.areturn, 1) ∧ (∃ C, am_rt k = some (.object C)) ∧ ∃ x, rv = some (.inr (.inr x))) ∨
  (decode (am_bc k) pc = .ok (.return_, 1) ∧ am_rt k = none ∧ rv = none) ∨
  (decode (am_bc k) pc = .ok (.ireturn, 1) ∧ (am_rt k = some .byte ∨ am_rt k = some .char) ∧ ∃ x, rv = some (vI x) ∧ 0 ≤ x ∧ x ≤ 127)
/-- what a run of n steps means for the machine -/
def am_Sim (sl : Nat) (xs : Nat → Int32) (n : Nat) : Prop :=
  ∀ (d k pc : Nat) (L : am_L R1) (S : List (AV R1)) (w w' : W1) (rv : Option (AV R1)), am_run am_P am_nl (m1 am_ft am_T sl (fun j => (xs j).toInt)) n d k pc L S w = some (rv, w') →
  ∀ (p : Program) (l : Launch) (e : Env) (R : Room) (s : State) (m : MethodId) (args : Array Value) (below : List Frame) (meth : Method) (c : Code) (H : Heap) (locs : List Loc) (cells slots : Nat) (Q : State → Prop) (ls : Array Slot) (D : va_G) (dA : Nat → ClassId) (A B : Nat → Nat) (Af : Nat → Prop),
    p.tables.exec = Jvm.exec → c.code = am_bc k → c.maxLocals = am_nl k → s.vm.findClass (am_nm (am_o k)) = some m.cls → (∀ w ∈ am_gw, w.before args s = true) → am_E D dA B sl xs Af s s.heap → (∀ q, s.heap.size ≤ q → Af q) → ((am_y k).name = "<init>" → meth.name = "<init>") →
    am_R D dA A B Af s.heap H locs w → am_LR A B (am_nl k) ls L → L.length ≤ am_nl k → am_Lok w.length L → (∀ v ∈ S, am_ok w.length v) → d ≤ R.frames → 100 * d ≤ R.locals → cells + (w'.length - w.length) ≤ R.cells → slots + (am_sl am_ft w' - am_sl am_ft w) ≤ R.slots →
    (∀ (A' : Nat → Nat) (H' : Heap) (locs' : List Loc) (pc' : Nat) (ls' : Array Slot), (∀ a, a < w.length → A' a = A a) → am_R D dA A' B Af s.heap H' locs' w' → (∀ v, rv = some v → am_ok w'.length v) → am_Ret k rv pc' →
      W p l e R s m args below meth c H' locs' (cells + (w'.length - w.length)) (slots + (am_sl am_ft w' - am_sl am_ft w)) Q (F0 m pc' ls' (rv.toList.map (am_cv A' B)))) →
    W p l e R s m args below meth c H locs cells slots Q (F0 m pc ls (S.map (am_cv A B)))
theorem am_loc_len : ∀ (as : List (AV R1)) (n : Nat), (as.map am_cat).sum ≤ n → (am_loc n as).length = n
  | [], n, _ => by simp [am_loc]
  | v :: r, n, h => by
    simp only [List.map_cons, List.sum_cons] at h
    unfold am_loc
    unfold am_cat at h
    split
    · rename_i hv
      rw [if_pos hv] at h
      have := am_loc_len r (n - 2) (by unfold am_cat; omega)
      simp only [List.length_cons, this]
      omega
    · rename_i hv
      rw [if_neg hv] at h
      have := am_loc_len r (n - 1) (by unfold am_cat; omega)
      simp only [List.length_cons, this]
      omega
theorem am_loc_get {A B : Nat → Nat} : ∀ (as : List (AV R1)) (n o j : Nat) (v : AV R1), (am_loc n as)[j]? = some (some v) → (o + j, am_cv A B v) ∈ lv_args o (as.map (am_cv A B)) ∧ v ∈ as
  | [], n, o, j, v, h => by
    unfold am_loc at h
    rw [List.getElem?_replicate] at h
    split at h
    · simp at h
    · cases h
  | u :: r, n, o, j, v, h => by
    unfold am_loc at h
    have hcat := am_cat_cv (A := A) (B := B) u
    unfold am_cat at hcat
    split at h
    · rename_i hu
      rw [if_pos hu] at hcat
      match j, h with
      | 0, h =>
        have h : some u = some v := by simpa using h
        cases h
        simp only [List.map_cons]
        unfold lv_args
        exact ⟨List.mem_cons_self, List.mem_cons_self⟩
      | 1, h => simp at h
      | j + 2, h =>
        have h : (am_loc (n - 2) r)[j]? = some (some v) := by simpa using h
        obtain ⟨h1, h2⟩ := am_loc_get r (n - 2) (o + 2) j v h
        simp only [List.map_cons]
        unfold lv_args
        refine ⟨List.mem_cons_of_mem _ ?_, List.mem_cons_of_mem _ h2⟩
        have e1 : o + 2 + j = o + (j + 2) := by omega
        rw [e1] at h1
        simpa [hcat] using h1
    · rename_i hu
      rw [if_neg hu] at hcat
      match j, h with
      | 0, h =>
        have h : some u = some v := by simpa using h
        cases h
        simp only [List.map_cons]
        unfold lv_args
        exact ⟨List.mem_cons_self, List.mem_cons_self⟩
      | j + 1, h =>
        have h : (am_loc (n - 1) r)[j]? = some (some v) := by simpa using h
        obtain ⟨h1, h2⟩ := am_loc_get r (n - 1) (o + 1) j v h
        simp only [List.map_cons]
        unfold lv_args
        refine ⟨List.mem_cons_of_mem _ ?_, List.mem_cons_of_mem _ h2⟩
        have e1 : o + 1 + j = o + (j + 1) := by omega
        rw [e1] at h1
        simpa [hcat] using h1
theorem am_narB : ∀ q, q < 128 → narrow .byte (.int (Int32.ofInt (Int.ofNat q))) = .int (Int32.ofInt (Int.ofNat q)) := by decide +kernel
theorem am_narC : ∀ q, q < 128 → narrow .char (.int (Int32.ofInt (Int.ofNat q))) = .int (Int32.ofInt (Int.ofNat q)) := by decide +kernel
theorem am_yclA : (List.range (am_NM + 1)).all (fun k => decide ((am_y k).cls = am_nm (am_o k))) = true := by decide +kernel
theorem am_ycl {k : Nat} (h : k < am_NM + 1) : (am_y k).cls = am_nm (am_o k) := by
  have := List.all_eq_true.mp am_yclA k (List.mem_range.mpr h)
  simpa using this
theorem am_slw : ∀ (vs : List Value), (lg_sl vs).length = (vs.map fun v => v.category).sum
  | [] => rfl
  | v :: r => by
    have ih := am_slw r
    unfold lg_sl at ih ⊢
    rw [List.flatMap_cons, List.length_append, ih, List.map_cons, List.sum_cons]
    rcases lv_cat v with h | h
    · rw [if_neg (by omega), h]; rfl
    · rw [if_pos h, h]; rfl
theorem am_ofW {l : Launch} {y : MethodName} {ws ws' : List Cond} {rm : Room} {Pc : Array Value → State → Prop} {Qc : Array Value → State → Outcome → State → Prop} {mc ms : Nat} {free : Addr → Prop} {cc : ByteArray} {maxL : Nat} {ret : Option FieldType}
    (hy : plainFor y = true) (hw : ws = Cond.code y cc maxL ret :: ws')
    (body : ∀ p e s m args below meth c s₁, BodyLoose p l y (headSpec ws rm) cc maxL ret e s m args below meth c s₁ → c.maxLocals = maxL → Pc args s →
      W p l e (headSpec ws rm).room s m args below meth c s.heap [] 0 0 (MQ below Qc args s mc ms free) (entryFrame m args maxL)) : Met l y ws rm Pc Qc mc ms free := by
  refine MetFree.of_bodySF (code := cc) (maxLocals := maxL) (ret := ret) hy ?_ ?_
  · intro args s m h hn
    obtain ⟨meth, c, h1, h2, h3, h4, h5, h6, -, -⟩ := Cond.code_spec hn (atoms_spec (ws := ws) h _ (by rw [hw]; exact List.mem_cons_self))
    exact ⟨meth, c, h1, h2, h3, h4, h5, h6⟩
  · intro p e s m args below meth c s₁ B hml hP _
    have hh0 : s₁.heap = s.heap := by rw [B.state]; rfl
    obtain ⟨t, a1, o, b1, b2, b3⟩ := body p e s m args below meth c s₁ B hml hP s₁ hh0 (Stand.of_body B)
    exact ⟨t, o, a1, b1, b2, ⟨b3.1, b3.2⟩⟩
set_option maxHeartbeats 4000000 in
theorem am_met {sl : Nat} {xs : Nat → Int32} {n : Nat} (hS : am_Sim sl xs n) {d k : Nat} {as : List (AV R1)} {w w' : W1} {rv : Option (AV R1)} (hk : k < am_NM) (hrun : am_run am_P am_nl (m1 am_ft am_T sl (fun j => (xs j).toInt)) n d k 0 (am_loc (am_nl k) as) [] w = some (rv, w')) (hcat : (as.map am_cat).sum ≤ am_nl k) (has : ∀ v ∈ as, am_ok w.length v) (hw : ∀ c ∈ w, am_okc w.length c)
    (l : Launch) (D : va_G) (dA : Nat → ClassId) (A B : Nat → Nat) (sz : Nat) :
    Met l (am_y k) (am_ws1 k) (am_rm d (w'.length - w.length) (am_sl am_ft w' - am_sl am_ft w)) (am_Pc D dA A B sl xs w sz as) (am_Qc D dA A B w w' sz rv) (w'.length - w.length) (am_sl am_ft w' - am_sl am_ft w) (va_A (am_ws A B dA w) sz) := by
  refine am_ofW (cc := am_bc k) (maxL := am_nl k) (ret := am_rt k) (am_m_ok hk).2.2.2.1 rfl ?_
  intro p e s m args below meth c s₁ B0 hml hv
  obtain ⟨rfl, hsz, hP, hD0, hE⟩ := hv
  have hx := B0.exec
  have hb := B0.bytes
  have hr := B0.returns
  have hlk := B0.notSynchronized
  have hts0 := atoms_spec (ws := am_ws1 k) B0.pre
  have hts : ∀ w ∈ am_gw, w.before ((as.map (am_cv A B)).toArray) s = true := fun w hw => hts0 w (List.mem_cons_of_mem _ hw)
  have hown : s.vm.findClass (am_nm (am_o k)) = some m.cls := by rw [← am_ycl (by omega)]; exact findClass_of_methodNamed B0.named
  have hin : (am_y k).name = "<init>" → meth.name = "<init>" := fun h => by rw [← h]; exact (name_of_methodNamed B0.named B0.method).1
  subst hsz
  have hD := hD0.self (sz := s.heap.size)
  have hl := lv_entry (as.map (am_cv A B)) (n := am_nl k) (by rw [am_slw, am_cats]; exact hcat)
  rw [lg_entry_eq]
  generalize (lg_sl (as.map (am_cv A B)) ++ List.replicate (am_nl k - (lg_sl (as.map (am_cv A B))).length) Slot.unset).toArray = ls at hl ⊢
  have hLR : am_LR A B (am_nl k) ls (am_loc (am_nl k) as) := ⟨hl.1, hl.2.1, fun j v hj => by
    have h1 := (am_loc_get (A := A) (B := B) as (am_nl k) 0 j v hj).1
    rw [Nat.zero_add] at h1
    exact hl.2.2 _ h1⟩
  refine hS d k 0 (am_loc (am_nl k) as) [] w w' rv hrun p l e _ s m _ below meth c s.heap [] 0 0 _ ls D dA A B (va_A (am_ws A B dA w) s.heap.size) hx hb hml hown hts hE (fun q h => Or.inr h) hin ⟨hP, hD, va_S.rf, hw⟩ hLR (by rw [am_loc_len _ _ hcat]; exact Nat.le_refl _) (fun j u hj => has u (am_loc_get (A := A) (B := B) as (am_nl k) 0 j u hj).2) (fun v hv => by cases hv) (Nat.le_refl d) (Nat.le_refl (100 * d)) (by show 0 + _ ≤ w'.length - w.length; omega) (by show 0 + _ ≤ am_sl am_ft w' - am_sl am_ft w; omega) ?_
  intro A' H' locs' pc' ls' hA' hR' hv' hret
  rw [Nat.zero_add, Nat.zero_add]
  have post : ∀ (t : State), t.heap = H' → am_Qc D dA A B w w' s.heap.size rv ((as.map (am_cv A B)).toArray) s (.returned (rv.map (am_cv A' B))) t := fun t ht => ⟨⟨A', hA', rfl, by rw [ht]; exact hR'.1, hR'.2.1, hR'.2.2.2, hv'⟩, hR'.2.2.1.F ht⟩
  rcases hret with ⟨hdg, hrt, x, rfl⟩ | ⟨hdg, hrt, x, rfl, h01⟩ | ⟨hdg, hrt, x, rfl⟩ | ⟨hdg, ⟨C, hrt⟩, x, rfl⟩ | ⟨hdg, hrt, rfl⟩ | ⟨hdg, hrt, x, rfl, b1, b2⟩
  · exact W.iret hx hb (hr.trans hrt) (fun t ht _ => post t ht) hR'.2.2.1.2.2 hdg hlk
  · exact W.zret hx hb (hr.trans hrt) (by rcases h01 with rfl | rfl <;> rfl) (fun t ht _ => post t ht) hR'.2.2.1.2.2 hdg hlk
  · exact W.lret hx hb (hr.trans hrt) (fun t ht _ => post t ht) hR'.2.2.1.2.2 hdg hlk
  · exact W.aret hx hb (hr.trans hrt) (Or.inl ⟨C, rfl⟩) (by
      match x with
      | none => exact Or.inl rfl
      | some (.inl a) => exact Or.inr ⟨_, rfl⟩
      | some (.inr a) => exact Or.inr ⟨_, rfl⟩) (fun t ht _ => post t ht) hR'.2.2.1.2.2 hdg hlk
  · exact W.vret hx hb (hr.trans hrt) (fun t ht _ => post t ht) hR'.2.2.1.2.2 hdg hlk
  · obtain ⟨q, hq, rfl⟩ : ∃ q : Nat, q < 128 ∧ x = Int.ofNat q := ⟨x.toNat, by omega, by show x = (x.toNat : Int); omega⟩
    rcases hrt with hrt | hrt
    · exact W.zret hx hb (hr.trans hrt) (am_narB q hq) (fun t ht _ => post t ht) hR'.2.2.1.2.2 hdg hlk
    · exact W.zret hx hb (hr.trans hrt) (am_narC q hq) (fun t ht _ => post t ht) hR'.2.2.1.2.2 hdg hlk
section AMC
variable {p : Program} {l : Launch} {e : Env} {R : Room} {s : State} {m : MethodId} {args : Array Value} {below : List Frame} {meth : Method} {c : Code} {H : Heap} {locs : List Loc} {cells slots : Nat} {Q : State → Prop}
variable {cc : ByteArray} {pc : Nat} {ls : Array Slot} {D : va_G} {dA : Nat → ClassId} {A B : Nat → Nat} {sl : Nat} {xs : Nat → Int32} {Af : Nat → Prop} {w w' w1 : W1} {S2 : List (AV R1)} {rv rv1 : Option (AV R1)} {as : List (AV R1)} {k idx nx n d : Nat} {L : am_L R1}
/-- what goes on behind a request or a call, out of the shorter runs -/
theorem am_K_of (hS : am_Sim sl xs n) (hrun : am_run am_P am_nl (m1 am_ft am_T sl (fun j => (xs j).toInt)) n d k nx L (rv1.toList ++ S2) w1 = some (rv, w')) (hle1 : am_le w w1) (hle2 : am_le w1 w')
    (hx : p.tables.exec = Jvm.exec) (hb : c.code = am_bc k) (hml : c.maxLocals = am_nl k) (hown : s.vm.findClass (am_nm (am_o k)) = some m.cls) (hts : ∀ w ∈ am_gw, w.before args s = true) (hE : am_E D dA B sl xs Af s s.heap) (hA : ∀ q, s.heap.size ≤ q → Af q) (hini : (am_y k).name = "<init>" → meth.name = "<init>")
    (hL : am_LR A B (am_nl k) ls L) (hlen : L.length ≤ am_nl k) (hLo : am_Lok w.length L) (hS2 : ∀ v ∈ S2, am_ok w.length v) (hfr : d ≤ R.frames) (hlo : 100 * d ≤ R.locals) (hce : cells + (w'.length - w.length) ≤ R.cells) (hsl : slots + (am_sl am_ft w' - am_sl am_ft w) ≤ R.slots)
    (hret : ∀ (A' : Nat → Nat) (H' : Heap) (locs' : List Loc) (pc' : Nat) (ls' : Array Slot), (∀ a, a < w.length → A' a = A a) → am_R D dA A' B Af s.heap H' locs' w' → (∀ v, rv = some v → am_ok w'.length v) → am_Ret k rv pc' →
      W p l e R s m args below meth c H' locs' (cells + (w'.length - w.length)) (slots + (am_sl am_ft w' - am_sl am_ft w)) Q (F0 m pc' ls' (rv.toList.map (am_cv A' B)))) :
    am_K p l e R s m args below meth c cells slots Q D dA A B Af w w1 rv1 nx ls S2 := by
  intro A' H' locs' hA' hR' hv hle
  obtain ⟨a1, a2⟩ := hle1
  obtain ⟨b1, b2⟩ := hle2
  have e1 : cells + (w1.length - w.length) + (w'.length - w1.length) = cells + (w'.length - w.length) := by omega
  have e2 : slots + (am_sl am_ft w1 - am_sl am_ft w) + (am_sl am_ft w' - am_sl am_ft w1) = slots + (am_sl am_ft w' - am_sl am_ft w) := by omega
  refine hS d k nx L (rv1.toList ++ S2) w1 w' rv hrun p l e R s m args below meth c H' locs' _ _ Q ls D dA A' B Af hx hb hml hown hts hE hA hini hR' ⟨hL.1, hL.2.1, fun j v hj => by rw [am_cv_congr hA' (hLo j v hj)]; exact hL.2.2 j v hj⟩ hlen (fun j u hj => am_ok_mono a1 (hLo j u hj)) (fun v hv' => ?_) hfr hlo (by omega) (by omega) ?_
  · rcases List.mem_append.mp hv' with h | h
    · exact hv v (by cases rv1 with
        | none => cases h
        | some z => rw [List.mem_singleton.mp h])
    · exact am_ok_mono a1 (hS2 v h)
  · intro A2 H2 locs2 pc2 ls2 hA2 hR2 hv2 hr2
    rw [e1, e2]
    exact hret A2 H2 locs2 pc2 ls2 (fun a ha => (hA2 a (by omega)).trans (hA' a ha)) hR2 hv2 hr2
/-- behind a call -/
theorem am_callR {mc ms : Nat} {a : Array Value} {st0 : List Value} (hmc : mc = w1.length - w.length) (hms : ms = am_sl am_ft w1 - am_sl am_ft w) (hr : va_Run p l e R s m args below meth c H locs cells slots mc ms (F0 m pc ls st0) (S2.map (am_cv A B)) (am_Qc D dA A B w w1 H.size rv1 a) (va_A (am_ws A B dA w) H.size))
    (hR : am_R D dA A B Af s.heap H locs w) (hA : ∀ q, s.heap.size ≤ q → Af q) (hS2 : ∀ v ∈ S2, am_ok w.length v) (hle : w.length ≤ w1.length)
    (kk : am_K p l e R s m args below meth c cells slots Q D dA A B Af w w1 rv1 (pc + 3) ls S2) : W p l e R s m args below meth c H locs cells slots Q (F0 m pc ls st0) := by
  have hF : ∀ q, va_A (am_ws A B dA w) H.size q → Af q := fun q h => by
    rcases h with ⟨k9, e9, h⟩ | h
    · exact hR.2.1.2 k9 _ h
    · exact hA q (Nat.le_trans hR.2.2.1.1 h)
  intro T hT X
  obtain ⟨v, st₀, t, T', L, h0, X', hL, e1, e2, ⟨⟨A', hA', hv, hP', hD', hok', hvo⟩, hz, hk⟩, st⟩ := hr T hT X
  have hv : v = rv1.map (am_cv A' B) := by cases hv; rfl
  subst hv
  rw [h0] at hz hk
  subst hmc; subst hms
  have hSn : va_S Af s.heap t.heap (locs ++ L) := ⟨Nat.le_trans hR.2.2.1.1 hz, fun q h1 h2 => by
      rw [hk q (Nat.lt_of_lt_of_le h1 hR.2.2.1.1) (fun z => h2 (hF q z))]
      exact hR.2.2.1.2.1 q h1 h2, fun q hq => by
      rcases List.mem_append.mp hq with h | h
      · exact hR.2.2.1.2.2 q h
      · exact hF _ (hL q h)⟩
  obtain ⟨t2, a1, b1⟩ := kk A' t.heap (locs ++ L) hA' ⟨hP', hD'.weaken (fun _ q _ h => hF q.1 h), hSn, hok'⟩ hvo hle T' e1 X'
  refine ⟨t2, st t2 ?_, b1⟩
  have e3 : (rv1.toList ++ S2).map (am_cv A' B) = (rv1.map (am_cv A' B)).toList ++ S2.map (am_cv A B) := by
    rw [List.map_append, am_map_congr hA' hS2]
    cases rv1 <;> rfl
  rw [e3] at a1
  exact a1
end AMC
