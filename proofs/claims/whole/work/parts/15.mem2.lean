/-! MAKING CELLS; what the library does -/
theorem am_nat_arr : Cond.native arraycopyName ∈ am_gw := List.mem_filter.mpr ⟨by decide +kernel, by decide +kernel⟩
theorem am_stat_arr : Cond.static arraycopyName ∈ am_gw := List.mem_filter.mpr ⟨by decide +kernel, by decide +kernel⟩
theorem am_init_sys : Cond.initialized "java/lang/System" ∈ am_gw := List.mem_filter.mpr ⟨by decide +kernel, by decide +kernel⟩
theorem am_init_math : Cond.initialized "java/lang/Math" ∈ am_gw := List.mem_filter.mpr ⟨by decide +kernel, by decide +kernel⟩
theorem am_stat_max : Cond.static Lib.Math.max.name ∈ am_gw := List.mem_filter.mpr ⟨by decide +kernel, by decide +kernel⟩
theorem am_stat_min : Cond.static Lib.Math.min.name ∈ am_gw := List.mem_filter.mpr ⟨by decide +kernel, by decide +kernel⟩
theorem am_code_max : Cond.code Lib.Math.max.name Lib.Math.max.code 2 (some .int) ∈ am_gw := List.mem_filter.mpr ⟨by decide +kernel, by decide +kernel⟩
theorem am_code_min : Cond.code Lib.Math.min.name Lib.Math.min.code 2 (some .int) ∈ am_gw := List.mem_filter.mpr ⟨by decide +kernel, by decide +kernel⟩
theorem am_inst_obj : Cond.instanceMethod Lib.objectInit ∈ am_gw := List.mem_filter.mpr ⟨by decide +kernel, by decide +kernel⟩
theorem am_code_obj : Cond.code Lib.objectInit ⟨#[0xb1]⟩ 1 none ∈ am_gw := List.mem_filter.mpr ⟨by decide +kernel, by decide +kernel⟩
theorem am_arr_int : Cond.arrayClass .int ∈ am_gw := List.mem_filter.mpr ⟨by decide +kernel, by decide +kernel⟩
theorem am_arr_byte : Cond.arrayClass .byte ∈ am_gw := List.mem_filter.mpr ⟨by decide +kernel, by decide +kernel⟩
theorem am_arr_bool : Cond.arrayClass .boolean ∈ am_gw := List.mem_filter.mpr ⟨by decide +kernel, by decide +kernel⟩
theorem am_arr_long : Cond.arrayClass .long ∈ am_gw := List.mem_filter.mpr ⟨by decide +kernel, by decide +kernel⟩
theorem am_link_mna : Cond.classLink "WashingLines$Trials" 9 "[[I" ∈ am_gw := List.mem_filter.mpr ⟨by decide +kernel, by decide +kernel⟩
theorem am_nfw : nativeFrameWords "java/lang/System" "arraycopy" 5 ≤ 60 := by decide +kernel
theorem am_def_ok (n t : Nat) : am_ok n (am_def t : AV R1) := by
  unfold am_def
  split
  · trivial
  · show (Int32.ofInt 0).toInt = 0; decide
theorem am_def_cv (A A' B : Nat → Nat) (t : Nat) : am_cv A' B (am_def t) = am_cv A B (am_def t) := by
  unfold am_def
  split <;> rfl
theorem am_R_app {D : va_G} {dA : Nat → ClassId} {A B : Nat → Nat} {Af : Nat → Prop} {H0 H1 : Heap} {locs1 : List Loc} {w : W1} {c : C1} {q : Nat} {e : va_E} (hw : ∀ c ∈ w, am_okc w.length c) (hc : am_okc (w.length + 1) c) (p1 : va_P D am_cl (am_ws A B dA w ++ [(q, e)]) H1) (p2 : va_D Af (am_ws A B dA w ++ [(q, e)])) (p3 : va_S Af H0 H1 locs1)
    (he : e = am_cc (fun a => if a = w.length then q else A a) B dA c) : am_R D dA (fun a => if a = w.length then q else A a) B Af H0 H1 locs1 (w ++ [c]) := by
  have e1 : am_ws (fun a => if a = w.length then q else A a) B dA (w ++ [c]) = am_ws A B dA w ++ [(q, e)] := by
    rw [am_ws_app (A := A) (fun a ha => if_neg (by omega)) hw, he]
    simp
  refine ⟨by rw [e1]; exact p1, by rw [e1]; exact p2, p3, fun x hx => ?_⟩
  rw [List.length_append, List.length_singleton]
  rcases List.mem_append.mp hx with h | h
  · exact am_okc_mono (by omega) (hw x h)
  · rw [List.mem_singleton.mp h]; exact hc
section AMN
variable {p : Program} {l : Launch} {e : Env} {R : Room} {s : State} {m : MethodId} {args : Array Value} {below : List Frame} {meth : Method} {c : Code} {H : Heap} {locs : List Loc} {cells slots : Nat} {Q : State → Prop}
variable {cc : ByteArray} {pc : Nat} {ls : Array Slot} {D : va_G} {dA : Nat → ClassId} {A B : Nat → Nat} {sl : Nat} {xs : Nat → Int32} {Af : Nat → Prop} {w w' : W1} {S2 : List (AV R1)} {rv : Option (AV R1)} {as : List (AV R1)} {k idx nx : Nat}
theorem am_K.made {c1 : C1} {q : Nat} (kk : am_K p l e R s m args below meth c cells slots Q D dA A B Af w (w ++ [c1]) (some (vR (.inl w.length))) nx ls S2) (hS2 : ∀ v ∈ S2, am_ok w.length v) {H' : Heap} {locs' : List Loc} (hR : am_R D dA (fun a => if a = w.length then q else A a) B Af s.heap H' locs' (w ++ [c1])) :
    W p l e R s m args below meth c H' locs' (cells + 1) (slots + am_szc am_ft c1) Q (F0 m nx ls (.ref q :: S2.map (am_cv A B))) := by
  have h := kk _ H' locs' (fun a ha => if_neg (by omega)) hR (fun v hv => by cases hv; show w.length < (w ++ [c1]).length; simp) (by simp)
  have e1 : (w ++ [c1]).length - w.length = 1 := by simp
  have e2 : am_sl am_ft (w ++ [c1]) - am_sl am_ft w = am_szc am_ft c1 := by rw [am_sl_app]; omega
  rw [e1, e2] at h
  have e3 : (((some (vR (Sum.inl w.length) : AV R1)).toList ++ S2).map (am_cv (fun a => if a = w.length then q else A a) B)) = .ref q :: S2.map (am_cv A B) := by
    show am_cv _ B (vR (Sum.inl w.length)) :: S2.map _ = _
    rw [am_map_congr (n := w.length) (A := A) (fun a ha => if_neg (by omega)) hS2]
    show Value.ref (if w.length = w.length then q else A w.length) :: _ = _
    rw [if_pos rfl]
  rw [e3] at h
  exact h
theorem am_m_new (hx : p.tables.exec = Jvm.exec) (hb : c.code = cc) (hown : s.vm.findClass (am_nm (am_o k)) = some m.cls) (hts : ∀ w ∈ am_gw, w.before args s = true) (hE : am_E D dA B sl xs Af s s.heap) (hA : ∀ q, s.heap.size ≤ q → Af q) (hR : am_R D dA A B Af s.heap H locs w)
    {i : Nat} (hcl : am_clk (am_o k) i = some idx) (hdg : decode cc pc = .ok (.new i, 3)) (hm : m1_new am_ft idx as w = some (rv, w')) (hS2 : ∀ v ∈ S2, am_ok w.length v)
    (hcells : cells + (w'.length - w.length) ≤ R.cells) (hslots : slots + (am_sl am_ft w' - am_sl am_ft w) ≤ R.slots)
    (kk : am_K p l e R s m args below meth c cells slots Q D dA A B Af w w' rv (pc + 3) ls S2) : W p l e R s m args below meth c H locs cells slots Q (F0 m pc ls ((as.reverse ++ S2).map (am_cv A B))) := by
  unfold m1_new at hm
  split at hm
  · split at hm
    · rename_i hlt
      cases hm
      obtain ⟨q, hq⟩ : ∃ q, am_cl[idx]? = some q := ⟨_, List.getElem?_eq_getElem hlt⟩
      obtain ⟨g1, g2, g3, g4⟩ := am_cl_ok hq
      obtain ⟨k1, k2, k3⟩ := am_clk_ok hcl hq
      rw [am_sl_app, Nat.add_sub_cancel_left] at hslots
      have hslots : slots + (am_ft idx).length ≤ R.slots := hslots
      rw [show (w ++ [(Sum.inl (idx, (am_ft idx).map am_def) : C1)]).length - w.length = 1 by simp] at hcells
      obtain ⟨C, T, N⟩ := q
      simp only at g1 g2 g3 g4 k1 k2 k3
      refine va_new (D := D) (cl := am_cl) (tys := am_tys dA) (ws := am_ws A B dA w) (C := C) (T := T) (N := N) (ci := idx) (fs := ((am_ft idx).map am_def).map (am_cv A B)) hx hb hts g1 (am_fty idx) g2 hown (hts _ k1) (hts _ k2) (hts _ k3) hE.K hR.1 hR.2.1 hR.2.2.1 hA hq (fun j hj => ?_) hcells (by rw [← g4]; exact hslots) hdg (fun q H1 p1 p2 p3 => ?_)
      · have h3 := g3 j hj
        unfold vp_V
        rw [List.getD_eq_getElem?_getD] at h3
        rw [List.getD_eq_getElem?_getD, List.getElem?_map, List.getElem?_map]
        have hj2 : j < (am_ft idx).length := by omega
        rw [List.getElem?_eq_getElem hj2] at h3 ⊢
        simp only [Option.map_some, Option.getD_some] at h3 ⊢
        generalize (am_ft idx)[j] = t at h3 ⊢
        generalize am_fty idx j = ty at h3 ⊢
        match t, ty, h3 with
        | 0, .int, _ => rfl
        | 1, .boolean, _ => rfl
        | 2, .object _, _ => rfl
        | 2, .array _, _ => rfl
      · have h := am_K.made kk hS2 (am_R_app (c := .inl (idx, (am_ft idx).map am_def)) hR.2.2.2 (fun v hv => by obtain ⟨t, -, rfl⟩ := List.mem_map.mp hv; exact am_def_ok _ t) p1 p2 p3 (by
          show _ = (Sum.inr (idx, ((am_ft idx).map am_def).map (am_cv (fun a => if a = w.length then q else A a) B)) : va_E)
          congr 2
          apply List.map_congr_left
          intro v hv
          obtain ⟨t, -, rfl⟩ := List.mem_map.mp hv
          exact (am_def_cv _ _ _ t).symm))
        rw [← g4]
        exact h
    · cases hm
  · cases hm
theorem am_m_newa (hx : p.tables.exec = Jvm.exec) (hb : c.code = cc) (hts : ∀ w ∈ am_gw, w.before args s = true) (hE : am_E D dA B sl xs Af s s.heap) (hA : ∀ q, s.heap.size ≤ q → Af q) (hR : am_R D dA A B Af s.heap H locs w)
    {t : Jvm.ClassFile.ArrayType} (ht : (t = .int ∧ idx = 0) ∨ (t = .byte ∧ idx = 1) ∨ (t = .boolean ∧ idx = 2) ∨ (t = .long ∧ idx = 3)) (hdg : decode cc pc = .ok (.newarray t, 2)) (hm : m1_newa idx as w = some (rv, w')) (has : ∀ v ∈ as, am_ok w.length v) (hS2 : ∀ v ∈ S2, am_ok w.length v)
    (hcells : cells + (w'.length - w.length) ≤ R.cells) (hslots : slots + (am_sl am_ft w' - am_sl am_ft w) ≤ R.slots)
    (kk : am_K p l e R s m args below meth c cells slots Q D dA A B Af w w' rv (pc + 2) ls S2) : W p l e R s m args below meth c H locs cells slots Q (F0 m pc ls ((as.reverse ++ S2).map (am_cv A B))) := by
  unfold m1_newa at hm
  split at hm
  · rename_i n
    have hn : (Int32.ofInt n).toInt = n := has (.inl n) (by simp)
    split at hm
    · rename_i hc
      obtain ⟨c1, c2, c3⟩ := hc
      cases hm
      rw [am_sl_app, Nat.add_sub_cancel_left] at hslots
      have hslots : slots + n.toNat ≤ R.slots := hslots
      rw [show (w ++ [(Sum.inr (Sum.inl (idx, n.toNat, fun _ => 0)) : C1)]).length - w.length = 1 by simp] at hcells
      have hneg : ¬ Int32.ofInt n < 0 := fun q => by rw [am_ilt0 hn] at q; omega
      have okn : am_okc (w.length + 1) (.inr (.inl (idx, n.toNat, fun _ => 0))) := ⟨c3, fun j => by
        split
        · show (Int64.ofInt 0).toInt = 0; decide
        · show (Int32.ofInt 0).toInt = 0; decide⟩
      have hbytes : ∀ z : Nat, z ≤ 8 → n.toNat * z ≤ 536870912 := fun z hz => by
        have h1 : n.toNat ≤ 100000 := by omega
        calc n.toNat * z ≤ 100000 * 8 := Nat.mul_le_mul h1 hz
          _ ≤ 536870912 := by decide
      rcases ht with ⟨rfl, rfl⟩ | ⟨rfl, rfl⟩ | ⟨rfl, rfl⟩ | ⟨rfl, rfl⟩
      · refine va_newa (atype := .int) (ty := .int) (D := D) (cl := am_cl) (tys := am_tys dA) (ws := am_ws A B dA w) (a0 := (n.toNat, .inl (fun _ => Int32.ofInt 0))) hx hb (hts _ am_arr_int) rfl hE.K hR.1 hR.2.1 hR.2.2.1 hA (fun cA => rfl) hneg (am_clamp hn) (hbytes _ (by decide)) hcells hslots hdg (fun q cA H1 kK p1 p2 p3 => ?_)
        have hcA : cA = dA 0 := by
          have h1 := (kK.2 8 (cA, .int) rfl).2
          have h2 := (hE.K.2 0 _ rfl).2
          exact Option.some.inj (h1.symm.trans h2)
        subst hcA
        exact am_K.made kk hS2 (am_R_app hR.2.2.2 okn p1 p2 p3 rfl)
      · refine va_newa (atype := .byte) (ty := .byte) (D := D) (cl := am_cl) (tys := am_tys dA) (ws := am_ws A B dA w) (a0 := (n.toNat, .inl (fun _ => Int32.ofInt 0))) hx hb (hts _ am_arr_byte) rfl hE.K hR.1 hR.2.1 hR.2.2.1 hA (fun cA => rfl) hneg (am_clamp hn) (hbytes _ (by decide)) hcells hslots hdg (fun q cA H1 kK p1 p2 p3 => ?_)
        have hcA : cA = dA 1 := by
          have h1 := (kK.2 8 (cA, .byte) rfl).2
          have h2 := (hE.K.2 1 _ rfl).2
          exact Option.some.inj (h1.symm.trans h2)
        subst hcA
        exact am_K.made kk hS2 (am_R_app hR.2.2.2 okn p1 p2 p3 rfl)
      · refine va_newa (atype := .boolean) (ty := .boolean) (D := D) (cl := am_cl) (tys := am_tys dA) (ws := am_ws A B dA w) (a0 := (n.toNat, .inl (fun _ => Int32.ofInt 0))) hx hb (hts _ am_arr_bool) rfl hE.K hR.1 hR.2.1 hR.2.2.1 hA (fun cA => rfl) hneg (am_clamp hn) (hbytes _ (by decide)) hcells hslots hdg (fun q cA H1 kK p1 p2 p3 => ?_)
        have hcA : cA = dA 2 := by
          have h1 := (kK.2 8 (cA, .boolean) rfl).2
          have h2 := (hE.K.2 2 _ rfl).2
          exact Option.some.inj (h1.symm.trans h2)
        subst hcA
        exact am_K.made kk hS2 (am_R_app hR.2.2.2 okn p1 p2 p3 rfl)
      · refine va_newa (atype := .long) (ty := .long) (D := D) (cl := am_cl) (tys := am_tys dA) (ws := am_ws A B dA w) (a0 := (n.toNat, .inr (.inl (fun _ => Int64.ofInt 0)))) hx hb (hts _ am_arr_long) rfl hE.K hR.1 hR.2.1 hR.2.2.1 hA (fun cA => rfl) hneg (am_clamp hn) (hbytes _ (by decide)) hcells hslots hdg (fun q cA H1 kK p1 p2 p3 => ?_)
        have hcA : cA = dA 3 := by
          have h1 := (kK.2 8 (cA, .long) rfl).2
          have h2 := (hE.K.2 3 _ rfl).2
          exact Option.some.inj (h1.symm.trans h2)
        subst hcA
        exact am_K.made kk hS2 (am_R_app hR.2.2.2 okn p1 p2 p3 rfl)
    · cases hm
  · cases hm
theorem am_m_newq (hx : p.tables.exec = Jvm.exec) (hb : c.code = cc) (hown : s.vm.findClass (am_nm (am_o k)) = some m.cls) (hts : ∀ w ∈ am_gw, w.before args s = true) (hE : am_E D dA B sl xs Af s s.heap) (hA : ∀ q, s.heap.size ≤ q → Af q) (hR : am_R D dA A B Af s.heap H locs w)
    {i : Nat} (hcl : am_clk (am_o k) i = some idx) (hdg : decode cc pc = .ok (.anewarray i, 3)) (hm : m1_newq idx as w = some (rv, w')) (has : ∀ v ∈ as, am_ok w.length v) (hS2 : ∀ v ∈ S2, am_ok w.length v)
    (hcells : cells + (w'.length - w.length) ≤ R.cells) (hslots : slots + (am_sl am_ft w' - am_sl am_ft w) ≤ R.slots)
    (kk : am_K p l e R s m args below meth c cells slots Q D dA A B Af w w' rv (pc + 3) ls S2) : W p l e R s m args below meth c H locs cells slots Q (F0 m pc ls ((as.reverse ++ S2).map (am_cv A B))) := by
  unfold m1_newq at hm
  split at hm
  · rename_i n
    have hn : (Int32.ofInt n).toInt = n := has (.inl n) (by simp)
    split at hm
    · rename_i hc
      obtain ⟨c1, c2, c3⟩ := hc
      cases hm
      rw [am_sl_app, Nat.add_sub_cancel_left] at hslots
      have hslots : slots + n.toNat ≤ R.slots := hslots
      rw [show (w ++ [(Sum.inr (Sum.inr (100 + idx, n.toNat, fun _ => none)) : C1)]).length - w.length = 1 by simp] at hcells
      have hneg : ¬ Int32.ofInt n < 0 := fun q => by rw [am_ilt0 hn] at q; omega
      have okn : am_okc (w.length + 1) (.inr (.inr (100 + idx, n.toNat, fun _ => none))) := ⟨by omega, fun j a h => by cases h⟩
      have row : ∀ (C : String) (t0 : Nat), C ∈ am_ao → (am_tys dA)[t0]? = some (dA (100 + idx), .object C) → Cond.classLink (am_nm (am_o k)) i C ∈ am_gw → W p l e R s m args below meth c H locs cells slots Q (F0 m pc ls (.int (Int32.ofInt n) :: S2.map (am_cv A B))) := by
        intro C t0 hC ht hl
        refine va_newq (D := D) (cl := am_cl) (tys := am_tys dA) (ws := am_ws A B dA w) hx hb hown (hts _ hl) (hE.1.2.2.1 C hC) hE.K hR.1 hR.2.1 hR.2.2.1 hA hneg (am_clamp hn) (by omega) hcells hslots hdg (fun q cA H1 kK p1 p2 p3 => ?_)
        have hcA : cA = dA (100 + idx) := by
          obtain ⟨k1, m1, a1, a2, a3, a4⟩ := (kK.2 8 (cA, .object C) rfl).2
          obtain ⟨k2, m2, b1, b2, b3, b4⟩ := (hE.K.2 t0 _ ht).2
          exact Option.some.inj (a4.symm.trans b4)
        subst hcA
        exact am_K.made kk hS2 (am_R_app hR.2.2.2 okn p1 p2 p3 rfl)
      rcases c3 with rfl | rfl | rfl
      · exact row "WashingLines$Yard" 4 (by decide) rfl (am_clk_ok hcl rfl).1
      · exact row "WashingLines$Law" 5 (by decide) rfl (am_clk_ok hcl rfl).1
      · exact row "WashingLines$World" 6 (by decide) rfl (am_clk_ok hcl rfl).1
    · cases hm
  · cases hm
end AMN
