/-! COPIES, the library's small ones, texts -/
section AMO
variable {p : Program} {l : Launch} {e : Env} {R : Room} {s : State} {m : MethodId} {args : Array Value} {below : List Frame} {meth : Method} {c : Code} {H : Heap} {locs : List Loc} {cells slots : Nat} {Q : State → Prop}
variable {cc : ByteArray} {pc : Nat} {ls : Array Slot} {D : va_G} {dA : Nat → ClassId} {A B : Nat → Nat} {sl : Nat} {xs : Nat → Int32} {Af : Nat → Prop} {w w' : W1} {S2 : List (AV R1)} {rv : Option (AV R1)} {as : List (AV R1)} {k idx nx : Nat}
theorem am_cats_le {A B : Nat → Nat} {S2 : List (AV R1)} (h : am_small S2 = true) : ((S2.map (am_cv A B)).map fun v => v.category).sum ≤ 8 := by
  rw [am_cats]
  unfold am_small at h
  simpa using h
theorem am_cp_cv {f g : Nat → Int} {sp dp n : Nat} : (fun j => Int32.ofInt (am_cp f g sp dp n j)) = va_cpy (fun j => Int32.ofInt (f j)) (fun j => Int32.ofInt (g j)) sp dp n := by
  funext j
  unfold am_cp va_cpy
  split <;> rfl
theorem am_m_cpy (hx : p.tables.exec = Jvm.exec) (hb : c.code = cc) (hml : c.maxLocals = ls.size) (hown : s.vm.findClass (am_nm (am_o k)) = some m.cls) (hts : ∀ w ∈ am_gw, w.before args s = true) (hE : am_E D dA B sl xs Af s s.heap) (hR : am_R D dA A B Af s.heap H locs w)
    (hf : 1 ≤ R.frames) (hlo : 100 ≤ R.locals) (hsm : am_small S2 = true)
    {i : Nat} (hl : Cond.methodLink (am_nm (am_o k)) i arraycopyName ∈ am_gw) (hdg : decode cc pc = .ok (.invokestatic i, 3)) (hm : m1_cpy as w = some (rv, w')) (has : ∀ v ∈ as, am_ok w.length v)
    (kk : am_K p l e R s m args below meth c cells slots Q D dA A B Af w w' rv (pc + 3) ls S2) : W p l e R s m args below meth c H locs cells slots Q (F0 m pc ls ((as.reverse ++ S2).map (am_cv A B))) := by
  unfold m1_cpy at hm
  split at hm
  · rename_i a sp b dp n
    have h1 : (Int32.ofInt sp).toInt = sp := has (.inl sp) (by simp)
    have h2 : (Int32.ofInt dp).toInt = dp := has (.inl dp) (by simp)
    have h3 : (Int32.ofInt n).toInt = n := has (.inl n) (by simp)
    split at hm
    · rename_i t n0 f u n1 g hwa hwb
      split at hm
      · rename_i hc
        obtain ⟨rfl, rfl, c1, c2, c3, c4, c5⟩ := hc
        cases hm
        have hwsa := am_ws_at (A := A) (B := B) (dA := dA) hwa
        have hwsb := am_ws_at (A := A) (B := B) (dA := dA) hwb
        rw [am_cc_int (by decide)] at hwsa hwsb
        have hcat := am_cats_le (A := A) (B := B) hsm
        have hnf := am_nfw
        refine va_copyi (D := D) (cl := am_cl) (tys := am_tys dA) (ws := am_ws A B dA w) (ty := .int) hx hb hml hown (hts _ hl) (hts _ am_nat_arr) (hts _ am_stat_arr) (hts _ am_init_sys) hE.K hR.1 hR.2.1 hR.2.2.1 a b 0 0 hwsa hwsb rfl rfl rfl (fun q => by rw [am_ilt0 h1] at q; omega) (fun q => by rw [am_ilt0 h2] at q; omega) (fun q => by rw [am_ilt0 h3] at q; omega) (by rw [am_clamp h1, am_clamp h3]; exact c4) (by rw [am_clamp h2, am_clamp h3]; exact c5) (fun _ _ => rfl) hf (by omega : ((S2.map (am_cv A B)).map fun v => v.category).sum + (nativeFrameWords "java/lang/System" "arraycopy" 5 + 11) ≤ R.locals) hdg (fun H1 locs1 p1 p2 p3 => ?_)
        obtain ⟨-, hf0⟩ := hR.2.2.2 _ (List.mem_of_getElem? hwa)
        obtain ⟨-, hg0⟩ := hR.2.2.2 _ (List.mem_of_getElem? hwb)
        have e1 : (am_ws A B dA w).set b (A b, .inl (dA 0, n1, .inl (va_cpy (fun j => Int32.ofInt (f j)) (fun j => Int32.ofInt (g j)) (Int32.ofInt sp).toNatClampNeg (Int32.ofInt dp).toNatClampNeg (Int32.ofInt n).toNatClampNeg))) = am_ws A B dA (w.set b (.inr (.inl (0, n1, am_cp f g sp.toNat dp.toNat n.toNat)))) := by
          rw [← am_ws_set, am_cc_int (by decide), am_cp_cv, am_clamp h1, am_clamp h2, am_clamp h3]
        rw [e1] at p1 p2
        refine kk.same (by rw [List.length_set]) (am_sl_set (by rfl) _ _ hwb) ⟨p1, p2, p3, am_okc_set hR.2.2.2 ⟨by decide, fun j => ?_⟩⟩ (fun u hu => by cases hu)
        rw [if_neg (by decide)]
        unfold am_cp
        split
        · exact am_iok hf0 (by decide) _
        · exact am_iok hg0 (by decide) _
      · cases hm
    · cases hm
  · cases hm
theorem am_m_max (hx : p.tables.exec = Jvm.exec) (hb : c.code = cc) (hml : c.maxLocals = ls.size) (hown : s.vm.findClass (am_nm (am_o k)) = some m.cls) (hts : ∀ w ∈ am_gw, w.before args s = true) (hR : am_R D dA A B Af s.heap H locs w)
    (hf : 1 ≤ R.frames) (hlo : 100 ≤ R.locals) (hc0 : cells ≤ R.cells) (hs0 : slots ≤ R.slots) (hsm : am_small S2 = true) {x y : Int} (hxo : (Int32.ofInt x).toInt = x) (hyo : (Int32.ofInt y).toInt = y)
    {i : Nat} (hl : Cond.methodLink (am_nm (am_o k)) i Lib.Math.max.name ∈ am_gw) (hdg : decode cc pc = .ok (.invokestatic i, 3))
    (kk : am_K p l e R s m args below meth c cells slots Q D dA A B Af w w (some (vI (if x < y then y else x))) (pc + 3) ls S2) : W p l e R s m args below meth c H locs cells slots Q (F0 m pc ls ((([vI x, vI y] : List (AV R1)).reverse ++ S2).map (am_cv A B))) := by
  have hcat := am_cats_le (A := A) (B := B) hsm
  have hok : (Int32.ofInt (if x < y then y else x)).toInt = (if x < y then y else x) := by split <;> assumption
  have h := kk.same rfl rfl hR (fun u hu => by cases hu; exact hok)
  have h : W p l e R s m args below meth c H locs cells slots Q (F0 m (pc + 3) ls (.int (Int32.ofInt (if x < y then y else x)) :: S2.map (am_cv A B))) := h
  have e1 : Int32.ofInt (if x < y then y else x) = if Int32.ofInt x < Int32.ofInt y then Int32.ofInt y else Int32.ofInt x := by
    simp only [am_iLt hxo hyo]
    split <;> rfl
  rw [e1] at h
  exact va_mmax hx hb hml hown (hts _ hl) (hts _ am_stat_max) (hts _ am_init_math) (hts _ am_code_max) hf (by omega : ((S2.map (am_cv A B)).map fun v => v.category).sum + 13 ≤ R.locals) hc0 hs0 hdg h
theorem am_m_min (hx : p.tables.exec = Jvm.exec) (hb : c.code = cc) (hml : c.maxLocals = ls.size) (hown : s.vm.findClass (am_nm (am_o k)) = some m.cls) (hts : ∀ w ∈ am_gw, w.before args s = true) (hR : am_R D dA A B Af s.heap H locs w)
    (hf : 1 ≤ R.frames) (hlo : 100 ≤ R.locals) (hc0 : cells ≤ R.cells) (hs0 : slots ≤ R.slots) (hsm : am_small S2 = true) {x y : Int} (hxo : (Int32.ofInt x).toInt = x) (hyo : (Int32.ofInt y).toInt = y)
    {i : Nat} (hl : Cond.methodLink (am_nm (am_o k)) i Lib.Math.min.name ∈ am_gw) (hdg : decode cc pc = .ok (.invokestatic i, 3))
    (kk : am_K p l e R s m args below meth c cells slots Q D dA A B Af w w (some (vI (if y < x then y else x))) (pc + 3) ls S2) : W p l e R s m args below meth c H locs cells slots Q (F0 m pc ls ((([vI x, vI y] : List (AV R1)).reverse ++ S2).map (am_cv A B))) := by
  have hcat := am_cats_le (A := A) (B := B) hsm
  have hok : (Int32.ofInt (if y < x then y else x)).toInt = (if y < x then y else x) := by split <;> assumption
  have h := kk.same rfl rfl hR (fun u hu => by cases hu; exact hok)
  have h : W p l e R s m args below meth c H locs cells slots Q (F0 m (pc + 3) ls (.int (Int32.ofInt (if y < x then y else x)) :: S2.map (am_cv A B))) := h
  have e1 : Int32.ofInt (if y < x then y else x) = if Int32.ofInt y < Int32.ofInt x then Int32.ofInt y else Int32.ofInt x := by
    simp only [am_iLt hyo hxo]
    split <;> rfl
  rw [e1] at h
  exact va_mmin hx hb hml hown (hts _ hl) (hts _ am_stat_min) (hts _ am_init_math) (hts _ am_code_min) hf (by omega : ((S2.map (am_cv A B)).map fun v => v.category).sum + 13 ≤ R.locals) hc0 hs0 hdg h
theorem am_m_obj (hx : p.tables.exec = Jvm.exec) (hb : c.code = cc) (hml : c.maxLocals = ls.size) (hown : s.vm.findClass (am_nm (am_o k)) = some m.cls) (hts : ∀ w ∈ am_gw, w.before args s = true) (hR : am_R D dA A B Af s.heap H locs w)
    (hf : 1 ≤ R.frames) (hlo : 100 ≤ R.locals) (hsm : am_small S2 = true) {a : Nat}
    {i : Nat} (hl : Cond.methodLink (am_nm (am_o k)) i Lib.objectInit ∈ am_gw) (hdg : decode cc pc = .ok (.invokespecial i, 3))
    (kk : am_K p l e R s m args below meth c cells slots Q D dA A B Af w w none (pc + 3) ls S2) : W p l e R s m args below meth c H locs cells slots Q (F0 m pc ls ((([vR (Sum.inl a)] : List (AV R1)).reverse ++ S2).map (am_cv A B))) := by
  have hcat := am_cats_le (A := A) (B := B) hsm
  have h := kk.same rfl rfl hR (fun u hu => by cases hu)
  exact W.objInit hx hb hown (hts _ hl) (hts _ am_inst_obj) (hts _ am_code_obj) (g := F0 m pc ls (.ref (A a) :: S2.map (am_cv A B))) rfl hml.symm rfl hdg hf (by show 2 * 0 + _ + 12 ≤ _; omega) h
theorem am_ldcwS (hexec : p.tables.exec = Jvm.exec) (hb : c.code = cc) {own tx : String} {index q : Nat} {rest : List Value} (hown : s.vm.findClass own = some m.cls) (hZ : vk_R own index tx q s) (hdg : decode cc pc = .ok (.ldc_w index, 3))
    (kk : W p l e R s m args below meth c H locs cells slots Q (F0 m (pc + 3) ls (.ref q :: rest))) : W p l e R s m args below meth c H locs cells slots Q (F0 m pc ls rest) := by
  intro T hT X
  obtain ⟨t, a1, b1⟩ := kk T hT X
  refine ⟨t, ?_, b1⟩
  have hdg : decode c.code pc = .ok (.ldc_w index, 3) := by rw [hb]; exact hdg
  obtain ⟨k, cf, i, a', hk, hcf, hcp, -, hr, hev'⟩ := Cond.stringRef_spec hown hZ.1
  cases hZ.2.symm.trans hev'
  obtain ⟨k', hk', he⟩ := X.warmed.alike.2.2 _ _ hk
  have hr' : k'.resolved[index]? = some (some (.string q)) := by
    rcases X.warmed.entry hk hk' index with h | ⟨h, -⟩
    · rw [h]; exact hr
    · rw [hr] at h; cases h
  jvm_step X.here [hexec, hdg, ldc_w.wp_string (e := e) (s := T) (f := F0 m pc ls rest) X.here.top hk' (by rw [he]; exact hcf) hcp hr']
  exact a1
theorem am_m_ldc {Wi : Jvm.ClassFile.Instr} {len i : Nat} (hx : p.tables.exec = Jvm.exec) (hb : c.code = cc) (hown : s.vm.findClass (am_nm (am_o k)) = some m.cls) (hE : am_E D dA B sl xs Af s s.heap) (hR : am_R D dA A B Af s.heap H locs w)
    (hWi : (Wi = .ldc i ∧ len = 2) ∨ (Wi = .ldc_w i ∧ len = 3)) (htx : am_txk (am_o k) i = some idx) (hdg : decode cc pc = .ok (Wi, len))
    (kk : am_K p l e R s m args below meth c cells slots Q D dA A B Af w w (some (vR (.inr (idx + 1)))) (pc + len) ls S2) : W p l e R s m args below meth c H locs cells slots Q (F0 m pc ls (S2.map (am_cv A B))) := by
  have h := kk.same rfl rfl hR (fun u hu => by cases hu; trivial)
  obtain ⟨h1, q, h2⟩ := am_tx_ok htx
  have hZ := hE.1.2.2.2.2 idx h1
  unfold am_txo am_txi at hZ
  rw [h2] at hZ
  rcases hWi with ⟨rfl, rfl⟩ | ⟨rfl, rfl⟩
  · exact va_ldcS hx hb hown hZ hdg h
  · exact am_ldcwS hx hb hown hZ hdg h
end AMO
