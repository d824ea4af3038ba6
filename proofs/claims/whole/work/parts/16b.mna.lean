/-! new T[n][k], of ints -/
theorem am_ws_app2 {A B : Nat → Nat} {dA : Nat → ClassId} {u v : W1} : am_ws A B dA (u ++ v) = am_ws A B dA u ++ v.mapIdx (fun i c => (A (i + u.length), am_cc A B dA c)) := by
  unfold am_ws
  rw [List.mapIdx_append]
theorem am_clk_none {o i : Nat} (h : am_clk o i = some 99) : Cond.classLink (am_nm o) i "[[I" ∈ am_gw := by
  unfold am_clk at h
  obtain ⟨e, he, h⟩ := Option.map_eq_some_iff.mp h
  have h1 := List.find?_some he
  have h2 := List.all_eq_true.mp am_clkAll e (List.mem_of_find?_eq_some he)
  simp only [Bool.and_eq_true] at h1
  obtain ⟨a, b, d, p⟩ := e
  cases h
  have e1 := Nat.eq_of_beq_eq_true h1.1
  have e2 := Nat.eq_of_beq_eq_true h1.2
  simp only at e1 e2
  subst e1; subst e2
  exact am_at_mem h2
section AMNA
variable {p : Program} {l : Launch} {e : Env} {R : Room} {s : State} {m : MethodId} {args : Array Value} {below : List Frame} {meth : Method} {c : Code} {H : Heap} {locs : List Loc} {cells slots : Nat} {Q : State → Prop}
variable {cc : ByteArray} {pc : Nat} {ls : Array Slot} {D : va_G} {dA : Nat → ClassId} {A B : Nat → Nat} {sl : Nat} {xs : Nat → Int32} {Af : Nat → Prop} {w w' : W1} {S2 : List (AV R1)} {rv : Option (AV R1)} {as : List (AV R1)} {k idx nx : Nat}
theorem am_m_mna (hx : p.tables.exec = Jvm.exec) (hb : c.code = cc) (hown : s.vm.findClass (am_nm (am_o k)) = some m.cls) (hts : ∀ w ∈ am_gw, w.before args s = true) (hE : am_E D dA B sl xs Af s s.heap) (hA : ∀ q, s.heap.size ≤ q → Af q) (hR : am_R D dA A B Af s.heap H locs w)
    {i : Nat} (hcl : am_clk (am_o k) i = some 99) (hdg : decode cc pc = .ok (.multianewarray i 2, 4)) (hm : m1_mna as w = some (rv, w')) (has : ∀ v ∈ as, am_ok w.length v) (hS2 : ∀ v ∈ S2, am_ok w.length v)
    (hcells : cells + (w'.length - w.length) ≤ R.cells) (hslots : slots + (am_sl am_ft w' - am_sl am_ft w) ≤ R.slots)
    (kk : am_K p l e R s m args below meth c cells slots Q D dA A B Af w w' rv (pc + 4) ls S2) : W p l e R s m args below meth c H locs cells slots Q (F0 m pc ls ((as.reverse ++ S2).map (am_cv A B))) := by
  unfold m1_mna at hm
  split at hm
  · rename_i n j
    have hn : (Int32.ofInt n).toInt = n := has (.inl n) (by simp)
    have hj : (Int32.ofInt j).toInt = j := has (.inl j) (by simp)
    split at hm
    · rename_i hc
      obtain ⟨c1, c2, c3, c4⟩ := hc
      cases hm
      generalize hN : n.toNat = N at *
      generalize hK : j.toNat = K at *
      have hN2 : N ≤ 100 := by omega
      have hK2 : K ≤ 100 := by omega
      have hsum : am_sl am_ft (List.replicate N (Sum.inr (Sum.inl (0, K, fun _ => 0)) : C1)) = N * K := by
        unfold am_sl
        rw [List.map_replicate, List.sum_replicate_nat]
        rfl
      have d1 : (w ++ (Sum.inr (Sum.inr (99, N, fun q => if q < N then some (w.length + 1 + q) else none)) : C1) :: List.replicate N (Sum.inr (Sum.inl (0, K, fun _ => 0)) : C1)).length - w.length = 1 + N := by
        simp only [List.length_append, List.length_cons, List.length_replicate]; omega
      have d2 : am_sl am_ft (w ++ (Sum.inr (Sum.inr (99, N, fun q => if q < N then some (w.length + 1 + q) else none)) : C1) :: List.replicate N (Sum.inr (Sum.inl (0, K, fun _ => 0)) : C1)) - am_sl am_ft w = N + N * K := by
        have e0 : am_sl am_ft ((Sum.inr (Sum.inr (99, N, fun q => if q < N then some (w.length + 1 + q) else none)) : C1) :: List.replicate N (Sum.inr (Sum.inl (0, K, fun _ => 0)) : C1)) = N + N * K := by
          rw [← hsum]; rfl
        have e1 : ∀ u v : W1, am_sl am_ft (u ++ v) = am_sl am_ft u + am_sl am_ft v := fun u v => by unfold am_sl; simp
        rw [e1, e0]; omega
      rw [d1] at hcells
      rw [d2] at hslots
      have hnn : ¬ Int32.ofInt n < 0 := fun q => by rw [am_ilt0 hn] at q; omega
      have hjn : ¬ Int32.ofInt j < 0 := fun q => by rw [am_ilt0 hj] at q; omega
      have e9 : "[" ++ (FieldType.array .int).toString = "[[I" := by decide
      have hint : s.vm.findClass (FieldType.array .int).toString = some (dA 0) := (hE.K.2 0 _ rfl).2
      have hP0 : va_P D am_cl (am_ws A B dA w ++ va_pl [] (fun _ => Sum.inr (0, []))) H := by
        show va_P D am_cl (am_ws A B dA w ++ []) H
        rw [List.append_nil]; exact hR.1
      have hD0 : va_D Af (am_ws A B dA w ++ va_pl [] (fun _ => Sum.inr (0, []))) := by
        show va_D Af (am_ws A B dA w ++ [])
        rw [List.append_nil]; exact hR.2.1
      refine va_mna (D := D) (cl := am_cl) (tys := am_tys dA) (X := am_ws A B dA w) (L := []) (f := fun _ => Sum.inr (0, [])) (ty := .int) (z := (K, .inl (fun _ => Int32.ofInt 0))) hx hb hown (by rw [e9]; exact hts _ (am_clk_none hcl)) hE.1.2.2.2.1 (hts _ am_arr_int) hint hE.K hP0 hD0 hR.2.2.1 hA hnn hjn ((am_clamp hn).trans hN) ((am_clamp hj).trans hK) (by omega) (by show K * 4 ≤ _; omega) (by omega) rfl rfl hcells hslots (fun cX => ?_) hdg (fun q r cA H1 hinj hnew kK p1 p2 p3 => ?_)
      · exact arrV_new _ _ _
      · have hcA : cA = dA 99 := by
          have h1 := (kK.2 8 (cA, .array .int) rfl).2
          have h2 := (hE.K.2 7 _ rfl).2
          exact Option.some.inj (h1.symm.trans h2)
        subst hcA
        let A' : Nat → Nat := fun a => if a = w.length then q else if w.length < a ∧ a < w.length + 1 + N then r (a - (w.length + 1)) else A a
        have hAA : ∀ a, a < w.length → A' a = A a := fun a ha => by
          show (if a = w.length then q else if w.length < a ∧ a < w.length + 1 + N then r (a - (w.length + 1)) else A a) = A a
          rw [if_neg (by omega), if_neg (by omega)]
        have hAq : A' w.length = q := if_pos rfl
        have hAr : ∀ i, i < N → A' (w.length + 1 + i) = r i := fun i hi => by
          show (if w.length + 1 + i = w.length then q else if w.length < w.length + 1 + i ∧ w.length + 1 + i < w.length + 1 + N then r (w.length + 1 + i - (w.length + 1)) else A (w.length + 1 + i)) = r i
          rw [if_neg (by omega), if_pos (by omega), show w.length + 1 + i - (w.length + 1) = i by omega]
        have hworld : am_ws A' B dA (w ++ (Sum.inr (Sum.inr (99, N, fun q => if q < N then some (w.length + 1 + q) else none)) : C1) :: List.replicate N (Sum.inr (Sum.inl (0, K, fun _ => 0)) : C1)) = (am_ws A B dA w ++ [(q, .inl (dA 99, N, .inr (.inr (.inr (.inr (fun i => if i < N then some (r i) else none))))))]) ++ va_pl ([] ++ (List.range N).map r) (vr_up (fun _ => Sum.inr (0, [])) ((List.range N).map r) (.inl (dA 0, (K, .inl (fun _ => Int32.ofInt 0))))) := by
          rw [am_ws_app2, am_ws_same hAA hR.2.2.2, List.append_assoc]
          congr 1
          rw [List.mapIdx_cons]
          show (A' (0 + w.length), _) :: _ = (q, _) :: _
          rw [Nat.zero_add, hAq]
          congr 1
          · have : (fun j => (if j < N then some (w.length + 1 + j) else none : Option Nat).map A') = fun i => if i < N then some (r i) else none := funext fun i => by
              by_cases hi : i < N
              · rw [if_pos hi, if_pos hi]; show some (A' (w.length + 1 + i)) = _; rw [hAr i hi]
              · rw [if_neg hi, if_neg hi]; rfl
            show (q, (Sum.inl (dA 99, N, .inr (.inr (.inr (.inr (fun j => (if j < N then some (w.length + 1 + j) else none : Option Nat).map A'))))) : va_E)) = _
            rw [this]
          · unfold va_pl
            apply List.ext_getElem?
            intro i
            rw [List.getElem?_mapIdx, List.getElem?_replicate]
            show _ = ((((List.range N).map r).map (fun a => (a, vr_up (fun _ => (Sum.inr (0, []) : va_E)) ((List.range N).map r) (Sum.inl (dA 0, (K, Sum.inl (fun _ => Int32.ofInt 0)))) a))))[i]?
            rw [List.getElem?_map, List.getElem?_map]
            by_cases hi : i < N
            · rw [if_pos hi, List.getElem?_range hi]
              simp only [Option.map_some]
              rw [show i + 1 + w.length = w.length + 1 + i by omega, hAr i hi, vr_up_in (List.mem_map.mpr ⟨i, List.mem_range.mpr hi, rfl⟩)]
              rfl
            · rw [if_neg hi, List.getElem?_eq_none (by rw [List.length_range]; omega)]
              rfl
        have hok' : ∀ x ∈ w ++ (Sum.inr (Sum.inr (99, N, fun q => if q < N then some (w.length + 1 + q) else none)) : C1) :: List.replicate N (Sum.inr (Sum.inl (0, K, fun _ => 0)) : C1), am_okc (w ++ (Sum.inr (Sum.inr (99, N, fun q => if q < N then some (w.length + 1 + q) else none)) : C1) :: List.replicate N (Sum.inr (Sum.inl (0, K, fun _ => 0)) : C1)).length x := by
          intro x hx
          simp only [List.length_append, List.length_cons, List.length_replicate]
          rcases List.mem_append.mp hx with h | h
          · exact am_okc_mono (by omega) (hR.2.2.2 x h)
          · rcases List.mem_cons.mp h with h | h
            · rw [h]
              refine ⟨Or.inl rfl, fun j2 a2 h2 => ?_⟩
              by_cases hj2 : j2 < N
              · simp only [if_pos hj2, Option.some.injEq] at h2; omega
              · simp only [if_neg hj2] at h2; cases h2
            · rw [List.eq_of_mem_replicate h]
              exact ⟨by decide, fun j2 => by rw [if_neg (by decide)]; show (Int32.ofInt 0).toInt = 0; decide⟩
        have h := kk A' H1 locs hAA ⟨by rw [hworld]; exact p1, by rw [hworld]; exact p2, p3, hok'⟩ (fun v hv => by cases hv; show w.length < _; simp) (by simp)
        rw [d1, d2] at h
        have e3 : (((some (vR (Sum.inl w.length) : AV R1)).toList ++ S2).map (am_cv A' B)) = .ref q :: S2.map (am_cv A B) := by
          show am_cv _ B (vR (Sum.inl w.length)) :: S2.map _ = _
          rw [am_map_congr (n := w.length) (A := A) hAA hS2]
          show Value.ref (A' w.length) :: _ = _
          rw [hAq]
        rw [e3] at h
        rw [show cells + 1 + N = cells + (1 + N) by omega, show slots + N + N * K = slots + (N + N * K) by omega]
        exact h
    · cases hm
  · cases hm
end AMNA
