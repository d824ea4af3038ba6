/-! WHAT THE MACHINE ASKS OF ITS CELLS, over the real heap -/
theorem am_rng {x : Int} (h1 : -2147483648 ≤ x) (h2 : x < 2147483648) : (Int32.ofInt x).toInt = x := by
  rw [Int32.toInt_ofInt]
  have hs : ((Int32.size : Nat) : Int) = 4294967296 := rfl
  exact Int.bmod_eq_of_le (by omega) (by omega)
theorem am_clamp {x : Int} (h : (Int32.ofInt x).toInt = x) : (Int32.ofInt x).toNatClampNeg = x.toNat := by
  show (Int32.ofInt x).toInt.toNat = x.toNat
  rw [h]
theorem am_in_vp {i : Int} {n : Nat} (hi : (Int32.ofInt i).toInt = i) (h : am_in i n = true) : vp_in (Int32.ofInt i) n := by
  unfold am_in at h
  simp only [decide_eq_true_eq] at h
  intro q
  rcases q with q | q
  · rw [am_ilt0 hi] at q; omega
  · rw [am_clamp hi] at q; omega
def am_R (D : va_G) (dA : Nat → ClassId) (A B : Nat → Nat) (Af : Nat → Prop) (H0 H : Heap) (locs : List Loc) (w : W1) : Prop :=
  va_P D am_cl (am_ws A B dA w) H ∧ va_D Af (am_ws A B dA w) ∧ va_S Af H0 H locs ∧ ∀ c ∈ w, am_okc w.length c
theorem am_okc_set {w : W1} {a : Nat} {c : C1} (h : ∀ c ∈ w, am_okc w.length c) (hc : am_okc w.length c) : ∀ x ∈ w.set a c, am_okc (w.set a c).length x := by
  intro x hx
  rw [List.length_set]
  rcases List.mem_or_eq_of_mem_set hx with q | q
  · exact h x q
  · rw [q]; exact hc
section AMM
variable {p : Program} {l : Launch} {e : Env} {R : Room} {s : State} {m : MethodId} {args : Array Value} {below : List Frame} {meth : Method} {c : Code} {H : Heap} {locs : List Loc} {cells slots : Nat} {Q : State → Prop}
variable {cc : ByteArray} {pc : Nat} {ls : Array Slot} {D : va_G} {dA : Nat → ClassId} {A B : Nat → Nat} {sl : Nat} {xs : Nat → Int32} {Af : Nat → Prop} {w w' : W1} {S2 : List (AV R1)} {rv : Option (AV R1)} {as : List (AV R1)} {k idx nx : Nat}
/-- what goes on behind a request -/
def am_K (p : Program) (l : Launch) (e : Env) (R : Room) (s : State) (m : MethodId) (args : Array Value) (below : List Frame) (meth : Method) (c : Code) (cells slots : Nat) (Q : State → Prop) (D : va_G) (dA : Nat → ClassId) (A B : Nat → Nat) (Af : Nat → Prop) (w w' : W1) (rv : Option (AV R1)) (nx : Nat) (ls : Array Slot) (S2 : List (AV R1)) : Prop :=
  ∀ (A' : Nat → Nat) (H' : Heap) (locs' : List Loc), (∀ a, a < w.length → A' a = A a) → am_R D dA A' B Af s.heap H' locs' w' → (∀ v, rv = some v → am_ok w'.length v) → w.length ≤ w'.length →
    W p l e R s m args below meth c H' locs' (cells + (w'.length - w.length)) (slots + (am_sl am_ft w' - am_sl am_ft w)) Q (F0 m nx ls ((rv.toList ++ S2).map (am_cv A' B)))
theorem am_K.same (kk : am_K p l e R s m args below meth c cells slots Q D dA A B Af w w' rv nx ls S2) (hl : w'.length = w.length) (hs : am_sl am_ft w' = am_sl am_ft w) {H' : Heap} {locs' : List Loc} (hR : am_R D dA A B Af s.heap H' locs' w') (hv : ∀ v, rv = some v → am_ok w'.length v) :
    W p l e R s m args below meth c H' locs' cells slots Q (F0 m nx ls ((rv.toList ++ S2).map (am_cv A B))) := by
  have h := kk A H' locs' (fun _ _ => rfl) hR hv (by omega)
  rw [hl, hs, Nat.sub_self, Nat.sub_self] at h
  exact h
theorem am_E.K {Af : Nat → Prop} {H : Heap} (hE : am_E D dA B sl xs Af s H) : va_K D am_cl (am_tys dA) s := hE.1.1
theorem am_m_get (hx : p.tables.exec = Jvm.exec) (hb : c.code = cc) (hown : s.vm.findClass (am_nm (am_o k)) = some m.cls) (hts : ∀ w ∈ am_gw, w.before args s = true) (hE : am_E D dA B sl xs Af s s.heap) (hR : am_R D dA A B Af s.heap H locs w)
    {i : Nat} (hfl : am_fl (am_o k) i = some idx) (hdg : decode cc pc = .ok (.getfield i, 3)) (hm : m1_get idx as w = some (rv, w')) (has : ∀ v ∈ as, am_ok w.length v)
    (kk : am_K p l e R s m args below meth c cells slots Q D dA A B Af w w' rv (pc + 3) ls S2) : W p l e R s m args below meth c H locs cells slots Q (F0 m pc ls ((as.reverse ++ S2).map (am_cv A B))) := by
  unfold m1_get at hm
  split at hm
  · rename_i a
    split at hm
    · rename_i cN fs hw
      split at hm
      · rename_i hc
        split at hm
        · rename_i v hv
          cases hm
          obtain ⟨q, h1, h2, h3, h4⟩ := am_fl_ok hfl
          rw [hc] at h1
          obtain ⟨C, T, N⟩ := q
          have h4 : (T (idx % 128)).1 = C := h4
          have hok : am_ok w.length v := hR.2.2.2 _ (List.mem_of_getElem? hw) v (List.mem_of_getElem? hv)
          have h := kk.same rfl rfl hR (fun u hu => by cases hu; exact hok)
          exact va_get (D := D) (cl := am_cl) (tys := am_tys dA) (ws := am_ws A B dA w) (C := C) (T := T) (N := N) (ref := C) hx hb hts (am_cl_ok h1).1 hown hE.K hR.1 a (am_ws_at hw) h1 (idx % 128) h2 (hts _ h3) (fun x hx => by rw [← h4]; exact hx) (by rw [List.getElem?_map, hv]; rfl) hdg h
        · cases hm
      · cases hm
    · cases hm
  · cases hm
theorem am_m_put (hx : p.tables.exec = Jvm.exec) (hb : c.code = cc) (hown : s.vm.findClass (am_nm (am_o k)) = some m.cls) (hts : ∀ w ∈ am_gw, w.before args s = true) (hE : am_E D dA B sl xs Af s s.heap) (hR : am_R D dA A B Af s.heap H locs w)
    (hini : am_fin idx = false ∨ (am_o k = idx / 128 ∧ meth.name = "<init>")) {i : Nat} (hfl : am_fl (am_o k) i = some idx) (hdg : decode cc pc = .ok (.putfield i, 3)) (hm : m1_put am_ft idx as w = some (rv, w')) (has : ∀ v ∈ as, am_ok w.length v)
    (kk : am_K p l e R s m args below meth c cells slots Q D dA A B Af w w' rv (pc + 3) ls S2) : W p l e R s m args below meth c H locs cells slots Q (F0 m pc ls ((as.reverse ++ S2).map (am_cv A B))) := by
  unfold m1_put at hm
  split at hm
  · rename_i a v
    split at hm
    · rename_i cN fs hw
      split at hm
      · rename_i hc
        obtain ⟨hc, hlen⟩ := hc
        split at hm
        · rename_i t ht
          split at hm
          · rename_i hfit
            cases hm
            obtain ⟨q, h1, h2, h3, h4⟩ := am_fl_ok hfl
            have hfin0 : am_fin idx = (q.2.1 (idx % 128)).2.2.2 := by unfold am_fin; rw [h1]
            rw [hc] at h1
            obtain ⟨C, T, N⟩ := q
            have h4 : (T (idx % 128)).1 = C := h4
            have hvo : am_ok w.length v := has v (by simp)
            obtain ⟨g1, g2, g3, g4⟩ := am_cl_ok h1
            have hty := g3 _ h2
            rw [List.getD_eq_getElem?_getD, ht, Option.getD_some] at hty
            have hnf : narrow (am_fty cN (idx % 128)) (am_cv A B v) = am_cv A B v ∧ fits (am_fty cN (idx % 128)) (am_cv A B v) = true := by
              generalize am_fty cN (idx % 128) = ty at hty
              match t, v, hfit, ty, hty with
              | 0, .inl z, _, .int, _ => exact ⟨rfl, rfl⟩
              | 1, .inl z, hf, .boolean, _ =>
                have hf : decide (z = 0 ∨ z = 1) = true := hf
                simp only [decide_eq_true_eq] at hf
                rcases hf with rfl | rfl <;> exact ⟨rfl, rfl⟩
              | 2, .inr (.inr none), _, .object _, _ => exact ⟨rfl, rfl⟩
              | 2, .inr (.inr none), _, .array _, _ => exact ⟨rfl, rfl⟩
              | 2, .inr (.inr (some (.inl _))), _, .object _, _ => exact ⟨rfl, rfl⟩
              | 2, .inr (.inr (some (.inl _))), _, .array _, _ => exact ⟨rfl, rfl⟩
              | 2, .inr (.inr (some (.inr _))), _, .object _, _ => exact ⟨rfl, rfl⟩
              | 2, .inr (.inr (some (.inr _))), _, .array _, _ => exact ⟨rfl, rfl⟩
            have hsz : am_szc am_ft (.inl (cN, fs.set (idx % 128) v)) = am_szc am_ft (.inl (cN, fs)) := rfl
            have hok2 : ∀ x ∈ w.set a (.inl (cN, fs.set (idx % 128) v)), am_okc (w.set a (.inl (cN, fs.set (idx % 128) v))).length x := am_okc_set hR.2.2.2 fun u hu => by
              rcases List.mem_or_eq_of_mem_set hu with q | q
              · exact hR.2.2.2 _ (List.mem_of_getElem? hw) u q
              · rw [q]; exact hvo
            have fin : ∀ (H1 : Heap) (locs1 : List Loc), va_P D am_cl ((am_ws A B dA w).set a (A a, .inr (cN, (fs.map (am_cv A B)).set (idx % 128) (am_cv A B v)))) H1 → va_D Af ((am_ws A B dA w).set a (A a, .inr (cN, (fs.map (am_cv A B)).set (idx % 128) (am_cv A B v)))) → va_S Af s.heap H1 locs1 → W p l e R s m args below meth c H1 locs1 cells slots Q (F0 m (pc + 3) ls (S2.map (am_cv A B))) := by
              intro H1 locs1 p1 p2 p3
              have e1 : (am_ws A B dA w).set a (A a, .inr (cN, (fs.map (am_cv A B)).set (idx % 128) (am_cv A B v))) = am_ws A B dA (w.set a (.inl (cN, fs.set (idx % 128) v))) := by
                rw [← am_ws_set]
                show _ = (am_ws A B dA w).set a (A a, .inr (cN, (fs.set (idx % 128) v).map (am_cv A B)))
                rw [List.map_set]
              rw [e1] at p1 p2
              exact kk.same (by rw [List.length_set]) (am_sl_set hsz _ _ hw) ⟨p1, p2, p3, hok2⟩ (fun u hu => by cases hu)
            by_cases hfn : am_fin idx = false
            · exact va_put (D := D) (cl := am_cl) (tys := am_tys dA) (ws := am_ws A B dA w) (C := C) (T := T) (N := N) (ref := C) hx hb hts g1 (am_fty cN) g2 (am_cl_nm h1) hown hE.K hR.1 hR.2.1 hR.2.2.1 a (am_ws_at hw) h1 (idx % 128) h2 (hts _ h3) (fun x hx => by rw [← h4]; exact hx) (by rw [← hfin0]; exact hfn) (g2 _ h2) hnf.1 hnf.2 (by rw [List.length_map]; exact hlen) hdg fin
            · have hin := hini.resolve_left hfn
              have hCown : C = am_nm (am_o k) := by
                have : am_o k = cN := by rw [hin.1, hc]
                rw [this]
                have hlt := am_cl_lt h1
                match cN, h1, hlt with
                | 0, h1, _ => cases h1; rfl
                | 1, h1, _ => cases h1; rfl
                | 2, h1, _ => cases h1; rfl
                | 3, h1, _ => cases h1; rfl
                | 4, h1, _ => cases h1; rfl
                | 5, h1, _ => cases h1; rfl
                | 6, h1, _ => cases h1; rfl
                | 7, h1, _ => cases h1; rfl
                | 8, h1, _ => cases h1; rfl
                | 9, h1, _ => cases h1; rfl
                | 10, h1, _ => cases h1; rfl
                | 11, h1, _ => cases h1; rfl
                | 12, h1, _ => cases h1; rfl
                | n + 13, _, hlt => omega
              exact va_putF (D := D) (cl := am_cl) (tys := am_tys dA) (ws := am_ws A B dA w) (C := C) (T := T) (N := N) (ref := C) hx hb hts g1 (am_fty cN) g2 (am_cl_nm h1) hown hE.K hR.1 hR.2.1 hR.2.2.1 a (am_ws_at hw) h1 (idx % 128) h2 (hts _ h3) (fun x hx => by rw [← h4]; exact hx) (by rw [← hfin0]; simpa using hfn) hin.2 (h4.trans hCown) (g2 _ h2) hnf.1 hnf.2 (by rw [List.length_map]; exact hlen) hdg fin
          · cases hm
        · cases hm
      · cases hm
    · cases hm
  · cases hm
theorem am_text_b : am_T.all (fun bs => bs.all (fun b => decide (b < 128))) = true := by decide +kernel
theorem am_T_len : am_T.length = 23 := by decide +kernel
theorem am_text {i : Nat} {bs : List Nat} (h : am_T[i]? = some bs) : i < 23 ∧ am_txl.getD i 0 = bs.length ∧ ∀ q, q < bs.length → (Int32.ofInt (Int.ofNat (bs.getD q 0))).toInt = Int.ofNat (bs.getD q 0) := by
  refine ⟨by rw [← am_T_len]; exact (List.getElem?_eq_some_iff.mp h).1, ?_, fun q hq => ?_⟩
  · unfold am_txl
    rw [List.getD_eq_getElem?_getD, List.getElem?_map, h]
    rfl
  · have h1 := List.all_eq_true.mp (List.all_eq_true.mp am_text_b _ (List.mem_of_getElem? h)) (bs.getD q 0) (by
      rw [List.getD_eq_getElem?_getD, List.getElem?_eq_getElem hq, Option.getD_some]; exact List.getElem_mem hq)
    simp only [decide_eq_true_eq] at h1
    refine am_rng ?_ ?_
    · have : (0 : Int) ≤ Int.ofNat (bs.getD q 0) := Int.natCast_nonneg _
      omega
    · show ((bs.getD q 0 : Nat) : Int) < _
      omega
theorem am_texb {i q : Nat} {bs : List Nat} (h : am_T[i]? = some bs) (hq : q < bs.length) : ((am_txb.getD i []).getD q 0) = Int32.ofNat (bs.getD q 0) := by
  have e1 : am_txb.getD i [] = bs.map fun b => Int32.ofNat b := by
    unfold am_txb
    rw [List.getD_eq_getElem?_getD, List.getElem?_map, h]
    rfl
  rw [e1, List.getD_eq_getElem?_getD, List.getElem?_map, List.getD_eq_getElem?_getD, List.getElem?_eq_getElem hq]
  rfl
theorem am_tag4 {t : Nat} (h : t ≤ 3) : ∃ ty, (am_tys dA)[t]? = some (dA t, ty) := by
  rcases (show t = 0 ∨ t = 1 ∨ t = 2 ∨ t = 3 by omega) with rfl | rfl | rfl | rfl <;> exact ⟨_, rfl⟩
theorem am_iok {f : Nat → Int} {t : Nat} (h : ∀ j, if t = 3 then (Int64.ofInt (f j)).toInt = f j else (Int32.ofInt (f j)).toInt = f j) (h3 : ¬ t = 3) (j : Nat) : (Int32.ofInt (f j)).toInt = f j := by
  have := h j
  rwa [if_neg h3] at this
theorem am_cc_int {t n : Nat} {f : Nat → Int} (h : ¬ t = 3) : am_cc A B dA (.inr (.inl (t, n, f))) = .inl (dA t, n, .inl (fun j => Int32.ofInt (f j))) := by
  show (if t = 3 then _ else _) = _
  rw [if_neg h]
theorem am_upd_cv {f : Nat → Int} {k : Nat} {x : Int} : (fun j => Int32.ofInt (am_u f k x j)) = upd (fun j => Int32.ofInt (f j)) k (Int32.ofInt x) := by
  funext j
  unfold am_u upd
  split <;> rfl
theorem am_updL_cv {f : Nat → Int} {k : Nat} {x : Int} : (fun j => Int64.ofInt (am_u f k x j)) = vp_updL (fun j => Int64.ofInt (f j)) k (Int64.ofInt x) := by
  funext j
  unfold am_u vp_updL
  split <;> rfl
theorem am_updq_cv {g : Nat → Option Nat} {k b : Nat} : (fun j => (am_uq g k (some b) j).map A) = va_up (fun j => (g j).map A) k (some (A b)) := by
  funext j
  unfold am_uq va_up
  split <;> rfl
theorem am_rf_cv {r : Option Nat} : va_rf (r.map A) = am_cv A B (.inr (.inr (r.map Sum.inl))) := by
  cases r <;> rfl
theorem am_m_ald {Wi : Jvm.ClassFile.Instr} (hx : p.tables.exec = Jvm.exec) (hb : c.code = cc) (hE : am_E D dA B sl xs Af s s.heap) (hR : am_R D dA A B Af s.heap H locs w)
    (hWi : (Wi = .iaload ∧ idx = 0) ∨ (Wi = .baload ∧ idx = 1) ∨ (Wi = .laload ∧ idx = 3) ∨ (Wi = .aaload ∧ idx = 4)) (hdg : decode cc pc = .ok (Wi, 1)) (hm : m1_ald am_T sl (fun j => (xs j).toInt) idx as w = some (rv, w')) (has : ∀ v ∈ as, am_ok w.length v)
    (kk : am_K p l e R s m args below meth c cells slots Q D dA A B Af w w' rv (pc + 1) ls S2) : W p l e R s m args below meth c H locs cells slots Q (F0 m pc ls ((as.reverse ++ S2).map (am_cv A B))) := by
  unfold m1_ald at hm
  split at hm
  · rename_i a i
    have hi : (Int32.ofInt i).toInt = i := has (.inl i) (by simp)
    split at hm
    · rename_i t n f hw
      split at hm
      · rename_i hc
        obtain ⟨hc, hin⟩ := hc
        cases hm
        obtain ⟨ht3, hf⟩ := hR.2.2.2 _ (List.mem_of_getElem? hw)
        have hws := am_ws_at (A := A) (B := B) (dA := dA) hw
        by_cases h3 : t = 3
        · subst h3
          have hidx : idx = 3 := by
            unfold am_tm at hc
            simp only [Bool.or_eq_true, Bool.and_eq_true] at hc
            rcases hc with q | q
            · exact (Nat.eq_of_beq_eq_true q).symm
            · have := Nat.eq_of_beq_eq_true q.2; omega
          have hWi : Wi = .laload := by
            rcases hWi with q | q | q | q
            · omega
            · omega
            · exact q.1
            · omega
          subst hWi
          have hfi : (Int64.ofInt (f i.toNat)).toInt = f i.toNat := by have := hf i.toNat; rwa [if_pos rfl] at this
          have h := kk.same rfl rfl hR (fun u hu => by cases hu; exact hfi)
          refine va_lald (D := D) (cl := am_cl) (tys := am_tys dA) (ws := am_ws A B dA w) hx hb hE.K hR.1 a 3 hws rfl (am_in_vp hi hin) hdg ?_
          rw [am_clamp hi]
          exact h
        · rw [am_cc_int h3] at hws
          have hfi := am_iok hf h3 i.toNat
          rw [if_neg h3] at kk
          have h := kk.same rfl rfl hR (fun u hu => by cases hu; exact hfi)
          unfold am_tm at hc
          simp only [Bool.or_eq_true, Bool.and_eq_true] at hc
          rcases (show t = 0 ∨ t = 1 ∨ t = 2 by omega) with rfl | rfl | rfl
          · have hWi : Wi = .iaload := by
              rcases hWi with q | q | q | q
              · exact q.1
              all_goals (rcases hc with z | z; · have := Nat.eq_of_beq_eq_true z; omega
                         · have := Nat.eq_of_beq_eq_true z.2; omega)
            subst hWi
            refine va_iald (D := D) (cl := am_cl) (tys := am_tys dA) (ws := am_ws A B dA w) hx hb hE.K hR.1 a 0 hws rfl (am_in_vp hi hin) hdg ?_
            rw [am_clamp hi]
            exact h
          · have hWi : Wi = .baload := by
              rcases hWi with q | q | q | q
              · rcases hc with z | z
                · have := Nat.eq_of_beq_eq_true z; omega
                · have := Nat.eq_of_beq_eq_true z.2; omega
              · exact q.1
              all_goals (rcases hc with z | z; · have := Nat.eq_of_beq_eq_true z; omega
                         · have := Nat.eq_of_beq_eq_true z.2; omega)
            subst hWi
            refine va_bald (D := D) (cl := am_cl) (tys := am_tys dA) (ws := am_ws A B dA w) hx hb hE.K hR.1 a 1 hws rfl (am_in_vp hi hin) hdg ?_
            rw [am_clamp hi]
            exact h
          · have hWi : Wi = .baload := by
              rcases hWi with q | q | q | q
              · rcases hc with z | z
                · have := Nat.eq_of_beq_eq_true z; omega
                · have := Nat.eq_of_beq_eq_true z.1; omega
              · exact q.1
              all_goals (rcases hc with z | z; · have := Nat.eq_of_beq_eq_true z; omega
                         · have := Nat.eq_of_beq_eq_true z.1; omega)
            subst hWi
            refine va_zald (D := D) (cl := am_cl) (tys := am_tys dA) (ws := am_ws A B dA w) hx hb hE.K hR.1 a 2 hws rfl (am_in_vp hi hin) hdg ?_
            rw [am_clamp hi]
            exact h
      · cases hm
    · rename_i t n g hw
      split at hm
      · rename_i hc
        obtain ⟨hc, hin⟩ := hc
        cases hm
        obtain ⟨htt, hg⟩ := hR.2.2.2 _ (List.mem_of_getElem? hw)
        have hws := am_ws_at (A := A) (B := B) (dA := dA) hw
        have hWi : Wi = .aaload := by
          rcases hWi with q | q | q | q
          · omega
          · omega
          · omega
          · exact q.1
        subst hWi
        have hok : am_ok w.length (.inr (.inr ((g i.toNat).map Sum.inl)) : AV R1) := by
          cases hgi : g i.toNat with
          | none => trivial
          | some z => exact hg _ z hgi
        have h := kk.same rfl rfl hR (fun u hu => by cases hu; exact hok)
        have h : W p l e R s m args below meth c H locs cells slots Q (F0 m (pc + 1) ls (am_cv A B (.inr (.inr ((g i.toNat).map Sum.inl))) :: S2.map (am_cv A B))) := h
        rw [← am_rf_cv, ← am_clamp hi] at h
        have hvp := am_in_vp hi hin
        have hlt : (Int32.ofInt i).toNatClampNeg < n := Nat.not_le.mp fun q => hvp (Or.inr q)
        have row : ∀ (t0 : Nat) (ty : FieldType), (am_tys dA)[t0]? = some (dA t, ty) → ty.isReference = true → W p l e R s m args below meth c H locs cells slots Q (F0 m pc ls (.int (Int32.ofInt i) :: .ref (A a) :: S2.map (am_cv A B))) := by
          intro t0 ty ht hr
          exact W.aald (v := va_rf ((g (Int32.ofInt i).toNatClampNeg).map A)) (ty := ty) hx hb (hR.1 a _ hws) ((hE.K.2 t0 _ ht).1 n (fun j => va_rf ((g j).map A))) hr (fun q => by cases q) (by show ¬ (Int32.ofInt i < 0 ∨ (arrV _ _ _).slots.size ≤ _); rw [arrV_size]; exact hvp) (by show (arrV _ _ _).slots[_]? = _; rw [arrV_read _ _ hlt]) rfl rfl hdg h
        rcases htt with rfl | rfl | rfl | rfl
        · exact row 7 _ rfl rfl
        · exact row 4 _ rfl rfl
        · exact row 5 _ rfl rfl
        · exact row 6 _ rfl rfl
      · cases hm
    · cases hm
  · rename_i j i
    have hi : (Int32.ofInt i).toInt = i := has (.inl i) (by simp)
    split at hm
    · rename_i hc
      obtain ⟨rfl, rfl, hin⟩ := hc
      cases hm
      have hWi : Wi = .iaload := by
        rcases hWi with q | q | q | q
        · exact q.1
        · omega
        · omega
        · omega
      subst hWi
      have h := kk.same rfl rfl hR (fun u hu => by cases hu; exact am_io _)
      have h : W p l e R s m args below meth c H locs cells slots Q (F0 m (pc + 1) ls (am_cv A B (vI (xs i.toNat).toInt) :: S2.map (am_cv A B))) := h
      rw [am_cv_i] at h
      refine va_sld hx hb hE.2.1.1 hE.2.1.2.1 hE.2.1.2.2 hR.2.2.1 (am_in_vp hi hin) hdg ?_
      rw [am_clamp hi]
      exact h
    · split at hm
      · rename_i hc
        obtain ⟨hj, hidx⟩ := hc
        split at hm
        · rename_i bs hbs
          split at hm
          · rename_i hin
            cases hm
            have hWi : Wi = .baload := by
              rcases hWi with q | q | q | q
              · omega
              · exact q.1
              · omega
              · omega
            subst hWi
            obtain ⟨t1, t2, t3⟩ := am_text hbs
            have hlt : i.toNat < bs.length := by unfold am_in at hin; simp only [decide_eq_true_eq] at hin; omega
            have hvo : am_ok w.length (vI (Int.ofNat (bs.getD i.toNat 0)) : AV R1) := t3 _ hlt
            have h := kk.same rfl rfl hR (fun u hu => by cases hu; exact hvo)
            have hT := (hE.2.2.1.1 (j - 1001) t1).2.2.2
            rw [t2] at hT
            have hBj : B (1001 + (j - 1001)) = B j := by rw [show 1001 + (j - 1001) = j by omega]
            simp only [hBj] at hT
            exact va_tb hx hb hT hR.2.2.1 (am_in_vp hi hin) (v := .int (Int32.ofInt (Int.ofNat (bs.getD i.toNat 0)))) (by rw [am_clamp hi, am_texb hbs hlt]; rfl) hdg h
          · cases hm
        · cases hm
      · cases hm
  · cases hm
theorem am_m_ast {Wi : Jvm.ClassFile.Instr} (hx : p.tables.exec = Jvm.exec) (hb : c.code = cc) (hE : am_E D dA B sl xs Af s s.heap) (hR : am_R D dA A B Af s.heap H locs w)
    (hWi : (Wi = .iastore ∧ idx = 0) ∨ (Wi = .bastore ∧ idx = 1) ∨ (Wi = .lastore ∧ idx = 3) ∨ (Wi = .aastore ∧ idx = 4)) (hdg : decode cc pc = .ok (Wi, 1)) (hm : m1_ast idx as w = some (rv, w')) (has : ∀ v ∈ as, am_ok w.length v)
    (kk : am_K p l e R s m args below meth c cells slots Q D dA A B Af w w' rv (pc + 1) ls S2) : W p l e R s m args below meth c H locs cells slots Q (F0 m pc ls ((as.reverse ++ S2).map (am_cv A B))) := by
  unfold m1_ast at hm
  split at hm
  · rename_i a i x
    have hi : (Int32.ofInt i).toInt = i := has (.inl i) (by simp)
    have hxo : (Int32.ofInt x).toInt = x := has (.inl x) (by simp)
    split at hm
    · rename_i t n f hw
      split at hm
      · rename_i hc
        obtain ⟨hc, hin⟩ := hc
        obtain ⟨ht3, hf⟩ := hR.2.2.2 _ (List.mem_of_getElem? hw)
        have hws := am_ws_at (A := A) (B := B) (dA := dA) hw
        unfold am_tm at hc
        simp only [Bool.or_eq_true, Bool.and_eq_true] at hc
        have fin : ∀ (y : Int), ¬ t = 3 → (Int32.ofInt y).toInt = y → w' = w.set a (.inr (.inl (t, n, am_u f i.toNat y))) → rv = none → ∀ (H1 : Heap) (locs1 : List Loc), va_P D am_cl ((am_ws A B dA w).set a (A a, .inl (dA t, n, .inl (upd (fun j => Int32.ofInt (f j)) (Int32.ofInt i).toNatClampNeg (Int32.ofInt y))))) H1 → va_D Af ((am_ws A B dA w).set a (A a, .inl (dA t, n, .inl (upd (fun j => Int32.ofInt (f j)) (Int32.ofInt i).toNatClampNeg (Int32.ofInt y))))) → va_S Af s.heap H1 locs1 → W p l e R s m args below meth c H1 locs1 cells slots Q (F0 m (pc + 1) ls (S2.map (am_cv A B))) := by
          intro y h3 hy ew er H1 locs1 p1 p2 p3
          subst ew; subst er
          have e1 : (am_ws A B dA w).set a (A a, .inl (dA t, n, .inl (upd (fun j => Int32.ofInt (f j)) (Int32.ofInt i).toNatClampNeg (Int32.ofInt y)))) = am_ws A B dA (w.set a (.inr (.inl (t, n, am_u f i.toNat y)))) := by
            rw [← am_ws_set, am_cc_int h3, am_upd_cv, am_clamp hi]
          rw [e1] at p1 p2
          refine kk.same (by rw [List.length_set]) (am_sl_set (by rfl) _ _ hw) ⟨p1, p2, p3, am_okc_set hR.2.2.2 ⟨ht3, fun j => ?_⟩⟩ (fun u hu => by cases hu)
          rw [if_neg h3]
          unfold am_u
          split
          · exact hy
          · exact am_iok hf h3 j
        split at hm
        · have hWi : Wi = .iastore := by
            rcases hWi with q | q | q | q
            · exact q.1
            all_goals (rcases hc with z | z; · have := Nat.eq_of_beq_eq_true z; omega
                       · have := Nat.eq_of_beq_eq_true z.2; omega)
          subst hWi
          rw [am_cc_int (by decide)] at hws
          cases hm
          exact va_iast (D := D) (cl := am_cl) (tys := am_tys dA) (ws := am_ws A B dA w) hx hb hE.K hR.1 hR.2.1 hR.2.2.1 a 0 hws rfl (am_in_vp hi hin) hdg (fin x (by decide) hxo rfl rfl)
        · have hWi : Wi = .bastore := by
            rcases hWi with q | q | q | q
            · rcases hc with z | z
              · have := Nat.eq_of_beq_eq_true z; omega
              · have := Nat.eq_of_beq_eq_true z.2; omega
            · exact q.1
            all_goals (rcases hc with z | z; · have := Nat.eq_of_beq_eq_true z; omega
                       · have := Nat.eq_of_beq_eq_true z.2; omega)
          subst hWi
          rw [am_cc_int (by decide)] at hws
          cases hm
          refine va_bast (D := D) (cl := am_cl) (tys := am_tys dA) (ws := am_ws A B dA w) hx hb hE.K hR.1 hR.2.1 hR.2.2.1 a 1 hws rfl (am_in_vp hi hin) hdg ?_
          have h := fin (ji2b x) (by decide) (am_io _) rfl rfl
          unfold ji2b at h
          rw [Int32.ofInt_toInt] at h
          rw [vp_nar_byte]
          exact h
        · have hWi : Wi = .bastore := by
            rcases hWi with q | q | q | q
            · rcases hc with z | z
              · have := Nat.eq_of_beq_eq_true z; omega
              · have := Nat.eq_of_beq_eq_true z.1; omega
            · exact q.1
            all_goals (rcases hc with z | z; · have := Nat.eq_of_beq_eq_true z; omega
                       · have := Nat.eq_of_beq_eq_true z.1; omega)
          subst hWi
          rw [am_cc_int (by decide)] at hws
          split at hm
          · rename_i h01
            cases hm
            refine va_zast (D := D) (cl := am_cl) (tys := am_tys dA) (ws := am_ws A B dA w) hx hb hE.K hR.1 hR.2.1 hR.2.2.1 a 2 hws rfl (am_in_vp hi hin) hdg ?_
            have h := fin x (by decide) hxo rfl rfl
            have e0 : vp_nar .boolean (Int32.ofInt x) = Int32.ofInt x := by rcases h01 with rfl | rfl <;> rfl
            first | exact h | (rw [e0]; exact h)
          · cases hm
        · cases hm
      · cases hm
    · cases hm
  · rename_i a i x
    have hi : (Int32.ofInt i).toInt = i := has (.inl i) (by simp)
    have hxo : (Int64.ofInt x).toInt = x := has (.inr (.inl x)) (by simp)
    split at hm
    · rename_i t n f hw
      split at hm
      · rename_i hc
        obtain ⟨hidx, rfl, hin⟩ := hc
        cases hm
        obtain ⟨ht3, hf⟩ := hR.2.2.2 _ (List.mem_of_getElem? hw)
        have hws := am_ws_at (A := A) (B := B) (dA := dA) hw
        have hWi : Wi = .lastore := by
          rcases hWi with q | q | q | q
          · omega
          · omega
          · exact q.1
          · omega
        subst hWi
        refine va_last (D := D) (cl := am_cl) (tys := am_tys dA) (ws := am_ws A B dA w) hx hb hE.K hR.1 hR.2.1 hR.2.2.1 a 3 hws rfl (am_in_vp hi hin) hdg (fun H1 locs1 p1 p2 p3 => ?_)
        have e1 : (am_ws A B dA w).set a (A a, .inl (dA 3, n, .inr (.inl (vp_updL (fun j => Int64.ofInt (f j)) (Int32.ofInt i).toNatClampNeg (Int64.ofInt x))))) = am_ws A B dA (w.set a (.inr (.inl (3, n, am_u f i.toNat x)))) := by
          rw [← am_ws_set, ← am_clamp hi, ← am_updL_cv]
          rfl
        rw [e1] at p1 p2
        refine kk.same (by rw [List.length_set]) (am_sl_set (by rfl) _ _ hw) ⟨p1, p2, p3, am_okc_set hR.2.2.2 ⟨ht3, fun j => ?_⟩⟩ (fun u hu => by cases hu)
        rw [if_pos rfl]
        unfold am_u
        split
        · exact hxo
        · have := hf j; rwa [if_pos rfl] at this
      · cases hm
    · cases hm
  · rename_i a i b
    have hi : (Int32.ofInt i).toInt = i := has (.inl i) (by simp)
    have hbo : b < w.length := has (.inr (.inr (some (.inl b)))) (by simp)
    split at hm
    · rename_i t n g hw
      split at hm
      · rename_i cN fs hwb
        split at hm
        · rename_i hc
          obtain ⟨hidx, htc, hin⟩ := hc
          cases hm
          obtain ⟨htt, hg⟩ := hR.2.2.2 _ (List.mem_of_getElem? hw)
          have hws := am_ws_at (A := A) (B := B) (dA := dA) hw
          have hwsb := am_ws_at (A := A) (B := B) (dA := dA) hwb
          have hWi : Wi = .aastore := by
            rcases hWi with q | q | q | q
            · omega
            · omega
            · omega
            · exact q.1
          subst hWi
          have row : ∀ (t0 : Nat) (r : vw_C), (am_tys dA)[t0]? = some (dA t, .object r.1) → am_cl[cN]? = some r → W p l e R s m args below meth c H locs cells slots Q (F0 m pc ls (.ref (A b) :: .int (Int32.ofInt i) :: .ref (A a) :: S2.map (am_cv A B))) := by
            intro t0 r ht hcl
            refine va_astq (D := D) (cl := am_cl) (tys := am_tys dA) (ws := am_ws A B dA w) hx hb hE.K hR.1 hR.2.1 hR.2.2.1 a t0 b cN hws ht hwsb hcl (am_in_vp hi hin) hdg (fun H1 locs1 p1 p2 p3 => ?_)
            have e1 : (am_ws A B dA w).set a (A a, .inl (dA t, n, .inr (.inr (.inr (.inr (va_up (fun j => (g j).map A) (Int32.ofInt i).toNatClampNeg (some (A b)))))))) = am_ws A B dA (w.set a (.inr (.inr (t, n, am_uq g i.toNat (some b))))) := by
              rw [← am_ws_set, ← am_clamp hi, ← am_updq_cv]
              rfl
            rw [e1] at p1 p2
            refine kk.same (by rw [List.length_set]) (am_sl_set (by rfl) _ _ hw) ⟨p1, p2, p3, am_okc_set hR.2.2.2 ⟨htt, fun j a' hj => ?_⟩⟩ (fun u hu => by cases hu)
            unfold am_uq at hj
            split at hj
            · cases hj; exact hbo
            · exact hg j a' hj
          rcases htt with rfl | rfl | rfl | rfl
          · omega
          · have : cN = 4 := by omega
            subst this
            exact row 4 _ rfl rfl
          · have : cN = 6 := by omega
            subst this
            exact row 5 _ rfl rfl
          · have : cN = 8 := by omega
            subst this
            exact row 6 _ rfl rfl
        · cases hm
      · cases hm
    · cases hm
  · cases hm
theorem am_i_nat {n : Nat} : Int32.ofInt (n : Int) = Int32.ofNat n := rfl
theorem am_m_len (hx : p.tables.exec = Jvm.exec) (hb : c.code = cc) (hE : am_E D dA B sl xs Af s s.heap) (hR : am_R D dA A B Af s.heap H locs w)
    (hdg : decode cc pc = .ok (.arraylength, 1)) (hm : m1_len am_T sl as w = some (rv, w'))
    (kk : am_K p l e R s m args below meth c cells slots Q D dA A B Af w w' rv (pc + 1) ls S2) : W p l e R s m args below meth c H locs cells slots Q (F0 m pc ls ((as.reverse ++ S2).map (am_cv A B))) := by
  have hok : ∀ n : Nat, n ≤ 100000 → am_ok w.length (vI (n : Int) : AV R1) := fun n hn => am_rng (by omega) (by omega)
  unfold m1_len at hm
  split at hm
  · rename_i a
    split at hm
    · rename_i t n f hw
      split at hm
      · rename_i hn
        cases hm
        have hws := am_ws_at (A := A) (B := B) (dA := dA) hw
        have h := kk.same rfl rfl hR (fun u hu => by cases hu; exact hok n hn)
        obtain ⟨ht3, hf⟩ := hR.2.2.2 _ (List.mem_of_getElem? hw)
        by_cases h3 : t = 3
        · subst h3
          exact va_alen (D := D) (cl := am_cl) (tys := am_tys dA) (ws := am_ws A B dA w) hx hb hE.K hR.1 a 3 hws rfl (v := Int32.ofInt (n : Int)) rfl hdg h
        · rw [am_cc_int h3] at hws
          obtain ⟨ty, hty⟩ := am_tag4 (dA := dA) ht3
          exact va_alen (D := D) (cl := am_cl) (tys := am_tys dA) (ws := am_ws A B dA w) hx hb hE.K hR.1 a t hws hty (v := Int32.ofInt (n : Int)) rfl hdg h
      · cases hm
    · rename_i t n g hw
      split at hm
      · rename_i hn
        cases hm
        have hws := am_ws_at (A := A) (B := B) (dA := dA) hw
        have h := kk.same rfl rfl hR (fun u hu => by cases hu; exact hok n hn)
        obtain ⟨htt, hg⟩ := hR.2.2.2 _ (List.mem_of_getElem? hw)
        rcases htt with rfl | rfl | rfl | rfl
        · exact va_alen (D := D) (cl := am_cl) (tys := am_tys dA) (ws := am_ws A B dA w) hx hb hE.K hR.1 a 7 hws rfl (v := Int32.ofInt (n : Int)) rfl hdg h
        · exact va_alen (D := D) (cl := am_cl) (tys := am_tys dA) (ws := am_ws A B dA w) hx hb hE.K hR.1 a 4 hws rfl (v := Int32.ofInt (n : Int)) rfl hdg h
        · exact va_alen (D := D) (cl := am_cl) (tys := am_tys dA) (ws := am_ws A B dA w) hx hb hE.K hR.1 a 5 hws rfl (v := Int32.ofInt (n : Int)) rfl hdg h
        · exact va_alen (D := D) (cl := am_cl) (tys := am_tys dA) (ws := am_ws A B dA w) hx hb hE.K hR.1 a 6 hws rfl (v := Int32.ofInt (n : Int)) rfl hdg h
      · cases hm
    · cases hm
  · rename_i j
    split at hm
    · rename_i hc
      obtain ⟨rfl, hn⟩ := hc
      cases hm
      have h := kk.same rfl rfl hR (fun u hu => by cases hu; exact hok sl hn)
      exact va_slen hx hb hE.2.1.1 hE.2.1.2.1 hE.2.1.2.2 hR.2.2.1 hdg h
    · split at hm
      · rename_i hj
        split at hm
        · rename_i bs hbs
          split at hm
          · rename_i hn
            cases hm
            obtain ⟨t1, t2, t3⟩ := am_text hbs
            have h := kk.same rfl rfl hR (fun u hu => by cases hu; exact hok _ hn)
            have hT := (hE.2.2.1.1 (j - 1001) t1).2.2.2
            rw [t2] at hT
            have hBj : B (1001 + (j - 1001)) = B j := by rw [show 1001 + (j - 1001) = j by omega]
            simp only [hBj] at hT
            exact va_tlen hx hb hT hR.2.2.1 (v := Int32.ofInt (bs.length : Int)) rfl hdg h
          · cases hm
        · cases hm
      · cases hm
  · cases hm
theorem am_m_tf (hx : p.tables.exec = Jvm.exec) (hb : c.code = cc) (hown : s.vm.findClass (am_nm (am_o k)) = some m.cls) (hts : ∀ w ∈ am_gw, w.before args s = true) (hE : am_E D dA B sl xs Af s s.heap) (hR : am_R D dA A B Af s.heap H locs w)
    {i : Nat} (hfs : am_fs (am_o k) i = some idx) (hdg : decode cc pc = .ok (.getfield i, 3)) (hm : m1_tf am_T idx as w = some (rv, w'))
    (kk : am_K p l e R s m args below meth c cells slots Q D dA A B Af w w' rv (pc + 3) ls S2) : W p l e R s m args below meth c H locs cells slots Q (F0 m pc ls ((as.reverse ++ S2).map (am_cv A B))) := by
  obtain ⟨q, hC⟩ := am_fs_ok hfs
  unfold m1_tf at hm
  split at hm
  · rename_i j
    split at hm
    · rename_i hj
      obtain ⟨j1, j2⟩ := hj
      rw [am_T_len] at j2
      obtain ⟨o1, o2, o3, o4⟩ := hE.2.2.1.1 (j - 1) (by omega)
      have hBj : B (j - 1 + 1) = B j := by rw [show j - 1 + 1 = j by omega]
      have hBv : B (1001 + (j - 1)) = B (1000 + j) := by rw [show 1001 + (j - 1) = 1000 + j by omega]
      simp only [hBj, hBv] at o2 o3
      split at hm
      · cases hm
        have h := kk.same rfl rfl hR (fun u hu => by cases hu; trivial)
        exact vk_getf hx hb o3 hR.2.2.1 hown (hts _ (am_at_mem hC)) (fun _ h => h) hdg h
      · cases hm
        have h := kk.same rfl rfl hR (fun u hu => by cases hu; show (Int32.ofInt 0).toInt = 0; decide)
        exact vk_getf hx hb o2 hR.2.2.1 hown (hts _ (am_at_mem hC)) (fun _ h => h) hdg h
      · cases hm
    · cases hm
  · cases hm
theorem am_m_gs (hx : p.tables.exec = Jvm.exec) (hb : c.code = cc) (hown : s.vm.findClass (am_nm (am_o k)) = some m.cls) (hts : ∀ w ∈ am_gw, w.before args s = true) (hE : am_E D dA B sl xs Af s s.heap) (hR : am_R D dA A B Af s.heap H locs w)
    {i : Nat} (hgs : am_gs (am_o k) i = some idx) (hdg : decode cc pc = .ok (.getstatic i, 3)) (hm : m1_gs (fun j => (xs j).toInt) idx as w = some (rv, w'))
    (kk : am_K p l e R s m args below meth c cells slots Q D dA A B Af w w' rv (pc + 3) ls S2) : W p l e R s m args below meth c H locs cells slots Q (F0 m pc ls ((as.reverse ++ S2).map (am_cv A B))) := by
  obtain ⟨q, hC⟩ := am_gs_ok hgs
  unfold m1_gs at hm
  split at hm
  · split at hm
    · cases hm
      have h := kk.same rfl rfl hR (fun u hu => by cases hu; show (Int32.ofInt 1).toInt = 1; decide)
      exact va_gets hx hb hE.2.2.2.1 hR.2.2.1 hown (hts _ (am_at_mem hC)) (fun _ h => h) hdg h
    · cases hm
      rcases hE.2.2.2.2 with ⟨z, hZ⟩ | ⟨z, hZ⟩
      · have z2 : (xs 1000000).toInt = 0 := by rw [z]; decide
        simp only [if_pos z2] at kk
        have h := kk.same rfl rfl hR (fun u hu => by cases hu; trivial)
        exact va_gets hx hb hZ hR.2.2.1 hown (hts _ (am_at_mem hC)) (fun _ h => h) hdg h
      · have z2 : ¬ (xs 1000000).toInt = 0 := fun q => z (by rw [← Int32.toInt_inj, q]; decide)
        simp only [if_neg z2] at kk
        have h := kk.same rfl rfl hR (fun u hu => by cases hu; trivial)
        exact va_gets hx hb hZ hR.2.2.1 hown (hts _ (am_at_mem hC)) (fun _ h => h) hdg h
    · cases hm
  · cases hm
end AMM
