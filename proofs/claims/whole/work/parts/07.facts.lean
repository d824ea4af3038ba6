theorem am_ckAll (k : Nat) : am_chkK k = true := by
  by_cases h : k < 288
  · by_cases h5 : k < 5
    · have q := am_ckg0 (k - 0) (by omega); rwa [show 0 + (k - 0) = k by omega] at q
    by_cases h11 : k < 11
    · have q := am_ckg5 (k - 5) (by omega); rwa [show 5 + (k - 5) = k by omega] at q
    by_cases h18 : k < 18
    · have q := am_ckg11 (k - 11) (by omega); rwa [show 11 + (k - 11) = k by omega] at q
    by_cases h25 : k < 25
    · have q := am_ckg18 (k - 18) (by omega); rwa [show 18 + (k - 18) = k by omega] at q
    by_cases h31 : k < 31
    · have q := am_ckg25 (k - 25) (by omega); rwa [show 25 + (k - 25) = k by omega] at q
    by_cases h37 : k < 37
    · have q := am_ckg31 (k - 31) (by omega); rwa [show 31 + (k - 31) = k by omega] at q
    by_cases h43 : k < 43
    · have q := am_ckg37 (k - 37) (by omega); rwa [show 37 + (k - 37) = k by omega] at q
    by_cases h48 : k < 48
    · have q := am_ckg43 (k - 43) (by omega); rwa [show 43 + (k - 43) = k by omega] at q
    by_cases h57 : k < 57
    · have q := am_ckg48 (k - 48) (by omega); rwa [show 48 + (k - 48) = k by omega] at q
    by_cases h61 : k < 61
    · have q := am_ckg57 (k - 57) (by omega); rwa [show 57 + (k - 57) = k by omega] at q
    by_cases h65 : k < 65
    · have q := am_ckg61 (k - 61) (by omega); rwa [show 61 + (k - 61) = k by omega] at q
    by_cases h69 : k < 69
    · have q := am_ckg65 (k - 65) (by omega); rwa [show 65 + (k - 65) = k by omega] at q
    by_cases h78 : k < 78
    · have q := am_ckg69 (k - 69) (by omega); rwa [show 69 + (k - 69) = k by omega] at q
    by_cases h81 : k < 81
    · have q := am_ckg78 (k - 78) (by omega); rwa [show 78 + (k - 78) = k by omega] at q
    by_cases h84 : k < 84
    · have q := am_ckg81 (k - 81) (by omega); rwa [show 81 + (k - 81) = k by omega] at q
    by_cases h86 : k < 86
    · have q := am_ckg84 (k - 84) (by omega); rwa [show 84 + (k - 84) = k by omega] at q
    by_cases h90 : k < 90
    · have q := am_ckg86 (k - 86) (by omega); rwa [show 86 + (k - 86) = k by omega] at q
    by_cases h94 : k < 94
    · have q := am_ckg90 (k - 90) (by omega); rwa [show 90 + (k - 90) = k by omega] at q
    by_cases h99 : k < 99
    · have q := am_ckg94 (k - 94) (by omega); rwa [show 94 + (k - 94) = k by omega] at q
    by_cases h105 : k < 105
    · have q := am_ckg99 (k - 99) (by omega); rwa [show 99 + (k - 99) = k by omega] at q
    by_cases h110 : k < 110
    · have q := am_ckg105 (k - 105) (by omega); rwa [show 105 + (k - 105) = k by omega] at q
    by_cases h114 : k < 114
    · have q := am_ckg110 (k - 110) (by omega); rwa [show 110 + (k - 110) = k by omega] at q
    by_cases h119 : k < 119
    · have q := am_ckg114 (k - 114) (by omega); rwa [show 114 + (k - 114) = k by omega] at q
    by_cases h122 : k < 122
    · have q := am_ckg119 (k - 119) (by omega); rwa [show 119 + (k - 119) = k by omega] at q
    by_cases h127 : k < 127
    · have q := am_ckg122 (k - 122) (by omega); rwa [show 122 + (k - 122) = k by omega] at q
    by_cases h130 : k < 130
    · have q := am_ckg127 (k - 127) (by omega); rwa [show 127 + (k - 127) = k by omega] at q
    by_cases h135 : k < 135
    · have q := am_ckg130 (k - 130) (by omega); rwa [show 130 + (k - 130) = k by omega] at q
    by_cases h139 : k < 139
    · have q := am_ckg135 (k - 135) (by omega); rwa [show 135 + (k - 135) = k by omega] at q
    by_cases h143 : k < 143
    · have q := am_ckg139 (k - 139) (by omega); rwa [show 139 + (k - 139) = k by omega] at q
    by_cases h147 : k < 147
    · have q := am_ckg143 (k - 143) (by omega); rwa [show 143 + (k - 143) = k by omega] at q
    by_cases h150 : k < 150
    · have q := am_ckg147 (k - 147) (by omega); rwa [show 147 + (k - 147) = k by omega] at q
    by_cases h154 : k < 154
    · have q := am_ckg150 (k - 150) (by omega); rwa [show 150 + (k - 150) = k by omega] at q
    by_cases h155 : k < 155
    · have q := am_ckg154 (k - 154) (by omega); rwa [show 154 + (k - 154) = k by omega] at q
    by_cases h156 : k < 156
    · have q := am_ckg155 (k - 155) (by omega); rwa [show 155 + (k - 155) = k by omega] at q
    by_cases h161 : k < 161
    · have q := am_ckg156 (k - 156) (by omega); rwa [show 156 + (k - 156) = k by omega] at q
    by_cases h168 : k < 168
    · have q := am_ckg161 (k - 161) (by omega); rwa [show 161 + (k - 161) = k by omega] at q
    by_cases h171 : k < 171
    · have q := am_ckg168 (k - 168) (by omega); rwa [show 168 + (k - 168) = k by omega] at q
    by_cases h176 : k < 176
    · have q := am_ckg171 (k - 171) (by omega); rwa [show 171 + (k - 171) = k by omega] at q
    by_cases h180 : k < 180
    · have q := am_ckg176 (k - 176) (by omega); rwa [show 176 + (k - 176) = k by omega] at q
    by_cases h183 : k < 183
    · have q := am_ckg180 (k - 180) (by omega); rwa [show 180 + (k - 180) = k by omega] at q
    by_cases h188 : k < 188
    · have q := am_ckg183 (k - 183) (by omega); rwa [show 183 + (k - 183) = k by omega] at q
    by_cases h192 : k < 192
    · have q := am_ckg188 (k - 188) (by omega); rwa [show 188 + (k - 188) = k by omega] at q
    by_cases h197 : k < 197
    · have q := am_ckg192 (k - 192) (by omega); rwa [show 192 + (k - 192) = k by omega] at q
    by_cases h203 : k < 203
    · have q := am_ckg197 (k - 197) (by omega); rwa [show 197 + (k - 197) = k by omega] at q
    by_cases h204 : k < 204
    · have q := am_ckg203 (k - 203) (by omega); rwa [show 203 + (k - 203) = k by omega] at q
    by_cases h207 : k < 207
    · have q := am_ckg204 (k - 204) (by omega); rwa [show 204 + (k - 204) = k by omega] at q
    by_cases h212 : k < 212
    · have q := am_ckg207 (k - 207) (by omega); rwa [show 207 + (k - 207) = k by omega] at q
    by_cases h220 : k < 220
    · have q := am_ckg212 (k - 212) (by omega); rwa [show 212 + (k - 212) = k by omega] at q
    by_cases h223 : k < 223
    · have q := am_ckg220 (k - 220) (by omega); rwa [show 220 + (k - 220) = k by omega] at q
    by_cases h229 : k < 229
    · have q := am_ckg223 (k - 223) (by omega); rwa [show 223 + (k - 223) = k by omega] at q
    by_cases h234 : k < 234
    · have q := am_ckg229 (k - 229) (by omega); rwa [show 229 + (k - 229) = k by omega] at q
    by_cases h238 : k < 238
    · have q := am_ckg234 (k - 234) (by omega); rwa [show 234 + (k - 234) = k by omega] at q
    by_cases h241 : k < 241
    · have q := am_ckg238 (k - 238) (by omega); rwa [show 238 + (k - 238) = k by omega] at q
    by_cases h243 : k < 243
    · have q := am_ckg241 (k - 241) (by omega); rwa [show 241 + (k - 241) = k by omega] at q
    by_cases h246 : k < 246
    · have q := am_ckg243 (k - 243) (by omega); rwa [show 243 + (k - 243) = k by omega] at q
    by_cases h249 : k < 249
    · have q := am_ckg246 (k - 246) (by omega); rwa [show 246 + (k - 246) = k by omega] at q
    by_cases h251 : k < 251
    · have q := am_ckg249 (k - 249) (by omega); rwa [show 249 + (k - 249) = k by omega] at q
    by_cases h252 : k < 252
    · have q := am_ckg251 (k - 251) (by omega); rwa [show 251 + (k - 251) = k by omega] at q
    by_cases h255 : k < 255
    · have q := am_ckg252 (k - 252) (by omega); rwa [show 252 + (k - 252) = k by omega] at q
    by_cases h259 : k < 259
    · have q := am_ckg255 (k - 255) (by omega); rwa [show 255 + (k - 255) = k by omega] at q
    by_cases h262 : k < 262
    · have q := am_ckg259 (k - 259) (by omega); rwa [show 259 + (k - 259) = k by omega] at q
    by_cases h263 : k < 263
    · have q := am_ckg262 (k - 262) (by omega); rwa [show 262 + (k - 262) = k by omega] at q
    by_cases h266 : k < 266
    · have q := am_ckg263 (k - 263) (by omega); rwa [show 263 + (k - 263) = k by omega] at q
    by_cases h271 : k < 271
    · have q := am_ckg266 (k - 266) (by omega); rwa [show 266 + (k - 266) = k by omega] at q
    by_cases h284 : k < 284
    · have q := am_ckg271 (k - 271) (by omega); rwa [show 271 + (k - 271) = k by omega] at q
    by_cases h287 : k < 287
    · have q := am_ckg284 (k - 284) (by omega); rwa [show 284 + (k - 284) = k by omega] at q
    by_cases h288 : k < 288
    · have q := am_ckg287 (k - 287) (by omega); rwa [show 287 + (k - 287) = k by omega] at q
    omega
  · unfold am_chkK
    have hl : am_cs.length = 288 := by decide +kernel
    have e : am_cs.getD k [] = [] := by
      rw [List.getD_eq_getElem?_getD, List.getElem?_eq_none (by omega)]
      rfl
    rw [e]; rfl
theorem am_lk_mem {pc : Nat} {i : am_I} {nx : Nat} : ∀ {l : List (Nat × am_I × Nat)}, am_lk pc l = some (i, nx) → (pc, i, nx) ∈ l
  | [], h => by cases h
  | (q, j, n) :: r, h => by
    unfold am_lk at h
    cases e : Nat.beq q pc with
    | true =>
      rw [e] at h
      cases h
      rw [Nat.eq_of_beq_eq_true e]
      exact List.mem_cons_self
    | false =>
      rw [e] at h
      exact List.mem_cons_of_mem _ (am_lk_mem h)
theorem am_P_ok {k pc nx : Nat} {i : am_I} (h : am_P k pc = some (i, nx)) : ∃ ins len, decode (am_bc k) pc = .ok (ins, len) ∧ am_tr k ins pc len = some i ∧ nx = pc + len := by
  have h1 := List.all_eq_true.mp (am_ckAll k) _ (am_lk_mem h)
  unfold am_chk at h1
  split at h1
  · rename_i ins len hd
    simp only [Bool.and_eq_true] at h1
    refine ⟨ins, len, hd, ?_, Nat.eq_of_beq_eq_true h1.2⟩
    have h2 := h1.1
    split at h2
    · rename_i j hj
      rw [hj, am_Ieq_eq h2]
    · cases h2
  · cases h1
/-! WHAT THE TABLES SAY: each row's words are among lw_tbl's; checked by the kernel -/
def am_gw : List Cond := lw_tbl.filter goodWord
theorem am_gw_of {w : Cond} (i : Nat) (h : lw_tbl[i]? = some w) (g : goodWord w = true) : w ∈ am_gw := List.mem_filter.mpr ⟨List.mem_of_getElem? h, g⟩
def am_at (i : Nat) (w : Cond) : Bool := decide (lw_tbl[i]? = some w) && goodWord w
theorem am_at_mem {i : Nat} {w : Cond} (h : am_at i w = true) : w ∈ am_gw := by
  unfold am_at at h
  simp only [Bool.and_eq_true, decide_eq_true_eq] at h
  exact am_gw_of i h.1 h.2
theorem am_gw_good : GoodIn am_gw am_gw := fun w h => ⟨h, good_of_word (List.mem_filter.mp h).2⟩
def am_nm (o : Nat) : String := am_own.getD o ""
def am_dq : vw_C := ("", am_F0, 0)
-- fields
def am_flC (e : Nat × Nat × Nat × Nat) : Bool := match am_cl[e.2.2.1 / 128]? with
  | some q => decide (e.2.2.1 % 128 < q.2.2) && (am_at e.2.2.2 (.fieldLink (am_nm e.1) e.2.1 q.1 (q.2.1 (e.2.2.1 % 128)).2.1 (q.2.1 (e.2.2.1 % 128)).2.2.1) && decide ((q.2.1 (e.2.2.1 % 128)).1 = q.1))
  | none => false
theorem am_flAll : am_flT.all am_flC = true := by decide +kernel
theorem am_fl_ok {o i f : Nat} (h : am_fl o i = some f) : ∃ q : vw_C, am_cl[f / 128]? = some q ∧ f % 128 < q.2.2 ∧ Cond.fieldLink (am_nm o) i q.1 (q.2.1 (f % 128)).2.1 (q.2.1 (f % 128)).2.2.1 ∈ am_gw ∧ (q.2.1 (f % 128)).1 = q.1 := by
  unfold am_fl at h
  obtain ⟨e, he, rfl⟩ := Option.map_eq_some_iff.mp h
  have h1 := List.find?_some he
  have h2 := List.all_eq_true.mp am_flAll e (List.mem_of_find?_eq_some he)
  simp only [Bool.and_eq_true] at h1
  rw [← Nat.eq_of_beq_eq_true h1.1, ← Nat.eq_of_beq_eq_true h1.2]
  unfold am_flC at h2
  split at h2
  · rename_i q hq
    simp only [Bool.and_eq_true, decide_eq_true_eq] at h2
    exact ⟨q, hq, h2.1, am_at_mem h2.2.1, h2.2.2⟩
  · cases h2
-- classes
def am_fty (c k : Nat) : FieldType := (parseFieldDescriptor (((am_cl.getD c am_dq).2.1 k).2.2.1)).getD .int
def am_tagOk (t : Nat) (ty : FieldType) : Bool := match t, ty with
  | 0, .int => true
  | 1, .boolean => true
  | 2, .object _ => true
  | 2, .array _ => true
  | _, _ => false
def am_lyT : List (List Nat) := [[583, 585, 587, 589, 591, 593, 595, 597, 599], [158, 160, 162, 164, 166, 168, 170, 172], [343], [306, 308, 310, 312, 314, 316, 318, 320, 322, 324, 326, 328, 330, 332, 334, 336, 338], [226, 228, 230, 232, 234, 236, 238], [376, 378], [363, 365, 367, 369], [399, 401, 403], [435, 437, 439, 441, 443, 445, 447, 449, 451, 453, 455], [485, 487, 489, 491, 493, 495, 497, 499, 501, 503], [529, 531, 533, 535, 537, 539, 541, 543, 545, 547, 549, 551], [567, 569, 571], [1429, 1431, 1433, 1435, 1437, 1439, 1441, 1443, 1445, 1447, 1449, 1451, 1453, 1455, 1457, 1459, 1461, 1463, 1465, 1467, 1469, 1471, 1473, 1475, 1477, 1479, 1481, 1483, 1485, 1487, 1489, 1491, 1493, 1495, 1497, 1499, 1501, 1503, 1505, 1507, 1509, 1511, 1513, 1515, 1517, 1519, 1521, 1523, 1525, 1527, 1529, 1531, 1533, 1535, 1537, 1539, 1541, 1543, 1545, 1547, 1549, 1551, 1553, 1555, 1557, 1559, 1561, 1563, 1565, 1567, 1569, 1571, 1573, 1575]]
def am_lyC (c : Nat) : Bool := match am_cl[c]? with
  | some q => (List.range q.2.2).all fun k => am_at ((am_lyT.getD c []).getD k 0) (u_lay q.1 q.2.1 k)
  | none => false
theorem am_lyA1 : (List.range 6).all am_lyC = true := by decide +kernel
theorem am_lyA2 : [6, 7, 8, 9, 10, 11].all am_lyC = true := by decide +kernel
theorem am_lyA3 : am_lyC 12 = true := by decide +kernel
theorem am_lyAll {c : Nat} (h : c < 13) : am_lyC c = true := by
  by_cases h1 : c < 6
  · exact List.all_eq_true.mp am_lyA1 c (List.mem_range.mpr h1)
  · by_cases h2 : c < 12
    · exact List.all_eq_true.mp am_lyA2 c (by
        rcases (show c = 6 ∨ c = 7 ∨ c = 8 ∨ c = 9 ∨ c = 10 ∨ c = 11 by omega) with rfl | rfl | rfl | rfl | rfl | rfl <;> decide)
    · rw [show c = 12 by omega]; exact am_lyA3
def am_clC (c : Nat) : Bool := match am_cl[c]? with
  | some q => (List.range q.2.2).all (fun k => decide (parseFieldDescriptor (q.2.1 k).2.2.1 = some (am_fty c k)) && am_tagOk ((am_ft c).getD k 9) (am_fty c k)) && Nat.beq (am_ft c).length q.2.2
  | none => false
theorem am_clA1 : (List.range 12).all am_clC = true := by decide +kernel
theorem am_clA2 : am_clC 12 = true := by decide +kernel
theorem am_clAll {c : Nat} (h : c < 13) : am_clC c = true := by
  by_cases h1 : c < 12
  · exact List.all_eq_true.mp am_clA1 c (List.mem_range.mpr h1)
  · rw [show c = 12 by omega]; exact am_clA2
def am_nmC (c : Nat) : Bool := match am_cl[c]? with
  | some q => (List.range q.2.2).all fun a => (List.range q.2.2).all fun b => decide (a = b) || decide ((q.2.1 a).2.1 ≠ (q.2.1 b).2.1)
  | none => false
theorem am_nmAll : (List.range 13).all am_nmC = true := by decide +kernel
theorem am_cl_lt {c : Nat} {q : vw_C} (h : am_cl[c]? = some q) : c < 13 := (List.getElem?_eq_some_iff.mp h).1
theorem am_cl_ok {c : Nat} {q : vw_C} (h : am_cl[c]? = some q) : (∀ w ∈ u_ws q.1 q.2.1 q.2.2, w ∈ am_gw) ∧ (∀ k, k < q.2.2 → parseFieldDescriptor (q.2.1 k).2.2.1 = some (am_fty c k)) ∧ (∀ k, k < q.2.2 → am_tagOk ((am_ft c).getD k 9) (am_fty c k) = true) ∧ (am_ft c).length = q.2.2 := by
  have h1 := am_clAll (am_cl_lt h)
  have h0 := am_lyAll (am_cl_lt h)
  unfold am_clC at h1
  unfold am_lyC at h0
  rw [h] at h1 h0
  simp only [Bool.and_eq_true, decide_eq_true_eq, List.all_eq_true] at h1 h0
  refine ⟨fun w hw => ?_, fun k hk => (h1.1 k (List.mem_range.mpr hk)).1, fun k hk => (h1.1 k (List.mem_range.mpr hk)).2, Nat.eq_of_beq_eq_true h1.2⟩
  obtain ⟨k, hk, rfl⟩ := List.mem_map.mp hw
  exact am_at_mem (h0 k hk)
theorem am_cl_nm {c : Nat} {q : vw_C} (h : am_cl[c]? = some q) : ∀ a, a < q.2.2 → ∀ b, b < q.2.2 → a ≠ b → (q.2.1 a).2.1 ≠ (q.2.1 b).2.1 := by
  have h1 := List.all_eq_true.mp am_nmAll c (List.mem_range.mpr (am_cl_lt h))
  unfold am_nmC at h1
  rw [h] at h1
  intro a ha b hb hab
  have h2 := List.all_eq_true.mp (List.all_eq_true.mp h1 a (List.mem_range.mpr ha)) b (List.mem_range.mpr hb)
  simp only [Bool.or_eq_true, decide_eq_true_eq] at h2
  exact h2.resolve_left hab
-- methods
def am_lEqB : List UInt8 → List UInt8 → Bool
  | [], [] => true
  | a :: r, b :: t => Nat.beq a.toNat b.toNat && am_lEqB r t
  | _, _ => false
theorem am_lEqB_eq : ∀ {a b : List UInt8}, am_lEqB a b = true → a = b
  | [], [], _ => rfl
  | a :: r, b :: t, h => by
    simp only [am_lEqB, Bool.and_eq_true] at h
    rw [UInt8.toNat_inj.mp (Nat.eq_of_beq_eq_true h.1), am_lEqB_eq h.2]
  | [], _ :: _, h => by cases h
  | _ :: _, [], h => by cases h
def am_bEq (a b : ByteArray) : Bool := am_lEqB a.data.toList b.data.toList
theorem am_bEq_eq {a b : ByteArray} (h : am_bEq a b = true) : a = b := by
  have h1 := am_lEqB_eq h
  cases a; cases b
  congr
  exact Array.toList_inj.mp h1
def am_codeC (e : am_MI) : Bool := match e with
  | (y, bc, nl, rt, p1, _) => match lw_tbl[p1]? with
    | some (.code y' b' n' r') => decide (y' = y) && (am_bEq b' bc && (Nat.beq n' nl && decide (r' = rt)))
    | _ => false
theorem am_codeA1 : ((am_mt.take am_NM).take 70).all am_codeC = true := by decide +kernel
theorem am_codeA2 : (((am_mt.take am_NM).drop 70).take 70).all am_codeC = true := by decide +kernel
theorem am_codeA3 : (((am_mt.take am_NM).drop 140).take 70).all am_codeC = true := by decide +kernel
theorem am_codeA4 : ((am_mt.take am_NM).drop 210).all am_codeC = true := by decide +kernel
def am_mC (e : am_MI) : Bool := match e with
  | (y, _, nl, _, _, st, p2, ps, pi, np) => am_at pi (.initialized y.cls) && ((if st = 1 then am_at p2 (.static y) else am_at p2 (.instanceMethod y)) && ((Nat.beq ps 0 || am_at (ps - 1) (.selects y.cls y y)) && (plainFor y && (decide (y.cls ≠ "java/lang/invoke/MethodHandle") && (decide (y.cls ≠ "java/lang/invoke/VarHandle") && (decide ((parseMethodDescriptor y.desc).map (fun d => d.parameters.length) = some np) && decide (nl ≤ 40)))))))
theorem am_mA1 : ((am_mt.take am_NM).take 70).all am_mC = true := by decide +kernel
theorem am_mA2 : (((am_mt.take am_NM).drop 70).take 70).all am_mC = true := by decide +kernel
theorem am_mA3 : (((am_mt.take am_NM).drop 140).take 70).all am_mC = true := by decide +kernel
theorem am_mA4 : ((am_mt.take am_NM).drop 210).all am_mC = true := by decide +kernel
theorem am_all4 {α : Type} {l : List α} {f : α → Bool} {a b c : Nat} (h1 : (l.take a).all f = true) (h2 : ((l.drop a).take b).all f = true) (h3 : ((l.drop (a + b)).take c).all f = true) (h4 : (l.drop (a + b + c)).all f = true) : l.all f = true := by
  rw [← List.take_append_drop a l, List.all_append, h1, Bool.true_and, ← List.take_append_drop b (l.drop a), List.all_append, h2, Bool.true_and, List.drop_drop, ← List.take_append_drop c (l.drop (a + b)), List.all_append, h3, Bool.true_and, List.drop_drop]
  exact h4
theorem am_codeAll : (am_mt.take am_NM).all am_codeC = true := am_all4 am_codeA1 am_codeA2 am_codeA3 am_codeA4
theorem am_mAll : (am_mt.take am_NM).all am_mC = true := am_all4 am_mA1 am_mA2 am_mA3 am_mA4
theorem am_mt_len : am_mt.length = am_NM + 1 := by decide +kernel
theorem am_mi_mem {k : Nat} (h : k < am_NM) : am_mi k ∈ am_mt.take am_NM := by
  have hl := am_mt_len
  have h1 : am_mt[k]? = some (am_mi k) := by
    unfold am_mi
    rw [List.getD_eq_getElem?_getD]
    cases e : am_mt[k]? with
    | none => have := List.getElem?_eq_none_iff.mp e; omega
    | some z => rfl
  refine List.mem_of_getElem? (i := k) ?_
  rw [List.getElem?_take, if_pos h]
  exact h1
theorem am_m_code {k : Nat} (h : k < am_NM) : Cond.code (am_y k) (am_bc k) (am_nl k) (am_rt k) ∈ am_gw := by
  have h1 := List.all_eq_true.mp am_codeAll _ (am_mi_mem h)
  unfold am_y am_bc am_nl am_rt
  generalize am_mi k = e at h1
  obtain ⟨y, bc, nl, rt, p1, r⟩ := e
  unfold am_codeC at h1
  simp only at h1
  split at h1
  · rename_i y' b' n' r' hw
    simp only [Bool.and_eq_true, decide_eq_true_eq] at h1
    obtain ⟨h2, h3, h4, h5⟩ := h1
    rw [← h2, ← am_bEq_eq h3, ← Nat.eq_of_beq_eq_true h4, ← h5]
    exact am_gw_of p1 hw rfl
  · cases h1
def am_stat (k : Nat) : Nat := (am_mi k).2.2.2.2.2.1
def am_selp (k : Nat) : Nat := (am_mi k).2.2.2.2.2.2.2.1
theorem am_m_ok {k : Nat} (h : k < am_NM) : Cond.initialized (am_y k).cls ∈ am_gw ∧ (if am_stat k = 1 then Cond.static (am_y k) ∈ am_gw else Cond.instanceMethod (am_y k) ∈ am_gw) ∧ (¬ am_selp k = 0 → Cond.selects (am_y k).cls (am_y k) (am_y k) ∈ am_gw) ∧ plainFor (am_y k) = true ∧ (am_y k).cls ≠ "java/lang/invoke/MethodHandle" ∧ (am_y k).cls ≠ "java/lang/invoke/VarHandle" ∧ (parseMethodDescriptor (am_y k).desc).map (fun d => d.parameters.length) = some (am_np k) ∧ am_nl k ≤ 40 := by
  have h1 := List.all_eq_true.mp am_mAll _ (am_mi_mem h)
  unfold am_y am_nl am_stat am_selp am_np
  generalize am_mi k = e at h1
  obtain ⟨y, bc, nl, rt, p1, st, p2, ps, pi, np⟩ := e
  unfold am_mC at h1
  simp only [Bool.and_eq_true, Bool.or_eq_true, decide_eq_true_eq] at h1
  obtain ⟨h2, h3, h4, h5, h6, h7, h8, h9⟩ := h1
  refine ⟨am_at_mem h2, ?_, fun hp => ?_, h5, h6, h7, h8, h9⟩
  · show if st = 1 then _ else _
    by_cases q : st = 1
    · rw [if_pos q] at h3 ⊢; exact am_at_mem h3
    · rw [if_neg q] at h3 ⊢; exact am_at_mem h3
  · rcases h4 with z | z
    · exact absurd (Nat.eq_of_beq_eq_true z) hp
    · exact am_at_mem z
-- links of methods, classes, constants
def am_natM (t : Nat) : MethodName := match t with
  | 14 => Lib.objectInit
  | 10 => arraycopyName
  | 15 => Lib.Math.max.name
  | 16 => Lib.Math.min.name
  | _ => Lib.objectInit
def am_mlC (e : Nat × Nat × Nat × Nat × Nat) : Bool := match e with
  | (o, i, how, t, pos) => match how with
    | 0 => am_at pos (.methodLink (am_nm o) i (am_y t)) && (decide (t < am_NM) && (!(Nat.beq (am_selp t) 0) && !(Nat.beq (am_stat t) 1)))
    | 1 => am_at pos (.methodLink (am_nm o) i (am_y t)) && (decide (t < am_NM) && Nat.beq (am_stat t) 1)
    | 2 => am_at pos (.methodLink (am_nm o) i (am_y t)) && (decide (t < am_NM) && (decide ((am_y t).name = "<init>") && (!(Nat.beq (am_stat t) 1) && decide (am_rt t = none))))
    | 3 => decide (t < am_NM) && (decide ((am_y t).name = "<init>") && (!(Nat.beq (am_stat t) 1) && decide (am_rt t = none)))
    | 4 => am_at pos (.methodLink (am_nm o) i (am_natM t))
    | _ => false
theorem am_mlA1 : (am_mlT.take 200).all am_mlC = true := by decide +kernel
theorem am_mlA2 : (am_mlT.drop 200).all am_mlC = true := by decide +kernel
theorem am_mlAll : am_mlT.all am_mlC = true := by
  rw [← List.take_append_drop 200 am_mlT, List.all_append, am_mlA1, am_mlA2]; rfl
theorem am_ml_ok {o i how t : Nat} (h : am_ml o i = some (how, t)) : ∃ pos, am_mlC (o, i, how, t, pos) = true ∧ (o, i, how, t, pos) ∈ am_mlT := by
  unfold am_ml at h
  obtain ⟨e, he, h⟩ := Option.map_eq_some_iff.mp h
  have h1 := List.find?_some he
  have hm := List.mem_of_find?_eq_some he
  have h2 := List.all_eq_true.mp am_mlAll e hm
  simp only [Bool.and_eq_true] at h1
  obtain ⟨a, b, c, d, q⟩ := e
  cases h
  have e1 := Nat.eq_of_beq_eq_true h1.1
  have e2 := Nat.eq_of_beq_eq_true h1.2
  simp only at e1 e2
  subst e1; subst e2
  exact ⟨q, h2, hm⟩
def am_clkC (e : Nat × Nat × Nat × Nat) : Bool := match e with
  | (o, i, c, pos) => match am_cl[c]? with
    | some q => am_at pos (.classLink (am_nm o) i q.1) && ((lw_tbl.any fun w => match w with
      | .instantiable C n => decide (C = q.1) && Nat.beq n q.2.2
      | _ => false) && (lw_tbl.any fun w => match w with
      | .initialized C => decide (C = q.1)
      | _ => false))
    | none => am_at pos (.classLink (am_nm o) i "[[I")
theorem am_clkAll : am_clT.all am_clkC = true := by decide +kernel
theorem am_clk_ok {o i c : Nat} {q : vw_C} (h : am_clk o i = some c) (hq : am_cl[c]? = some q) : Cond.classLink (am_nm o) i q.1 ∈ am_gw ∧ Cond.instantiable q.1 q.2.2 ∈ am_gw ∧ Cond.initialized q.1 ∈ am_gw := by
  unfold am_clk at h
  obtain ⟨e, he, h⟩ := Option.map_eq_some_iff.mp h
  have h1 := List.find?_some he
  have h2 := List.all_eq_true.mp am_clkAll e (List.mem_of_find?_eq_some he)
  simp only [Bool.and_eq_true] at h1
  obtain ⟨a, b, d, p⟩ := e
  cases h
  have e1 := Nat.eq_of_beq_eq_true h1.1
  have e2 := Nat.eq_of_beq_eq_true h1.2
  simp only at e1 e2
  subst e1; subst e2
  unfold am_clkC at h2
  simp only at h2 hq
  rw [hq] at h2
  simp only [Bool.and_eq_true] at h2
  obtain ⟨h3, h4, h5⟩ := h2
  refine ⟨am_at_mem h3, ?_, ?_⟩
  · obtain ⟨w, hw, hz⟩ := List.any_eq_true.mp h4
    split at hz
    · simp only [Bool.and_eq_true, decide_eq_true_eq] at hz
      rw [← hz.1, ← Nat.eq_of_beq_eq_true hz.2]
      exact List.mem_filter.mpr ⟨hw, rfl⟩
    · cases hz
  · obtain ⟨w, hw, hz⟩ := List.any_eq_true.mp h5
    split at hz
    · simp only [decide_eq_true_eq] at hz
      rw [← hz]
      exact List.mem_filter.mpr ⟨hw, rfl⟩
    · cases hz
theorem am_ctAll : am_ctT.all (fun e => am_at e.2.2.2 (.constant (am_nm e.1) e.2.1 (Int32.ofInt e.2.2.1)) && decide ((Int32.ofInt e.2.2.1).toInt = e.2.2.1)) = true := by decide +kernel
theorem am_ct_ok {o i : Nat} {v : Int} (h : am_ct o i = some v) : Cond.constant (am_nm o) i (Int32.ofInt v) ∈ am_gw ∧ (Int32.ofInt v).toInt = v := by
  unfold am_ct at h
  obtain ⟨e, he, rfl⟩ := Option.map_eq_some_iff.mp h
  have h1 := List.find?_some he
  have h2 := List.all_eq_true.mp am_ctAll e (List.mem_of_find?_eq_some he)
  simp only [Bool.and_eq_true, decide_eq_true_eq] at h1 h2
  rw [← Nat.eq_of_beq_eq_true h1.1, ← Nat.eq_of_beq_eq_true h1.2]
  exact ⟨am_at_mem h2.1, h2.2⟩
theorem am_ltAll : am_ltT.all (fun e => am_at e.2.2.2 (.constantLong (am_nm e.1) e.2.1 (Int64.ofInt e.2.2.1)) && decide ((Int64.ofInt e.2.2.1).toInt = e.2.2.1)) = true := by decide +kernel
theorem am_lt_ok {o i : Nat} {v : Int} (h : am_lt o i = some v) : Cond.constantLong (am_nm o) i (Int64.ofInt v) ∈ am_gw ∧ (Int64.ofInt v).toInt = v := by
  unfold am_lt at h
  obtain ⟨e, he, rfl⟩ := Option.map_eq_some_iff.mp h
  have h1 := List.find?_some he
  have h2 := List.all_eq_true.mp am_ltAll e (List.mem_of_find?_eq_some he)
  simp only [Bool.and_eq_true, decide_eq_true_eq] at h1 h2
  rw [← Nat.eq_of_beq_eq_true h1.1, ← Nat.eq_of_beq_eq_true h1.2]
  exact ⟨am_at_mem h2.1, h2.2⟩
theorem am_tx_ok {o i j : Nat} (h : am_txk o i = some j) : j < 23 ∧ ∃ p, am_txT.getD j (0, 0, 0) = (o, i, p) := by
  unfold am_txk at h
  obtain ⟨h1, h2, -⟩ := List.findIdx?_eq_some_iff_getElem.mp h
  simp only [Bool.and_eq_true] at h2
  refine ⟨h1, (am_txT[j]).2.2, ?_⟩
  rw [List.getD_eq_getElem?_getD, List.getElem?_eq_getElem h1, Option.getD_some]
  rw [← Nat.eq_of_beq_eq_true h2.1, ← Nat.eq_of_beq_eq_true h2.2]
-- fields of texts, statics
def am_fsC (e : Nat × Nat × Nat × Nat) : Bool := match e with
  | (o, i, f, pos) => match f with
    | 0 => am_at pos (.fieldLink (am_nm o) i "java/lang/String" "value" "[B")
    | 1 => am_at pos (.fieldLink (am_nm o) i "java/lang/String" "coder" "B")
    | _ => false
theorem am_fsAll : am_fsT.all am_fsC = true := by decide +kernel
theorem am_fs_ok {o i f : Nat} (h : am_fs o i = some f) : ∃ p, am_fsC (o, i, f, p) = true := by
  unfold am_fs at h
  obtain ⟨e, he, h⟩ := Option.map_eq_some_iff.mp h
  have h1 := List.find?_some he
  have h2 := List.all_eq_true.mp am_fsAll e (List.mem_of_find?_eq_some he)
  simp only [Bool.and_eq_true] at h1
  obtain ⟨a, b, d, p⟩ := e
  cases h
  have e1 := Nat.eq_of_beq_eq_true h1.1
  have e2 := Nat.eq_of_beq_eq_true h1.2
  simp only at e1 e2
  subst e1; subst e2
  exact ⟨p, h2⟩
def am_gsC (e : Nat × Nat × Nat × Nat) : Bool := match e with
  | (o, i, f, pos) => match f with
    | 0 => am_at pos (.fieldLink (am_nm o) i "java/lang/String" "COMPACT_STRINGS" "Z")
    | 1 => am_at pos (.fieldLink (am_nm o) i "jdk/internal/util/Preconditions" "SIOOBE_FORMATTER" "Ljava/util/function/BiFunction;")
    | _ => false
theorem am_gsAll : am_gsT.all am_gsC = true := by decide +kernel
theorem am_gs_ok {o i f : Nat} (h : am_gs o i = some f) : ∃ p, am_gsC (o, i, f, p) = true := by
  unfold am_gs at h
  obtain ⟨e, he, h⟩ := Option.map_eq_some_iff.mp h
  have h1 := List.find?_some he
  have h2 := List.all_eq_true.mp am_gsAll e (List.mem_of_find?_eq_some he)
  simp only [Bool.and_eq_true] at h1
  obtain ⟨a, b, d, p⟩ := e
  cases h
  have e1 := Nat.eq_of_beq_eq_true h1.1
  have e2 := Nat.eq_of_beq_eq_true h1.2
  simp only at e1 e2
  subst e1; subst e2
  exact ⟨p, h2⟩
