-- ===== end of PART A; then your names; then what follows =====
/-! THE CLAIM OUT OF ONE WALK OF THE LAW'S BODY. Your part is whole_start (and what it stands on); all else here is the same for every law, but numbers. -/
def R_law : String := "WashingLinesLaw"
def lw_P (b : Addr) (xs : List Int32) (args : Array Value) (s : State) : Prop := args = #[.ref b] ∧ s.IntsAt b xs ∧ xs.length ≤ 3072 ∧ (Jvm.Cond.and given_1 narrow_1).before args s = true
def lw_Q (_ : Array Value) (s : State) (o : Outcome) (t : State) : Prop := o = .returned (some (.int 1)) ∧ Framed s o t [] 600000 7302250
def lw_Z (below : List Frame) (a : Array Value) (s : State) : State → Prop := fun t => ∃ o, t.status = .running ∧ Ended t below o ∧ lw_Q a s o t
/-- the law's own end, with 1 on the stack, nothing written that was there before, its room as the claim has it -/
theorem lw_ret {p : Program} {l : Launch} {e : Env} {s : State} {m : MethodId} {below : List Frame} {meth : Method} {c : Code} {b : Nat} (hx : p.tables.exec = Jvm.exec) (hb : c.code = code) (hr : meth.sig.returnType = ret) (hlocks : meth.locks = false) {pc : Nat} {H : Heap} {ls : Array Slot} (hdg : decode code pc = .ok (.ireturn, 1)) : W p l e room_1 s m #[Value.ref b] below meth c H [] 600000 7302250 (lw_Z below #[Value.ref b] s) (F0 m pc ls [.int 1]) := by
  intro T hT X
  obtain ⟨fs, hret, hrun, hended, hW, hframe⟩ := X.leave (v := some (.int 1)) (hlocks := hlocks) (fun h => by rw [hr] at h; cases h)
  have hmeth' : T.vm.method? m = some meth := X.method'
  refine ⟨T.setFrames fs, ?_, .returned (some (.int 1)), hrun, hended, rfl, ⟨_, rfl⟩, hW, hframe⟩
  jvm_step X.here [X.here.top, hx, hb, hdg, hmeth', hr, ret, narrow_b1]
  (try refine ⟨rfl, ?_⟩); (try refine ⟨rfl, ?_⟩)
  first | (intro acts; rw [hret _ acts rfl rfl rfl]) | rw [hret _ _ rfl rfl rfl]
  exact Steps.refl _
/-- what holds at the law's entry: the machine, the code, the tables' words (any of lw_tbl by 'hts w (by decide +kernel)'), the script of L ints xs at the cell b, what the Statement gives of the start (any of its parts by flat_of_before) -/
def lw_At (p : Program) (s : State) (m : MethodId) (meth : Method) (c : Code) (b L : Nat) (xs : Nat → Int32) : Prop :=
  p.tables.exec = Jvm.exec ∧ c.code = code ∧ meth.sig.returnType = ret ∧ c.maxLocals = 4 ∧ s.vm.findClass R_law = some m.cls ∧ (∀ w ∈ lw_tbl, w.before #[Value.ref b] s = true) ∧ va_X b L xs s s.heap ∧ b < s.heap.size ∧ meth.locks = false ∧ (Jvm.Cond.and given_1 narrow_1).before #[Value.ref b] s = true
/-- the law's walk, out of the small machine's run of it -/
theorem am_start {p : Program} {e : Env} {s : State} {m : MethodId} {below : List Frame} {meth : Method} {c : Code} (l : Launch) {b L : Nat} {xs : Nat → Int32} (hL : L ≤ 3072) (C0 : lw_At p s m meth c b L xs)
    (hrun : ∀ xs' : Nat → Int32, ∃ (n d : Nat) (w' : W1), am_run am_P am_nl (m1 am_ft am_T L (fun j => (xs' j).toInt)) n d am_NM 0 (am_loc 4 [vR (.inr 0)]) [] [] = some (some (vI 1), w') ∧ d ≤ 840 ∧ w'.length ≤ 600000 ∧ am_sl am_ft w' ≤ 7302250) :
    W p l e room_1 s m #[Value.ref b] below meth c s.heap [] 0 0 (lw_Z below #[Value.ref b] s) (entryFrame m ([Value.ref b] : List Value).toArray 4) := by
  obtain ⟨hx, hb, hr, hml, hown, hts, hX, hbl, hlocks, hgv⟩ := C0
  obtain ⟨D, dA, B, xs', hB, hxs, hE⟩ := am_E0 hts hL hX hbl hgv
  obtain ⟨n, d, w', hr1, hd, hw1, hw2⟩ := hrun xs'
  have hl := lv_entry ([.ref b]) (n := 4) (Nat.le_of_ble_eq_true rfl)
  rw [lg_entry_eq]
  generalize (lg_sl ([.ref b]) ++ List.replicate (4 - (lg_sl ([.ref b])).length) Slot.unset).toArray = ls at hl ⊢
  have hLR : am_LR (fun _ => 0) B (am_nl am_NM) ls (am_loc 4 [vR (.inr 0)]) := ⟨hl.1, hl.2.1, fun j v hj => by
    match j, hj with
    | 0, hj =>
      have hj : some (some (vR (.inr 0) : AV R1)) = some (some v) := hj
      cases hj
      have h1 := hl.2.2 (0, .ref b) List.mem_cons_self
      show ls[0]? = some (Slot.val (.ref (B 0)))
      rw [hB]
      exact h1
    | 1, hj => cases hj
    | 2, hj => cases hj
    | 3, hj => cases hj
    | j + 4, hj => cases hj⟩
  have hbc : am_bc am_NM = code := rfl
  refine am_sim L xs' n d am_NM 0 (am_loc 4 [vR (.inr 0)]) [] [] w' (some (vI 1)) hr1 p l e room_1 s m _ below meth c s.heap [] 0 0 _ ls D dA (fun _ => 0) B (fun q => s.heap.size ≤ q) hx (hb.trans hbc.symm) hml (by exact hown) (fun w hw => hts w (List.mem_filter.mp hw).1) hE (fun q h => h) (fun h => absurd h (by decide)) ⟨fun k q h => by simp [am_ws] at h, ⟨fun i j p q h => by simp [am_ws] at h, fun k q h => by simp [am_ws] at h⟩, va_S.rf, fun c hc => by cases hc⟩ hLR (Nat.le_refl 4) (fun j u hj => by
    match j, hj with
    | 0, hj =>
      have hj : some (some (vR (.inr 0) : AV R1)) = some (some u) := hj
      cases hj
      trivial
    | 1, hj => cases hj
    | 2, hj => cases hj
    | 3, hj => cases hj
    | j + 4, hj => cases hj) (fun v hv => by cases hv) (by show d ≤ 2048; omega) (by show 100 * d ≤ 84000; omega) (by show 0 + (w'.length - 0) ≤ 600000; omega) (by show 0 + (am_sl am_ft w' - am_sl am_ft []) ≤ 7302250; omega) ?_
  intro A' H' locs' pc' ls' hA' hR' hv' hret
  have hdg : decode code pc' = .ok (.ireturn, 1) := by
    unfold am_Ret at hret
    rw [hbc] at hret
    rcases hret with ⟨h, -⟩ | ⟨h, -⟩ | ⟨-, h, -⟩ | ⟨-, ⟨C, h⟩, -⟩ | ⟨-, h, -⟩ | ⟨h, -⟩
    · exact h
    · exact h
    · cases h
    · cases h
    · cases h
    · exact h
  refine va_forget hR'.2.2.1.2.2 ?_
  refine W.widen (k := 600000) (n := 7302250) (by show 0 + (w'.length - 0) ≤ 600000; omega) (by show 0 + (am_sl am_ft w' - am_sl am_ft []) ≤ 7302250; omega) ?_
  exact lw_ret hx hb hr hlocks hdg
