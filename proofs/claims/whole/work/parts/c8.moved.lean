/-! THE MAKERS' RUNS behind any cells -/
theorem lk_mem {pc : Nat} {r : am_I × Nat} : ∀ {l : List (Nat × am_I × Nat)}, am_lk pc l = some r → (pc, r) ∈ l
  | [], h => by cases h
  | (q, i, n) :: t, h => by
    unfold am_lk at h
    cases e : Nat.beq q pc with
    | true =>
      rw [e] at h
      cases h
      rw [Nat.eq_of_beq_eq_true e]
      exact List.mem_cons_self
    | false =>
      rw [e] at h
      exact List.mem_cons_of_mem _ (lk_mem h)
def ck30 : Bool := am_cs.all fun l => l.all fun i => !(Nat.beq i.2.1.1 24 && Nat.beq i.2.1.2.1 30)
theorem ck30_t : ck30 = true := by decide +kernel
theorem h30_P (k pc x y : Nat) (im : Int) (tb : List (Int × Nat)) (nx : Nat) (h : am_P k pc = some ((24, x, y, im, tb), nx)) : x ≠ 30 := by
  intro w
  subst w
  unfold am_P at h
  rw [List.getD_eq_getElem?_getD] at h
  cases e : am_cs[k]? with
  | none => rw [e] at h; cases h
  | some l =>
    rw [e] at h
    have h1 := List.all_eq_true.mp (List.all_eq_true.mp ck30_t l (List.mem_of_getElem? e)) _ (lk_mem h)
    cases h1
theorem mR_30 {idx : Nat} {as : List (AV R1)} {s : WV} {r : Option (AV R1) × WV} (h : mR 30 idx as s = some r) : False := by
  have h : (none : MV) = some r := h
  cases h
theorem made {k c : Nat} {T : List TD} (h : ckRun k c T = true) {L : Nat} {sx : Nat → Int} {w0 : W1} : ∃ (n : Nat) (a : List C1), lR TDr T a ∧ am_run am_P am_nl (m1 am_ft am_T L sx) n 9 k 0 (am_loc (am_nl k) [vR (.inl w0.length)]) [] (w0 ++ [.inl (c, (am_ft c).map am_def)]) = some (none, w0 ++ a.map (shC w0.length)) := by
  obtain ⟨s, h1, h2⟩ := ckRun_i h
  have h1 := fr_i _ _ _ _ _ _ _ _ h1
  generalize hN : w0.length = N
  have hdef : ([.inl (c, (am_ft c).map am_def)] : W1).map (shC N) = [.inl (c, (am_ft c).map am_def)] := by
    show [(Sum.inl (c, ((am_ft c).map am_def).map (shV N)) : C1)] = _
    rw [List.map_map, show (shV N) ∘ am_def = am_def from funext fun t => shV_def]
  have hI : (fun (_ : Nat) (s : WV) (b : W1) => s.1 = s.2.length ∧ shI N w0 s.2.reverse b) 0 (1, [.inl (c, (am_ft c).map am_def)]) (w0 ++ [.inl (c, (am_ft c).map am_def)]) := by
    refine ⟨rfl, hN, ?_⟩
    show _ = w0 ++ ([.inl (c, (am_ft c).map am_def)] : W1).map (shC N)
    rw [hdef]
  have hL : lR (aV (fun r q => q = sh1 N r)) [vR (.inl 0)] [vR (.inl N)] := by
    refine ⟨?_, trivial⟩
    show (Sum.inl N : R1) = .inl (0 + N)
    rw [Nat.zero_add]
  obtain ⟨n', c', rw', b', -, g1, ⟨g2, g3, g4⟩, g5⟩ := am_run_sim (V := fun _ r q => q = sh1 N r) (I := fun (_ : Nat) (s : WV) (b : W1) => s.1 = s.2.length ∧ shI N w0 s.2.reverse b) (PA := am_P) (PB := am_P) (NL := am_nl) (mA := mR) (mB := m1 am_ft am_T L sx) (D := 0)
    (fun _ _ _ _ _ h => h)
    (fun _ _ _ _ h => Or.inl h)
    (fun kind idx _ => by
      intro c a a' b S T rv hI hS h
      obtain ⟨e1, e2⟩ := mR_i hI.1 h
      obtain ⟨c', rw', b', f1, f2, f3, f4⟩ := shM (T := am_T) (L := L) (sx := sx) rfl kind idx c _ _ b S T rv hI.2 hS e1
      exact ⟨c', rw', b', f1, f2, ⟨e2, f3⟩, f4⟩)
    (fun c a a' b rv _ h => (mR_30 h).elim)
    h30_P
    _ _ _ _ _ _ _ _ 0 _ _ _ _ hI (am_loc_sim (n := am_nl k) hL) (show lR _ [] [] from trivial) h1
  match rw', g5 with
  | none, _ => exact ⟨n', s.2.reverse, h2, by rw [g1, g4]⟩
