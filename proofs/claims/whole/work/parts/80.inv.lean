/-! THE INVARIANT between calls: class and model hold the same -/
def jr (f k : Nat) : Prop := (f = 1537 ∧ k < 11) ∨ ((f = 1538 ∨ f = 1539 ∨ f = 1554) ∧ k < 4) ∨ (1540 ≤ f ∧ f ≤ 1544 ∧ k < 6) ∨ (1545 ≤ f ∧ f ≤ 1548 ∧ k < 10) ∨ ((f = 1549 ∨ f = 1550) ∧ k < 3) ∨ (((1551 ≤ f ∧ f ≤ 1553) ∨ f = 1555 ∨ f = 1556) ∧ k < 10) ∨ (f = 1591 ∧ k < 720) ∨ (f = 1593 ∧ k = 0)
def jrD (f k : Nat) : Decidable (jr f k) := by unfold jr; exact inferInstance
def nJ (J : V2) : V2 := fun f k => @ite _ (jr f k) (jrD f k) (J f k) 0
theorem nJ_t {J : V2} {f k : Nat} (h : jr f k) : nJ J f k = J f k := if_pos h
theorem nJ_ext {J K : V2} (h : ∀ f k, jr f k → J f k = K f k) : nJ J = nJ K := by
  funext f k
  unfold nJ
  by_cases hr : jr f k
  · rw [if_pos hr, if_pos hr, h f k hr]
  · rw [if_neg hr, if_neg hr]
/-- where a row begins in an image -/
def offJ (f : Nat) : Nat := if f = 1537 then 0 else if f = 1538 then 11 else if f = 1539 then 15 else if f = 1544 then 19 else if f = 1547 then 25 else if f = 1548 then 35 else if f = 1593 then 45 else if f = 1540 then 46 else if f = 1541 then 52 else if f = 1542 then 58 else if f = 1543 then 64 else if f = 1545 then 70 else if f = 1546 then 80 else if f = 1549 then 90 else if f = 1550 then 93 else if f = 1551 then 96 else if f = 1552 then 106 else if f = 1553 then 116 else if f = 1554 then 126 else if f = 1555 then 130 else if f = 1556 then 140 else 150
theorem offJ_bd {f k : Nat} (h : jr f k) : offJ f + k < 870 := by
  unfold jr at h
  unfold offJ
  grind (splits := 40)
def live (s : S2) : V2 := nJ (fun f k => s f 0 k)
def im (s : S2) (k : Nat) : V2 := nJ (fun f i => s 1606 0 (1100 * k + offJ f + i))
/-- a world's own numbers, its past yards -/
def ur (f k : Nat) : Prop := ((f = 1027 ∨ f = 1028 ∨ f = 1032 ∨ f = 1033 ∨ f = 1034) ∧ k = 0) ∨ (1029 ≤ f ∧ f ≤ 1031 ∧ k < 10)
def urD (f k : Nat) : Decidable (ur f k) := by unfold ur; exact inferInstance
def uw (s : S2) (w : Nat) : V2 := fun f k => @ite _ (ur f k) (urD f k) (s f w k) 0
theorem uw_t {s : S2} {w f k : Nat} (h : ur f k) : uw s w f k = s f w k := if_pos h
theorem uw_ext {s s' : S2} {a b : Nat} (h : ∀ f k, ur f k → s' f a k = s f b k) : uw s' a = uw s b := by
  funext f k
  unfold uw
  by_cases hr : ur f k
  · rw [if_pos hr, if_pos hr, h f k hr]
  · rw [if_neg hr, if_neg hr]
theorem uw1 {s : S2} {w f : Nat} (h : f = 1027 ∨ f = 1028 ∨ f = 1032 ∨ f = 1033 ∨ f = 1034) : uw s w f 0 = s f w 0 := uw_t (Or.inl ⟨h, rfl⟩)
theorem uw10 {s : S2} {w f k : Nat} (h1 : 1029 ≤ f) (h2 : f ≤ 1031) (h : k < 10) : uw s w f k = s f w k := uw_t (Or.inr ⟨h1, h2, h⟩)
def pv (s : S2) (w j : Nat) : V2 := if j < 20 then yv s (32 * w + 2 + j) else fun _ _ => 0
theorem pv_t {s : S2} {w j : Nat} (h : j < 20) : pv s w j = yv s (32 * w + 2 + j) := if_pos h
theorem pv_ext {s s' : S2} {a b : Nat} (h : ∀ j, j < 20 → yv s' (32 * a + 2 + j) = yv s (32 * b + 2 + j)) : pv s' a = pv s b := by
  funext j
  unfold pv
  by_cases hr : j < 20
  · rw [if_pos hr, if_pos hr, h j hr]
  · rw [if_neg hr, if_neg hr]
/-- rows as a memory -/
def jS (J : V2) : S2 := fun f _ k => J f k
def offP (f : Nat) : Nat := if f = 1538 then 2 else if f = 1539 then 6 else if f = 1544 then 10 else if f = 1547 then 16 else 26
/-- the j-th past of the model, as a memory -/
def pJ' (J : V2) (j : Nat) : S2 := fun f _ k => if f = 1537 then J 1591 (36 * j + (k - 6)) else J 1591 (36 * j + offP f + k)
def PR (C Z J : V2) (j : Nat) : Prop := YB C Z ∧ Z 512 0 ≤ 999 ∧ YR C Z (pJ' J j)
def IWu (C : V2) (P : Nat → V2) (U J : V2) : Prop := ∃ m p : Nat, m ≤ 20 ∧ p ≤ 20 ∧ U 1028 0 = m ∧ J 1593 0 = m ∧ U 1027 0 = p ∧ ∀ j, j < m → PR C (P ((p + 20 - m + j) % 20)) J j
def IWl (C U J : V2) : Prop := ∃ n : Nat, n ≤ 10 ∧ U 1032 0 = n ∧ J 1537 8 = n ∧ ∀ i, i < n → (U 1029 i = J 1551 i ∧ 0 ≤ U 1029 i ∧ U 1029 i ≤ 60) ∧ (U 1030 i = J 1552 i ∧ 0 ≤ U 1030 i ∧ U 1030 i < C 388 0) ∧ (U 1031 i = J 1553 i ∧ -1 ≤ U 1031 i ∧ U 1031 i < C 387 0)
def IWb (C B J : V2) : Prop := YB C B ∧ B 512 0 = 0 ∧ (∀ l, l < 6 → B 513 l = -1 ∧ B 514 l = 0) ∧ (∀ f, f < 4 → B 518 f = 0) ∧ (∀ n : Nat, n < 10 → (n : Int) < C 389 0 → B 516 n = C 397 n ∧ J 1556 n = B 515 n) ∧ ∀ f : Nat, f < 4 → (f : Int) < C 387 0 → J 1554 f = B 517 f
def IWf (R : Nat) (U J : V2) : Prop := U 1033 0 = J 1537 10 ∧ -1 ≤ U 1033 0 ∧ U 1033 0 < R ∧ U 1034 0 = J 1537 9 ∧ 0 ≤ U 1034 0 ∧ U 1034 0 < 2147483648
def IWr (R : Nat) (C Y B : V2) (P : Nat → V2) (U J : V2) : Prop := (CB C ∧ YB C Y ∧ Y 512 0 ≤ 999 ∧ CR C (jS J) ∧ YR C Y (jS J)) ∧ IWb C B J ∧ IWu C P U J ∧ IWl C U J ∧ IWf R U J
def IW (R : Nat) (s : S2) (w : Nat) (J : V2) : Prop := IWr R (cw s w) (yv s (32 * w)) (yv s (32 * w + 1)) (pv s w) (uw s w) J
/-- world w is as it was -/
def WE (s s' : S2) (w : Nat) : Prop := cw s' w = cw s w ∧ (∀ j, j < 22 → yv s' (32 * w + j) = yv s (32 * w + j)) ∧ uw s' w = uw s w
theorem IW.we {R : Nat} {s s' : S2} {w : Nat} {J : V2} (h : IW R s w J) (e : WE s s' w) : IW R s' w J := by
  obtain ⟨e1, e2, e3⟩ := e
  unfold IW
  rw [e1, e3, show yv s' (32 * w) = yv s (32 * w) from e2 0 (by omega), e2 1 (by omega), pv_ext (s := s) (b := w) fun j hj => by rw [Nat.add_assoc]; exact e2 (2 + j) (by omega)]
  exact h
theorem Fr.we {P : Nat → Nat → Bool} {s s' : S2} {w : Nat} (h : Fr P s s') (h1 : ∀ f, 384 ≤ f → f ≤ 399 → P f w = false) (h2 : ∀ f j, 512 ≤ f → f ≤ 518 → j < 22 → P f (32 * w + j) = false) (h3 : ∀ f, 1027 ≤ f → f ≤ 1034 → P f w = false) : WE s s' w := by
  refine ⟨h.cw h1, fun j hj => h.yv fun f g1 g2 => h2 f j g1 g2 hj, uw_ext fun f k hk => ?_⟩
  rw [h f w (h3 f (by unfold ur at hk; omega) (by unfold ur at hk; omega))]
/-- the book of rules -/
def BK (s : S2) (R : Nat) (K : Nat → List Int) : Prop := s 898 0 0 = R ∧ s 1573 0 0 = R ∧ R ≤ 6 ∧ (∀ r, r < R → hasL s r (K r) ∧ wfc (K r) [] ∧ MLaw s r (K r)) ∧ hasL s 6 [-260, -59]
theorem BK.fr {P : Nat → Nat → Bool} {s s' : S2} {R : Nat} {K : Nat → List Int} (h : BK s R K) (e : Fr P s s') (h1 : P 898 0 = false) (h2 : P 1573 0 = false) (h3 : ∀ r, r ≤ 6 → P 768 r = false ∧ P 769 r = false) (h4 : ∀ f, 1580 ≤ f → f ≤ 1585 → P f 0 = false) : BK s' R K := by
  obtain ⟨a1, a2, a3, a4, a5⟩ := h
  refine ⟨by rw [e _ _ h1]; exact a1, by rw [e _ _ h2]; exact a2, a3, fun r hr => ?_, a5.fr (e _ _ (h3 6 (by omega)).2) (e _ _ (h3 6 (by omega)).1)⟩
  obtain ⟨b1, b2, b3⟩ := a4 r hr
  exact ⟨b1.fr (e _ _ (h3 r (by omega)).2) (e _ _ (h3 r (by omega)).1), b2, b3.fr e h4⟩
/-- the tape -/
def TP (s : S2) : Prop := ∃ n : Nat, n ≤ 400 ∧ s 129 0 0 = n ∧ s 1569 0 0 = n ∧ ∀ k, k < n → ∃ b : Nat, b < 256 ∧ s 128 0 k = b ∧ s 1579 0 k = ji2b b
theorem TP.fr {P : Nat → Nat → Bool} {s s' : S2} (h : TP s) (e : Fr P s s') (h1 : P 129 0 = false) (h2 : P 1569 0 = false) (h3 : P 128 0 = false) (h4 : P 1579 0 = false) : TP s' := by
  unfold TP
  rw [e _ _ h1, e _ _ h2, e _ _ h3, e _ _ h4]
  exact h
/-- the images -/
def IM (R : Nat) (s : S2) : Prop := ∃ m : Nat, s 9999 0 0 = m ∧ (m : Int) = cntB 4 (fun k => !decide (s 5 0 k = 0)) ∧ (∀ k, k < 4 → (s 5 0 k = 0 ∧ s 1607 0 k = 0) ∨ ∃ w : Nat, 1 ≤ w ∧ w ≤ m ∧ s 5 0 k = w ∧ s 1607 0 k = 1 ∧ IW R s w (im s k)) ∧ ∀ k k', k < 4 → k' < 4 → s 5 0 k ≠ 0 → s 5 0 k = s 5 0 k' → k = k'
theorem im_e {s s' : S2} {k : Nat} (hk : k < 4) (h : ∀ i, i < 4400 → s' 1606 0 i = s 1606 0 i) : im s' k = im s k := nJ_ext fun f i hr => by
  have := offJ_bd hr
  exact h _ (by omega)
theorem IM.bd {R : Nat} {s : S2} (h : IM R s) : 0 ≤ s 9999 0 0 ∧ s 9999 0 0 ≤ 4 := by
  obtain ⟨m, a1, a2, -⟩ := h
  have := cntB_bd (p := fun k => !decide (s 5 0 k = 0)) (n := 4)
  omega
theorem IM.fr {R : Nat} {s s' : S2} (h : IM R s) (h1 : s' 5 0 = s 5 0) (h2 : s' 1607 0 = s 1607 0) (h3 : s' 9999 0 = s 9999 0) (h4 : ∀ i, i < 4400 → s' 1606 0 i = s 1606 0 i) (h5 : ∀ w, 1 ≤ w → w ≤ 4 → WE s s' w) : IM R s' := by
  have hb := h.bd
  obtain ⟨m, a1, a2, a3, a4⟩ := h
  unfold IM
  rw [h1, h2, h3]
  refine ⟨m, a1, a2, fun k hk => ?_, a4⟩
  rcases a3 k hk with q | ⟨w, q1, q2, q3, q4, q5⟩
  · exact Or.inl q
  · refine Or.inr ⟨w, q1, q2, q3, q4, ?_⟩
    rw [im_e hk h4]
    exact q5.we (h5 w q1 (by omega))
/-- old numbers in the draft of a court -/
def CS (C : V2) : Prop := (∀ n, n < 10 → -1 ≤ C 395 n ∧ C 395 n ≤ 3 ∧ -1 ≤ C 396 n ∧ C 396 n ≤ 4 ∧ -1 ≤ C 397 n ∧ C 397 n ≤ 20) ∧ (∀ l, l < 6 → -1 ≤ C 391 l ∧ C 391 l ≤ 7 ∧ -1 ≤ C 392 l ∧ C 392 l ≤ 7 ∧ -1 ≤ C 393 l ∧ C 393 l ≤ 9 ∧ -1 ≤ C 394 l ∧ C 394 l ≤ 99) ∧ (∀ r, r < 3 → -1 ≤ C 398 r ∧ C 398 r ≤ 99 ∧ -1 ≤ C 399 r ∧ C 399 r ≤ 99)
def DX (s : S2) : Prop := s 1578 0 0 = 13 ∧ CS (cw s 5)
theorem DX.fr {P : Nat → Nat → Bool} {s s' : S2} (h : DX s) (e : Fr P s s') (h1 : P 1578 0 = false) (h2 : ∀ f, 384 ≤ f → f ≤ 399 → P f 5 = false) : DX s' := by
  unfold DX
  rw [e _ _ h1, e.cw h2]
  exact h
def Inv (s : S2) : Prop := ∃ R K, BK s R K ∧ TP s ∧ IW R s 0 (live s) ∧ IM R s ∧ DX s ∧ s 1589 0 0 = 0
theorem live_e {s s' : S2} (h : ∀ f k, jr f k → s' f 0 k = s f 0 k) : live s' = live s := nJ_ext h
theorem ask_live {s s' : S2} (h : Ask s s') : live s' = live s := live_e fun f k hr => by
  obtain ⟨a1, ⟨b1, b2, b3, b4, b5, b6⟩, -, -⟩ := h
  by_cases q : f = 1537 ∨ f = 1538 ∨ f = 1539 ∨ f = 1544 ∨ f = 1547 ∨ f = 1548
  · rcases q with rfl | rfl | rfl | rfl | rfl | rfl
    · exact b1 k (by unfold jr at hr; omega)
    · exact b2 k (by unfold jr at hr; omega)
    · exact b3 k (by unfold jr at hr; omega)
    · exact b4 k (by unfold jr at hr; omega)
    · exact b5 k (by unfold jr at hr; omega)
    · exact b6 k (by unfold jr at hr; omega)
  · rw [a1 f 0 (pAk_f.mpr (by unfold jr at hr; omega))]
theorem Ask.we {s s' : S2} (h : Ask s s') {w : Nat} (hw : w ≤ 4) : WE s s' w := h.1.we (fun f g1 g2 => pAk_f.mpr (by omega)) (fun f j g1 g2 g3 => pAk_f.mpr (by omega)) (fun f g1 g2 => pAk_f.mpr (by omega))
theorem Inv.ask {s s' : S2} (h : Inv s) (e : Ask s s') : Inv s' := by
  obtain ⟨R, K, a1, a2, a3, a4, a5, a6⟩ := h
  have e1 := e.1
  refine ⟨R, K, a1.fr e1 (pAk_f.mpr (by omega)) (pAk_f.mpr (by omega)) (fun r hr => ⟨pAk_f.mpr (by omega), pAk_f.mpr (by omega)⟩) (fun f g1 g2 => pAk_f.mpr (by omega)), a2.fr e1 (pAk_f.mpr (by omega)) (pAk_f.mpr (by omega)) (pAk_f.mpr (by omega)) (pAk_f.mpr (by omega)), ?_, a4.fr (e1 _ _ (pAk_f.mpr (by omega))) (e1 _ _ (pAk_f.mpr (by omega))) (e1 _ _ (pAk_f.mpr (by omega))) e.2.2.2 (fun w g1 g2 => e.we g2), a5.fr e1 (pAk_f.mpr (by omega)) (fun f g1 g2 => pAk_f.mpr (by omega)), by rw [e.2.2.1]; exact a6⟩
  rw [ask_live e]
  exact a3.we (e.we (by omega))
theorem live_t {s : S2} {f k : Nat} (h : jr f k) : live s f k = s f 0 k := nJ_t h
theorem CR_live {C : V2} {s : S2} : CR C (jS (live s)) ↔ CR C s := by
  have e1 : ∀ k, k < 11 → jS (live s) 1537 0 k = s 1537 0 k := fun k hk => live_t (by unfold jr; omega)
  unfold CR
  rw [e1 0 (by omega), e1 1 (by omega), e1 2 (by omega), e1 3 (by omega), e1 4 (by omega), e1 5 (by omega)]
  refine and_congr Iff.rfl (and_congr ?_ (and_congr ?_ ?_))
  · refine forall_congr' fun l => forall_congr' fun hl => forall_congr' fun _ => ?_
    show live s 1540 l = _ ∧ live s 1541 l = _ ∧ live s 1542 l = _ ∧ live s 1543 l = _ ↔ _
    rw [live_t (by unfold jr; omega), live_t (by unfold jr; omega), live_t (by unfold jr; omega), live_t (by unfold jr; omega)]
  · refine forall_congr' fun l => forall_congr' fun hl => forall_congr' fun _ => ?_
    show live s 1545 l = _ ∧ live s 1546 l = _ ∧ live s 1555 l = _ ↔ _
    rw [live_t (by unfold jr; omega), live_t (by unfold jr; omega), live_t (by unfold jr; omega)]
  · refine forall_congr' fun l => forall_congr' fun hl => forall_congr' fun _ => ?_
    show live s 1549 l = _ ∧ live s 1550 l = _ ↔ _
    rw [live_t (by unfold jr; omega), live_t (by unfold jr; omega)]
theorem YR_live {C Y : V2} {s : S2} : YR C Y (jS (live s)) ↔ YR C Y s := by
  have e1 : ∀ k, k < 11 → jS (live s) 1537 0 k = s 1537 0 k := fun k hk => live_t (by unfold jr; omega)
  unfold YR
  rw [e1 7 (by omega), e1 6 (by omega)]
  refine and_congr Iff.rfl (and_congr Iff.rfl (and_congr ?_ (and_congr ?_ ?_)))
  · refine forall_congr' fun l => forall_congr' fun hl => forall_congr' fun _ => ?_
    show live s 1544 l = _ ↔ _
    rw [live_t (by unfold jr; omega)]
  · refine forall_congr' fun l => forall_congr' fun hl => forall_congr' fun _ => ?_
    show live s 1547 l = _ ∧ live s 1548 l = _ ↔ _
    rw [live_t (by unfold jr; omega), live_t (by unfold jr; omega)]
  · refine forall_congr' fun l => forall_congr' fun hl => forall_congr' fun _ => ?_
    show live s 1538 l = _ ∧ live s 1539 l = _ ↔ _
    rw [live_t (by unfold jr; omega), live_t (by unfold jr; omega)]
/-- the signs of rule r, or of none -/
def lawK (K : Nat → List Int) (r : Int) : List Int := if r = -1 then [-260, -59] else K r.toNat
theorem plain_wf : wfc [-260, -59] [] := by
  rw [wfc, if_neg (by decide), if_neg (by decide)]
  refine ⟨[false], rfl, by decide, ?_⟩
  rw [wfc, if_pos rfl]
theorem BK.law {s : S2} {R : Nat} {K : Nat → List Int} {r : Int} (h : BK s R K) (h1 : -1 ≤ r) (h2 : r < R) : hasL s (lawI s r) (lawK K r) ∧ wfc (lawK K r) [] ∧ ((r = -1 ∧ lawK K r = [-260, -59]) ∨ ∃ n : Nat, r = n ∧ MLaw s n (lawK K r)) := by
  obtain ⟨a1, a2, a3, a4, a5⟩ := h
  unfold lawI lawK
  rw [a1]
  by_cases e : r = -1
  · subst e
    rw [if_neg (by omega), if_pos rfl]
    exact ⟨a5, plain_wf, Or.inl ⟨rfl, rfl⟩⟩
  · obtain ⟨n, rfl⟩ := Int.eq_ofNat_of_zero_le (show 0 ≤ r by omega)
    rw [if_pos (by omega), if_neg e, Int.toNat_natCast]
    obtain ⟨b1, b2, b3⟩ := a4 n (by omega)
    exact ⟨b1, b2, Or.inr ⟨n, rfl, b3⟩⟩
theorem Inv.rel {s : S2} (h : Inv s) : ∃ R K, BK s R K ∧ IW R s 0 (live s) ∧ Rel s (cw s 0) (yv s 0) (lawK K (s 1033 0 0)) := by
  obtain ⟨R, K, a1, a2, a3, a4, a5, a6⟩ := h
  refine ⟨R, K, a1, a3, ?_⟩
  obtain ⟨⟨b1, b2, b3, b4, b5⟩, -, -, -, b6⟩ := a3
  obtain ⟨c1, c2, c3, -⟩ := b6
  rw [uw1 (by omega)] at c1 c2 c3
  obtain ⟨d1, d2, d3⟩ := a1.law c2 c3
  have c4 : s 1537 0 10 = s 1033 0 0 := by rw [c1]; exact (live_t (by unfold jr; omega)).symm
  refine ⟨rfl, rfl, b1, b2, b3, d1, d2, CR_live.mp b4, YR_live.mp b5, ?_, a6, Or.inl rfl⟩
  unfold MF
  rw [c4]
  rcases d3 with ⟨e1, e2⟩ | ⟨n, e1, e2⟩
  · exact Or.inl ⟨e1, e2⟩
  · exact Or.inr ⟨n, e1, e2⟩
